/-! PART g2: each piece's reading, and a whole text's -/
theorem StS.eqL {S : PT} {i u s : Nat} {l l' : List (Nat × Int32)} (h : StS S i u s l) (e : l = l') : StS S i u s l' := e ▸ h
theorem Go.eqL {f : PT → PR} {S : PT} {i u s : Nat} {l l' : List (Nat × Int32)} (h : Go f S (fun S' => StS S' i u s l)) (e : l = l') : Go f S (fun S' => StS S' i u s l') := h.mono (fun _ q => q.eqL e)
theorem set_app {α : Type} (l X : List α) (j : Nat) (v : α) : (l ++ X).set (l.length + j) v = l ++ X.set j v := by
  rw [List.set_append_right _ _ (Nat.le_add_right _ _), Nat.add_sub_cancel_left]
theorem getD_app {α : Type} (l X : List α) (j : Nat) (v : α) : (l ++ X).getD (l.length + j) v = X.getD j v := by
  rw [List.getD_eq_getElem?_getD, List.getD_eq_getElem?_getD, List.getElem?_append_right (Nat.le_add_right _ _), Nat.add_sub_cancel_left]
theorem ap5 {α : Type} (l : List α) (a b c d e : α) : l ++ [a] ++ [b] ++ [c] ++ [d] ++ [e] = l ++ [a, b, c, d, e] := by simp
theorem ap4 {α : Type} (l : List α) (a b c d : α) : l ++ [a] ++ [b] ++ [c] ++ [d] = l ++ [a, b, c, d] := by simp
section PS
variable {T : TD} {S : PT} {i u s n : Nat} {l : List (Nat × Int32)}
theorem noS_59 : noS 59 := ⟨by decide, by decide, by decide, by decide⟩
/-- c = c + 1 and its like, at a place among tokens -/
theorem go_cc {k x y z : Nat} {b : PT → PR} (h : StS S i u s l) (hs : s < 60) (hu : u + 1 < 150) (hz : z ≤ 255) (a0 : tK T i = 2) (b0 : tV T i = nI x) (a1 : tK T (i + 1) = 61) (a2 : tK T (i + 2) = 2) (b2 : tV T (i + 2) = nI y) (a3 : tK T (i + 3) = 43) (a4 : tK T (i + 4) = 4) (b4 : tV T (i + 4) = nI z) (a5 : tK T (i + 5) = 59) :
    Go (stF T k b) S (fun S' => StS S' (i + 6) (u + 2) (s + 1) (l ++ [(0, nI s), (3, nI y), (2, nI z), (5, 0), (15, nI x)])) :=
  (go_sum h hs a0 b0 a1 (fun _ h2 => sm_name_num h2 a2 b2 a3 a4 b4 hz hu (by rw [a5]; exact noS_59)) a5).eqL (ap5 _ _ _ _ _ _)
theorem go_cm {k x y z : Nat} {b : PT → PR} (h : StS S i u s l) (hs : s < 60) (hu : u + 1 < 150) (hz : z ≤ 255) (a0 : tK T i = 2) (b0 : tV T i = nI x) (a1 : tK T (i + 1) = 61) (a2 : tK T (i + 2) = 2) (b2 : tV T (i + 2) = nI y) (a3 : tK T (i + 3) = 42) (a4 : tK T (i + 4) = 4) (b4 : tV T (i + 4) = nI z) (a5 : tK T (i + 5) = 59) :
    Go (stF T k b) S (fun S' => StS S' (i + 6) (u + 2) (s + 1) (l ++ [(0, nI s), (3, nI y), (2, nI z), (7, 0), (15, nI x)])) :=
  (go_sum h hs a0 b0 a1 (fun _ h2 => sm_name_mul h2 a2 b2 a3 a4 b4 hz hu (by rw [a5]; exact noS_59)) a5).eqL (ap5 _ _ _ _ _ _)
theorem go_cn {k x y z : Nat} {b : PT → PR} (h : StS S i u s l) (hs : s < 60) (hu : u + 1 < 150) (a0 : tK T i = 2) (b0 : tV T i = nI x) (a1 : tK T (i + 1) = 61) (a2 : tK T (i + 2) = 2) (b2 : tV T (i + 2) = nI y) (a3 : tK T (i + 3) = 43) (a4 : tK T (i + 4) = 2) (b4 : tV T (i + 4) = nI z) (a5 : tK T (i + 5) = 59) :
    Go (stF T k b) S (fun S' => StS S' (i + 6) (u + 2) (s + 1) (l ++ [(0, nI s), (3, nI y), (3, nI z), (5, 0), (15, nI x)])) :=
  (go_sum h hs a0 b0 a1 (fun _ h2 => sm_name_name h2 a2 b2 a3 a4 b4 hu (by rw [a5]; exact noS_59)) a5).eqL (ap5 _ _ _ _ _ _)
/-- a COND of a name and a number -/
theorem go_nc {k x z o : Nat} {c : Int32} (h : StS S i u s l) (hu : u + 1 < 150) (hz : z ≤ 255) (a0 : tK T i = 2) (b0 : tV T i = nI x) (a1 : tK T (i + 1) = c) (hc : (c = 60 ∧ o = 9) ∨ (c = 61 ∧ o = 10) ∨ (c = 62 ∧ o = 11) ∨ (c = 35 ∧ o = 12)) (a2 : tK T (i + 2) = 4) (b2 : tV T (i + 2) = nI z) (a3 : tK T (i + 3) = 59 ∨ tK T (i + 3) = 123) :
    Go (cnd T k) S (fun S' => StS S' (i + 3) (u + 2) s (l ++ [(3, nI x)] ++ [(2, nI z)] ++ [(o, 0)])) := by
  have n1 : noS (tK T (i + 1)) := by rw [a1]; rcases hc with ⟨rfl, -⟩ | ⟨rfl, -⟩ | ⟨rfl, -⟩ | ⟨rfl, -⟩ <;> exact ⟨by decide, by decide, by decide, by decide⟩
  have n3 : noS (tK T (i + 3)) ∧ tK T (i + 3) ≠ 15 ∧ tK T (i + 3) ≠ 16 := by rcases a3 with e | e <;> rw [e] <;> exact ⟨⟨by decide, by decide, by decide, by decide⟩, by decide, by decide⟩
  have c1 : tK T (i + 1) = 60 ∨ tK T (i + 1) = 61 ∨ tK T (i + 1) = 62 ∨ tK T (i + 1) = 35 := by rw [a1]; rcases hc with ⟨h, -⟩ | ⟨h, -⟩ | ⟨h, -⟩ | ⟨h, -⟩ <;> simp [h]
  exact go_cnd (sm_name h a0 b0 (by omega) n1) c1 (rlo_e a1 hc) (fun _ h2 => sm_num h2 a2 b2 hz hu n3.1) n3.2.1 n3.2.2
theorem ps_0 (h : StS S i u s l) (hs : s < 60) (hu : u + 1 < 150) (hn : n ≤ 255) (t : tkL T i (pcT 0 n)) : Go (bkI T 11) S (fun S' => StS S' (i + 6) (u + 2) (s + 1) (l ++ pcO 0 n s l.length)) :=
  go_cc (k := 10) h hs hu hn (t.K 0 (Nat.le_of_ble_eq_true rfl)) (t.V 0 (Nat.le_of_ble_eq_true rfl) _ rfl) (t.K 1 (Nat.le_of_ble_eq_true rfl)) (t.K 2 (Nat.le_of_ble_eq_true rfl)) (t.V 2 (Nat.le_of_ble_eq_true rfl) _ rfl) (t.K 3 (Nat.le_of_ble_eq_true rfl)) (t.K 4 (Nat.le_of_ble_eq_true rfl)) (t.V 4 (Nat.le_of_ble_eq_true rfl) _ rfl) (t.K 5 (Nat.le_of_ble_eq_true rfl))
theorem ps_1 (h : StS S i u s l) (hs : s + 2 < 60) (hu : u + 5 < 150) (hn : n ≤ 255) (hl : l.length + 16 ≤ 600) (t : tkL T i (pcT 1 n)) : Go (bkI T 11) S (fun S' => StS S' (i + 21) (u + 6) (s + 3) (l ++ pcO 1 n s l.length)) := by
  have hc : ∀ S2, StS S2 (i + 1) u (s + 1) (l ++ [(1, nI s)]) → Go (cnd T 10) S2 (fun S' => StS S' (i + 4) (u + 2) (s + 1) (l ++ [(1, nI s), (3, nI 0), (2, nI n), (9, 0)])) := fun S2 h2 =>
    (go_nc h2 (by omega) hn (t.K 1 (Nat.le_of_ble_eq_true rfl)) (t.V 1 (Nat.le_of_ble_eq_true rfl) _ rfl) (t.K 2 (Nat.le_of_ble_eq_true rfl)) (Or.inl ⟨rfl, rfl⟩) (t.K 3 (Nat.le_of_ble_eq_true rfl)) (t.V 3 (Nat.le_of_ble_eq_true rfl) _ rfl) (Or.inr (t.K 4 (Nat.le_of_ble_eq_true rfl)))).eqL (ap4 _ _ _ _ _)
  have b1 : ∀ S2, StS S2 (i + 4) (u + 2) (s + 1) (l ++ [(1, nI s), (3, nI 0), (2, nI n), (9, 0)] ++ [(21, 0)]) → Go (blo T 10 (bkI T 10)) S2 (fun S' => StS S' (i + 12) (u + 4) (s + 2) (l ++ [(1, nI s), (3, nI 0), (2, nI n), (9, 0), (21, 0), (0, nI (s + 1)), (3, nI 2), (2, nI 1), (5, 0), (15, nI 2)])) := fun S2 h2 =>
    (go_blo1 h2 (by decide) (t.K 4 (Nat.le_of_ble_eq_true rfl)) (by rw [t.K 5 (Nat.le_of_ble_eq_true rfl)]; exact (show (2 : Int32) ≠ 125 by decide)) (fun S3 h3 => go_cc (k := 9) h3 (by omega) (by omega) (by decide) (t.K 5 (Nat.le_of_ble_eq_true rfl)) (t.V 5 (Nat.le_of_ble_eq_true rfl) _ rfl) (t.K 6 (Nat.le_of_ble_eq_true rfl)) (t.K 7 (Nat.le_of_ble_eq_true rfl)) (t.V 7 (Nat.le_of_ble_eq_true rfl) _ rfl) (t.K 8 (Nat.le_of_ble_eq_true rfl)) (t.K 9 (Nat.le_of_ble_eq_true rfl)) (t.V 9 (Nat.le_of_ble_eq_true rfl) _ rfl) (t.K 10 (Nat.le_of_ble_eq_true rfl))) (t.K 11 (Nat.le_of_ble_eq_true rfl))).eqL (by simp)
  have h4 : (l ++ [(1, nI s), (3, nI 0), (2, nI n), (9, 0)] : List (Nat × Int32)).length = l.length + 4 := List.length_append
  have h10 : (l ++ [(1, nI s), (3, nI 0), (2, nI n), (9, 0), (21, 0), (0, nI (s + 1)), (3, nI 2), (2, nI 1), (5, 0), (15, nI 2)] : List (Nat × Int32)).length = l.length + 10 := List.length_append
  have e11 : (l ++ [(1, nI s), (3, nI 0), (2, nI n), (9, 0), (21, 0), (0, nI (s + 1)), (3, nI 2), (2, nI 1), (5, 0), (15, nI 2)] ++ [(22, 0)] : List (Nat × Int32)) = l ++ [(1, nI s), (3, nI 0), (2, nI n), (9, 0), (21, 0), (0, nI (s + 1)), (3, nI 2), (2, nI 1), (5, 0), (15, nI 2), (22, 0)] := by simp
  have h11 : (l ++ [(1, nI s), (3, nI 0), (2, nI n), (9, 0), (21, 0), (0, nI (s + 1)), (3, nI 2), (2, nI 1), (5, 0), (15, nI 2), (22, 0)] : List (Nat × Int32)).length = l.length + 11 := List.length_append
  have f11 : ((l ++ [(1, nI s), (3, nI 0), (2, nI n), (9, 0), (21, 0), (0, nI (s + 1)), (3, nI 2), (2, nI 1), (5, 0), (15, nI 2)] ++ [(22, 0)] : List (Nat × Int32)).set (l ++ [(1, nI s), (3, nI 0), (2, nI n), (9, 0)] : List (Nat × Int32)).length (((l ++ [(1, nI s), (3, nI 0), (2, nI n), (9, 0), (21, 0), (0, nI (s + 1)), (3, nI 2), (2, nI 1), (5, 0), (15, nI 2)] ++ [(22, 0)] : List (Nat × Int32)).getD (l ++ [(1, nI s), (3, nI 0), (2, nI n), (9, 0)] : List (Nat × Int32)).length (0, 0)).1, nI (min (l ++ [(1, nI s), (3, nI 0), (2, nI n), (9, 0), (21, 0), (0, nI (s + 1)), (3, nI 2), (2, nI 1), (5, 0), (15, nI 2)] ++ [(22, 0)] : List (Nat × Int32)).length 600))) = l ++ [(1, nI s), (3, nI 0), (2, nI n), (9, 0), (21, nI (l.length + 11)), (0, nI (s + 1)), (3, nI 2), (2, nI 1), (5, 0), (15, nI 2), (22, 0)] := by
    rw [e11, h4, h11, set_app, getD_app, Nat.min_eq_left (by omega)]; rfl
  have b2 : ∀ S2, StS S2 (i + 13) (u + 4) (s + 2) (l ++ [(1, nI s), (3, nI 0), (2, nI n), (9, 0), (21, nI (l.length + 11)), (0, nI (s + 1)), (3, nI 2), (2, nI 1), (5, 0), (15, nI 2), (22, 0)]) → Go (blo T 10 (bkI T 10)) S2 (fun S' => StS S' (i + 21) (u + 6) (s + 3) (l ++ [(1, nI s), (3, nI 0), (2, nI n), (9, 0), (21, nI (l.length + 11)), (0, nI (s + 1)), (3, nI 2), (2, nI 1), (5, 0), (15, nI 2), (22, 0), (0, nI (s + 2)), (3, nI 2), (2, nI 2), (7, 0), (15, nI 2)])) := fun S2 h2 =>
    (go_blo1 h2 (by decide) (t.K 13 (Nat.le_of_ble_eq_true rfl)) (by rw [t.K 14 (Nat.le_of_ble_eq_true rfl)]; exact (show (2 : Int32) ≠ 125 by decide)) (fun S3 h3 => go_cm (k := 9) h3 (by omega) (by omega) (by decide) (t.K 14 (Nat.le_of_ble_eq_true rfl)) (t.V 14 (Nat.le_of_ble_eq_true rfl) _ rfl) (t.K 15 (Nat.le_of_ble_eq_true rfl)) (t.K 16 (Nat.le_of_ble_eq_true rfl)) (t.V 16 (Nat.le_of_ble_eq_true rfl) _ rfl) (t.K 17 (Nat.le_of_ble_eq_true rfl)) (t.K 18 (Nat.le_of_ble_eq_true rfl)) (t.V 18 (Nat.le_of_ble_eq_true rfl) _ rfl) (t.K 19 (Nat.le_of_ble_eq_true rfl))) (t.K 20 (Nat.le_of_ble_eq_true rfl))).eqL (by simp)
  have h16 : (l ++ [(1, nI s), (3, nI 0), (2, nI n), (9, 0), (21, nI (l.length + 11)), (0, nI (s + 1)), (3, nI 2), (2, nI 1), (5, 0), (15, nI 2), (22, 0), (0, nI (s + 2)), (3, nI 2), (2, nI 2), (7, 0), (15, nI 2)] : List (Nat × Int32)).length = l.length + 16 := List.length_append
  refine (go_if (k := 10) h (by omega) (t.K 0 (Nat.le_of_ble_eq_true rfl)) hc b1 (t.K 12 (Nat.le_of_ble_eq_true rfl)) (by rw [h4, h10]; omega) (fun S2 h2 => b2 S2 (h2.eqL f11)) (by rw [h10, h16]; omega)).eqL ?_
  rw [h10, h16, set_app, getD_app, Nat.min_eq_left (by omega)]; rfl
theorem ps_2 (h : StS S i u s l) (hs : s + 2 < 60) (hu : u + 5 < 150) (hn : n ≤ 255) (hl : l.length + 16 ≤ 600) (t : tkL T i (pcT 2 n)) : Go (bkI T 11) S (fun S' => StS S' (i + 18) (u + 6) (s + 3) (l ++ pcO 2 n s l.length)) := by
  have hc : ∀ S2, StS S2 (i + 1) u (s + 1) (l ++ [(1, nI s)]) → Go (cnd T 10) S2 (fun S' => StS S' (i + 4) (u + 2) (s + 1) (l ++ [(1, nI s), (3, nI 2), (2, nI n), (9, 0)])) := fun S2 h2 =>
    (go_nc h2 (by omega) hn (t.K 1 (Nat.le_of_ble_eq_true rfl)) (t.V 1 (Nat.le_of_ble_eq_true rfl) _ rfl) (t.K 2 (Nat.le_of_ble_eq_true rfl)) (Or.inl ⟨rfl, rfl⟩) (t.K 3 (Nat.le_of_ble_eq_true rfl)) (t.V 3 (Nat.le_of_ble_eq_true rfl) _ rfl) (Or.inr (t.K 4 (Nat.le_of_ble_eq_true rfl)))).eqL (ap4 _ _ _ _ _)
  have b1 : ∀ S2, StS S2 (i + 4) (u + 2) (s + 1) (l ++ [(1, nI s), (3, nI 2), (2, nI n), (9, 0)] ++ [(21, 0)]) → Go (blo T 10 (bkI T 10)) S2 (fun S' => StS S' (i + 18) (u + 6) (s + 3) (l ++ [(1, nI s), (3, nI 2), (2, nI n), (9, 0), (21, 0), (0, nI (s + 1)), (3, nI 2), (2, nI 1), (5, 0), (15, nI 2), (0, nI (s + 2)), (3, nI 3), (3, nI 0), (5, 0), (15, nI 3)])) := fun S2 h2 =>
    (go_blo2 h2 (by decide) (t.K 4 (Nat.le_of_ble_eq_true rfl)) (by rw [t.K 5 (Nat.le_of_ble_eq_true rfl)]; exact (show (2 : Int32) ≠ 125 by decide)) (fun S3 h3 => go_cc (k := 9) h3 (by omega) (by omega) (by decide) (t.K 5 (Nat.le_of_ble_eq_true rfl)) (t.V 5 (Nat.le_of_ble_eq_true rfl) _ rfl) (t.K 6 (Nat.le_of_ble_eq_true rfl)) (t.K 7 (Nat.le_of_ble_eq_true rfl)) (t.V 7 (Nat.le_of_ble_eq_true rfl) _ rfl) (t.K 8 (Nat.le_of_ble_eq_true rfl)) (t.K 9 (Nat.le_of_ble_eq_true rfl)) (t.V 9 (Nat.le_of_ble_eq_true rfl) _ rfl) (t.K 10 (Nat.le_of_ble_eq_true rfl))) (by rw [show i + 4 + 1 + 6 = i + 11 from rfl, t.K 11 (Nat.le_of_ble_eq_true rfl)]; exact (show (2 : Int32) ≠ 125 by decide))
      (fun S3 h3 => go_cn (k := 9) h3 (by omega) (by omega) (t.K 11 (Nat.le_of_ble_eq_true rfl)) (t.V 11 (Nat.le_of_ble_eq_true rfl) _ rfl) (t.K 12 (Nat.le_of_ble_eq_true rfl)) (t.K 13 (Nat.le_of_ble_eq_true rfl)) (t.V 13 (Nat.le_of_ble_eq_true rfl) _ rfl) (t.K 14 (Nat.le_of_ble_eq_true rfl)) (t.K 15 (Nat.le_of_ble_eq_true rfl)) (t.V 15 (Nat.le_of_ble_eq_true rfl) _ rfl) (t.K 16 (Nat.le_of_ble_eq_true rfl))) (t.K 17 (Nat.le_of_ble_eq_true rfl))).eqL (by simp)
  have h4 : (l ++ [(1, nI s), (3, nI 2), (2, nI n), (9, 0)] : List (Nat × Int32)).length = l.length + 4 := List.length_append
  have h15 : (l ++ [(1, nI s), (3, nI 2), (2, nI n), (9, 0), (21, 0), (0, nI (s + 1)), (3, nI 2), (2, nI 1), (5, 0), (15, nI 2), (0, nI (s + 2)), (3, nI 3), (3, nI 0), (5, 0), (15, nI 3)] : List (Nat × Int32)).length = l.length + 15 := List.length_append
  refine (go_while (k := 10) h (by omega) (t.K 0 (Nat.le_of_ble_eq_true rfl)) hc b1 (by rw [h4, h15]; omega)).eqL ?_
  have e16 : (l ++ [(1, nI s), (3, nI 2), (2, nI n), (9, 0), (21, 0), (0, nI (s + 1)), (3, nI 2), (2, nI 1), (5, 0), (15, nI 2), (0, nI (s + 2)), (3, nI 3), (3, nI 0), (5, 0), (15, nI 3)] ++ [(22, nI l.length)] : List (Nat × Int32)) = l ++ [(1, nI s), (3, nI 2), (2, nI n), (9, 0), (21, 0), (0, nI (s + 1)), (3, nI 2), (2, nI 1), (5, 0), (15, nI 2), (0, nI (s + 2)), (3, nI 3), (3, nI 0), (5, 0), (15, nI 3), (22, nI l.length)] := by simp
  have h16 : (l ++ [(1, nI s), (3, nI 2), (2, nI n), (9, 0), (21, 0), (0, nI (s + 1)), (3, nI 2), (2, nI 1), (5, 0), (15, nI 2), (0, nI (s + 2)), (3, nI 3), (3, nI 0), (5, 0), (15, nI 3), (22, nI l.length)] : List (Nat × Int32)).length = l.length + 16 := List.length_append
  rw [Nat.min_eq_left (show l.length ≤ 600 by omega), e16, h4, h16, set_app, getD_app, Nat.min_eq_left (by omega)]; rfl
theorem ps_3 (h : StS S i u s l) (hs : s < 60) (hu : u + 1 < 150) (hn : n ≤ 255) (t : tkL T i (pcT 3 n)) : Go (bkI T 11) S (fun S' => StS S' (i + 5) (u + 2) (s + 1) (l ++ pcO 3 n s l.length)) :=
  (go_must (k := 10) h hs (t.K 0 (Nat.le_of_ble_eq_true rfl)) (fun S2 h2 => go_nc h2 hu hn (t.K 1 (Nat.le_of_ble_eq_true rfl)) (t.V 1 (Nat.le_of_ble_eq_true rfl) _ rfl) (t.K 2 (Nat.le_of_ble_eq_true rfl)) (Or.inr (Or.inr (Or.inr ⟨rfl, rfl⟩))) (t.K 3 (Nat.le_of_ble_eq_true rfl)) (t.V 3 (Nat.le_of_ble_eq_true rfl) _ rfl) (Or.inl (t.K 4 (Nat.le_of_ble_eq_true rfl)))) (t.K 4 (Nat.le_of_ble_eq_true rfl))).eqL (ap5 _ _ _ _ _ _)
theorem ps_4 (h : StS S i u s l) (hs : s < 60) (hu : u + 1 < 150) (hn : n ≤ 255) (t : tkL T i (pcT 4 n)) : Go (bkI T 11) S (fun S' => StS S' (i + 5) (u + 2) (s + 1) (l ++ pcO 4 n s l.length)) :=
  (go_let (k := 10) h hs (t.K 0 (Nat.le_of_ble_eq_true rfl)) (fun S2 h2 => go_nc h2 hu hn (t.K 1 (Nat.le_of_ble_eq_true rfl)) (t.V 1 (Nat.le_of_ble_eq_true rfl) _ rfl) (t.K 2 (Nat.le_of_ble_eq_true rfl)) (Or.inr (Or.inr (Or.inl ⟨rfl, rfl⟩))) (t.K 3 (Nat.le_of_ble_eq_true rfl)) (t.V 3 (Nat.le_of_ble_eq_true rfl) _ rfl) (Or.inl (t.K 4 (Nat.le_of_ble_eq_true rfl)))) (t.K 4 (Nat.le_of_ble_eq_true rfl))).eqL (ap5 _ _ _ _ _ _)
theorem ps_5 (h : StS S i u s l) (hs : s < 60) (hu : u + 1 < 150) (t : tkL T i (pcT 5 n)) : Go (bkI T 11) S (fun S' => StS S' (i + 6) (u + 2) (s + 1) (l ++ pcO 5 n s l.length)) :=
  (go_sum (k := 10) h hs (t.K 0 (Nat.le_of_ble_eq_true rfl)) (t.V 0 (Nat.le_of_ble_eq_true rfl) _ rfl) (t.K 1 (Nat.le_of_ble_eq_true rfl)) (fun _ h2 => sm_name_div h2 (t.K 2 (Nat.le_of_ble_eq_true rfl)) (t.V 2 (Nat.le_of_ble_eq_true rfl) _ rfl) (t.K 3 (Nat.le_of_ble_eq_true rfl)) (t.K 4 (Nat.le_of_ble_eq_true rfl)) (t.V 4 (Nat.le_of_ble_eq_true rfl) _ rfl) hu (by rw [show i + 2 + 3 = i + 5 from rfl, t.K 5 (Nat.le_of_ble_eq_true rfl)]; exact noS_59)) (t.K 5 (Nat.le_of_ble_eq_true rfl))).eqL (ap5 _ _ _ _ _ _)
theorem ps_6 (h : StS S i u s l) (hs : s < 60) (hu : u + 2 < 150) (hn : n ≤ 255) (t : tkL T i (pcT 6 n)) : Go (bkI T 11) S (fun S' => StS S' (i + 9) (u + 3) (s + 1) (l ++ pcO 6 n s l.length)) :=
  (go_lay (k := 10) h hs (by decide) (t.K 0 (Nat.le_of_ble_eq_true rfl)) (t.K 1 (Nat.le_of_ble_eq_true rfl)) (fun _ h2 => sm_name_num h2 (t.K 2 (Nat.le_of_ble_eq_true rfl)) (t.V 2 (Nat.le_of_ble_eq_true rfl) _ rfl) (t.K 3 (Nat.le_of_ble_eq_true rfl)) (t.K 4 (Nat.le_of_ble_eq_true rfl)) (t.V 4 (Nat.le_of_ble_eq_true rfl) _ rfl) hn (by omega) (by rw [show i + 2 + 3 = i + 5 from rfl, t.K 5 (Nat.le_of_ble_eq_true rfl)]; exact (show noS 93 from ⟨by decide, by decide, by decide, by decide⟩))) (t.K 5 (Nat.le_of_ble_eq_true rfl)) (t.K 6 (Nat.le_of_ble_eq_true rfl))
    (fun _ h2 => sm_name h2 (t.K 7 (Nat.le_of_ble_eq_true rfl)) (t.V 7 (Nat.le_of_ble_eq_true rfl) _ rfl) (by omega) (by rw [show i + 2 + 3 + 2 + 1 = i + 8 from rfl, t.K 8 (Nat.le_of_ble_eq_true rfl)]; exact noS_59)) (t.K 8 (Nat.le_of_ble_eq_true rfl))).eqL (by simp [pcO])
theorem ps_7 (h : StS S i u s l) (hs : s < 60) (hu : u + 2 < 150) (hn : n ≤ 255) (t : tkL T i (pcT 7 n)) : Go (bkI T 11) S (fun S' => StS S' (i + 9) (u + 3) (s + 1) (l ++ pcO 7 n s l.length)) :=
  (go_sum (k := 10) h hs (t.K 0 (Nat.le_of_ble_eq_true rfl)) (t.V 0 (Nat.le_of_ble_eq_true rfl) _ rfl) (t.K 1 (Nat.le_of_ble_eq_true rfl)) (fun _ h2 => sm_cell_name h2 (t.K 2 (Nat.le_of_ble_eq_true rfl)) (t.K 3 (Nat.le_of_ble_eq_true rfl)) (t.K 4 (Nat.le_of_ble_eq_true rfl)) (t.V 4 (Nat.le_of_ble_eq_true rfl) _ rfl) hn (t.K 5 (Nat.le_of_ble_eq_true rfl)) (t.K 6 (Nat.le_of_ble_eq_true rfl)) (t.K 7 (Nat.le_of_ble_eq_true rfl)) (t.V 7 (Nat.le_of_ble_eq_true rfl) _ rfl) hu (by rw [show i + 2 + 6 = i + 8 from rfl, t.K 8 (Nat.le_of_ble_eq_true rfl)]; exact noS_59)) (t.K 8 (Nat.le_of_ble_eq_true rfl))).eqL (by simp [pcO])
end PS
theorem ps_piece {T : TD} {S : PT} {i u s n k : Nat} {l : List (Nat × Int32)} (hk : k < 8) (h : StS S i u s l) (hs : s + 2 < 60) (hu : u + 5 < 150) (hn : n ≤ 255) (hl : l.length + 16 ≤ 600) (t : tkL T i (pcT k n)) : Go (bkI T 11) S (fun S' => StS S' (i + (pcT k n).length) (u + pcU k) (s + pcN k) (l ++ pcO k n s l.length)) := by
  rcases (show k = 0 ∨ k = 1 ∨ k = 2 ∨ k = 3 ∨ k = 4 ∨ k = 5 ∨ k = 6 ∨ k = 7 by omega) with e | e | e | e | e | e | e | e <;> subst e
  · exact ps_0 h (by omega) (by omega) hn t
  · exact ps_1 h hs hu hn hl t
  · exact ps_2 h hs hu hn hl t
  · exact ps_3 h (by omega) (by omega) hn t
  · exact ps_4 h (by omega) (by omega) hn t
  · exact ps_5 h (by omega) (by omega) t
  · exact ps_6 h (by omega) (by omega) hn t
  · exact ps_7 h (by omega) (by omega) hn t
/-- orders, steps, tokens of a list of pieces -/
def plO : List (Nat × Nat) → Nat → List (Nat × Int32) → List (Nat × Int32)
  | [], _, l => l
  | p :: ps, s, l => plO ps (s + pcN p.1) (l ++ pcO p.1 p.2 s l.length)
def plN : List (Nat × Nat) → Nat
  | [] => 0
  | p :: ps => pcN p.1 + plN ps
def plT : List (Nat × Nat) → List (Int32 × Option Int32)
  | [] => []
  | p :: ps => pcT p.1 p.2 ++ plT ps
theorem pcO_len {k n s c : Nat} : (pcO k n s c).length ≤ 16 := by
  unfold pcO; split <;> exact Nat.le_of_ble_eq_true rfl
theorem pcN_le (k : Nat) : 1 ≤ pcN k ∧ pcN k ≤ 3 := by unfold pcN; split <;> omega
theorem pcU_le (k : Nat) : pcU k ≤ 6 := by unfold pcU; split <;> decide
theorem pcT_st {k n : Nat} (hk : k < 8) : 0 < (pcT k n).length ∧ ((pcT k n).getD 0 (0, none)).1 ≠ 1 ∧ ((pcT k n).getD 0 (0, none)).1 ≠ 5 := by
  rcases (show k = 0 ∨ k = 1 ∨ k = 2 ∨ k = 3 ∨ k = 4 ∨ k = 5 ∨ k = 6 ∨ k = 7 by omega) with e | e | e | e | e | e | e | e <;> subst e
  · exact ⟨Nat.succ_pos _, show (2 : Int32) ≠ 1 by decide, show (2 : Int32) ≠ 5 by decide⟩
  · exact ⟨Nat.succ_pos _, show (8 : Int32) ≠ 1 by decide, show (8 : Int32) ≠ 5 by decide⟩
  · exact ⟨Nat.succ_pos _, show (10 : Int32) ≠ 1 by decide, show (10 : Int32) ≠ 5 by decide⟩
  · exact ⟨Nat.succ_pos _, show (11 : Int32) ≠ 1 by decide, show (11 : Int32) ≠ 5 by decide⟩
  · exact ⟨Nat.succ_pos _, show (12 : Int32) ≠ 1 by decide, show (12 : Int32) ≠ 5 by decide⟩
  · exact ⟨Nat.succ_pos _, show (2 : Int32) ≠ 1 by decide, show (2 : Int32) ≠ 5 by decide⟩
  · exact ⟨Nat.succ_pos _, show (7 : Int32) ≠ 1 by decide, show (7 : Int32) ≠ 5 by decide⟩
  · exact ⟨Nat.succ_pos _, show (2 : Int32) ≠ 1 by decide, show (2 : Int32) ≠ 5 by decide⟩
theorem tkL.left {T : TD} {i : Nat} {a b : List (Int32 × Option Int32)} (h : tkL T i (a ++ b)) : tkL T i a := fun j hj => by
  have := h j (by rw [List.length_append]; omega)
  rw [List.getD_eq_getElem?_getD, List.getElem?_append_left hj, ← List.getD_eq_getElem?_getD] at this
  exact this
theorem tkL.right {T : TD} {i : Nat} {a b : List (Int32 × Option Int32)} (h : tkL T i (a ++ b)) : tkL T (i + a.length) b := fun j hj => by
  have := h (a.length + j) (by rw [List.length_append]; omega)
  rw [getD_app, ← Nat.add_assoc] at this
  exact this
theorem ps_list {T : TD} : ∀ (ps : List (Nat × Nat)) (f i u s : Nat) (l : List (Nat × Int32)) (S : PT), (∀ p, p ∈ ps → p.1 < 8 ∧ p.2 ≤ 255) → ps.length < f → StS S i u s l → s + 3 * ps.length < 60 → u + 6 * ps.length < 150 → l.length + 16 * ps.length ≤ 600 → tkL T i (plT ps) → tK T (i + (plT ps).length) = 1 →
    Go (stl T f) S (fun S' => ∃ i' u', StS S' i' u' (s + plN ps) (plO ps s l))
  | [], f, i, u, s, l, S, hp, hf, h, hs, hu, hl, t, he => by
    obtain ⟨f, rfl⟩ : ∃ g, f = g + 1 := ⟨f - 1, by simp at hf; omega⟩
    refine ⟨S, ?_, i, u, h⟩
    have he' : tK T i = 1 := he
    unfold stl
    rw [h.1, if_pos he']
  | p :: ps, f, i, u, s, l, S, hp, hf, h, hs, hu, hl, t, he => by
    obtain ⟨f, rfl⟩ : ∃ g, f = g + 1 := ⟨f - 1, by simp at hf; omega⟩
    have ep : (p :: ps).length = ps.length + 1 := rfl
    rw [ep] at hf hs hu hl
    have hp0 := hp p List.mem_cons_self
    have t1 : tkL T i (pcT p.1 p.2) := t.left
    have st := pcT_st (n := p.2) hp0.1
    have n3 := pcN_le p.1
    have u6 := pcU_le p.1
    obtain ⟨S2, e2, g2⟩ := ps_piece hp0.1 h (by omega) (by omega) hp0.2 (by omega) t1
    have el : (plT (p :: ps)).length = (pcT p.1 p.2).length + (plT ps).length := List.length_append
    obtain ⟨S3, e3, i3, u3, g3⟩ := ps_list ps f (i + (pcT p.1 p.2).length) (u + pcU p.1) (s + pcN p.1) (l ++ pcO p.1 p.2 s l.length) S2 (fun q hq => hp q (List.mem_cons_of_mem _ hq)) (by omega) g2 (by omega) (by omega) (by rw [List.length_append]; have := pcO_len (k := p.1) (n := p.2) (s := s) (c := l.length); omega) t.right (by rw [← he, el, Nat.add_assoc])
    refine ⟨S3, ?_, i3, u3, ?_⟩
    · have k0 : tK T i ≠ 1 := by have := t1.K 0 st.1; rw [Nat.add_zero] at this; rw [this]; exact st.2.1
      unfold stl
      rw [h.1, if_neg k0, e2, pb_ok, e3]
    · show StS S3 i3 u3 (s + (pcN p.1 + plN ps)) _
      rw [← Nat.add_assoc]; exact g3
/-- a whole text -/
theorem ps_prog {T : TD} {ps : List (Nat × Nat)} (hp : ∀ p, p ∈ ps → p.1 < 8 ∧ p.2 ≤ 255) (hl : ps.length ≤ 5) (t : tkL T 0 (plT ps)) (he : tK T (plT ps).length = 1) :
    ∃ S, rdP T PT0 = .ok S ∧ cS S = plN ps ∧ CdL S (plO ps 0 [] ++ [(25, 0)]) := by
  have z : StS PT0 0 0 0 [] := ⟨rfl, rfl, rfl, rfl, rfl, fun i hi => absurd hi (Nat.not_lt_zero i)⟩
  have h0 : prl T 501 PT0 = .ok PT0 := by
    unfold prl
    have : tK T (ti PT0) ≠ 5 := by
      show tK T 0 ≠ 5
      cases ps with
      | nil => have : tK T 0 = 1 := he; rw [this]; decide
      | cons p ps =>
        have st := pcT_st (n := p.2) (hp p List.mem_cons_self).1
        have := (show tkL T 0 (pcT p.1 p.2) from t.left).K 0 st.1
        rw [Nat.add_zero] at this
        rw [this]; exact st.2.2
    rw [if_neg this]
  obtain ⟨S, e, i', u', g⟩ := ps_list ps 501 0 0 0 [] (seB PT0) hp (by omega) z.seB (by omega) (by omega) (by show 0 + _ ≤ _; omega) t (by rw [Nat.zero_add]; exact he)
  refine ⟨em 25 0 S, ?_, ?_, (g.em 25 0).2.2.2⟩
  · unfold rdP
    rw [h0, pb_ok, e, pb_ok]
  · have := g.2.2.1; rw [Nat.zero_add] at this; exact this
