/-! PART g1: the pieces are read -/
/-- tokens from a place on -/
def tkL (T : TD) (i : Nat) (l : List (Int32 × Option Int32)) : Prop := ∀ j, j < l.length → tK T (i + j) = (l.getD j (0, none)).1 ∧ ∀ v, (l.getD j (0, none)).2 = some v → tV T (i + j) = v
def tN (x : Nat) : Int32 × Option Int32 := (2, some (nI x))
def tM (n : Nat) : Int32 × Option Int32 := (4, some (nI n))
def tC (c : Int32) : Int32 × Option Int32 := (c, none)
/-- a piece's tokens -/
def pcT (k n : Nat) : List (Int32 × Option Int32) := match k with
  | 0 => [tN 1, tC 61, tN 0, tC 43, tM n, tC 59]
  | 1 => [tC 8, tN 0, tC 60, tM n, tC 123, tN 2, tC 61, tN 2, tC 43, tM 1, tC 59, tC 125, tC 9, tC 123, tN 2, tC 61, tN 2, tC 42, tM 2, tC 59, tC 125]
  | 2 => [tC 10, tN 2, tC 60, tM n, tC 123, tN 2, tC 61, tN 2, tC 43, tM 1, tC 59, tN 3, tC 61, tN 3, tC 43, tN 0, tC 59, tC 125]
  | 3 => [tC 11, tN 1, tC 35, tM n, tC 59]
  | 4 => [tC 12, tN 0, tC 62, tM n, tC 59]
  | 5 => [tN 3, tC 61, tN 0, tC 47, tN 1, tC 59]
  | 6 => [tC 7, tC 91, tN 1, tC 43, tM n, tC 93, tC 61, tN 0, tC 59]
  | _ => [tN 7, tC 61, tC 7, tC 91, tM n, tC 93, tC 43, tN 3, tC 59]
/-- a piece's orders: s steps, c orders ahead of it -/
def pcO (k n s c : Nat) : List (Nat × Int32) := match k with
  | 0 => [(0, nI s), (3, nI 0), (2, nI n), (5, 0), (15, nI 1)]
  | 1 => [(1, nI s), (3, nI 0), (2, nI n), (9, 0), (21, nI (c + 11)), (0, nI (s + 1)), (3, nI 2), (2, nI 1), (5, 0), (15, nI 2), (22, nI (c + 16)), (0, nI (s + 2)), (3, nI 2), (2, nI 2), (7, 0), (15, nI 2)]
  | 2 => [(1, nI s), (3, nI 2), (2, nI n), (9, 0), (21, nI (c + 16)), (0, nI (s + 1)), (3, nI 2), (2, nI 1), (5, 0), (15, nI 2), (0, nI (s + 2)), (3, nI 3), (3, nI 0), (5, 0), (15, nI 3), (22, nI c)]
  | 3 => [(0, nI s), (3, nI 1), (2, nI n), (12, 0), (17, 0)]
  | 4 => [(0, nI s), (3, nI 0), (2, nI n), (11, 0), (18, 0)]
  | 5 => [(0, nI s), (3, nI 0), (3, nI 1), (8, 0), (15, nI 3)]
  | 6 => [(0, nI s), (3, nI 1), (2, nI n), (5, 0), (3, nI 0), (16, 0)]
  | _ => [(0, nI s), (2, nI n), (4, 0), (3, nI 3), (5, 0), (15, nI 7)]
def pcN (k : Nat) : Nat := if k = 1 ∨ k = 2 then 3 else 1
def pcU (k : Nat) : Nat := match k with
  | 1 => 6
  | 2 => 6
  | 6 => 3
  | 7 => 3
  | _ => 2
theorem Go.bind {f g : PT → PR} {S : PT} {P Q : PT → Prop} (h : Go f S P) (hg : ∀ S', P S' → Go g S' Q) : Go (fun S => pb (f S) g) S Q := by
  obtain ⟨S', e, p⟩ := h
  obtain ⟨S2, e2, p2⟩ := hg S' p
  exact ⟨S2, by show pb (f S) g = _; rw [e, pb_ok, e2], p2⟩
section PIECES
variable {T : TD} {S : PT} {i u s k n : Nat} {l : List (Nat × Int32)}
theorem tkL.K {L : List (Int32 × Option Int32)} (h : tkL T i L) (j : Nat) (hj : j < L.length) : tK T (i + j) = (L.getD j (0, none)).1 := (h j hj).1
theorem tkL.V {L : List (Int32 × Option Int32)} (h : tkL T i L) (j : Nat) (hj : j < L.length) (v : Int32) (hv : (L.getD j (0, none)).2 = some v) : tV T (i + j) = v := (h j hj).2 v hv
theorem go_cls {o : Nat} {a : Int32} (h : StS S i u s l) (hk : tK T i = 59) : Go (cls T o a) S (fun S' => StS S' (i + 1) u s (l ++ [(o, a)])) := by
  obtain ⟨S', e, p⟩ := go_sgn (ch := 59) (h.em o a) hk
  exact ⟨S', e, p⟩
theorem rlo_e {j : Nat} {K : Int32} {o : Nat} (hk : tK T j = K) (h : (K = 60 ∧ o = 9) ∨ (K = 61 ∧ o = 10) ∨ (K = 62 ∧ o = 11) ∨ (K = 35 ∧ o = 12)) : rlo T j = o := by
  unfold rlo
  rw [hk]
  rcases h with ⟨rfl, rfl⟩ | ⟨rfl, rfl⟩ | ⟨rfl, rfl⟩ | ⟨rfl, rfl⟩ <;> rfl
theorem go_cnd {j u2 j2 u3 o : Nat} {l2 l3 : List (Nat × Int32)} (hp : Go (rdI T (k + 1)) S (fun S' => StS S' j u2 s l2)) (hj : tK T j = 60 ∨ tK T j = 61 ∨ tK T j = 62 ∨ tK T j = 35) (ho : rlo T j = o) (hp2 : ∀ S2, StS S2 (j + 1) u2 s l2 → Go (rdI T (k + 1)) S2 (fun S' => StS S' j2 u3 s l3)) (h15 : tK T j2 ≠ 15) (h16 : tK T j2 ≠ 16) :
    Go (cnd T k) S (fun S' => StS S' j2 u3 s (l3 ++ [(o, 0)])) := by
  obtain ⟨S2, e2, g2⟩ := hp
  obtain ⟨S3, e3, g3⟩ := hp2 _ g2.adv
  refine ⟨em o 0 S3, ?_, g3.em o 0⟩
  unfold cnd tst
  rw [e2, pb_ok, g2.1, if_pos hj, e3, pb_ok, pb_ok, ho]
  unfold clp
  have t : ti (em o 0 S3) = j2 := g3.1
  rw [t, if_neg h15, if_neg h16, if_neg Bool.false_ne_true]
theorem go_blo1 {b : PT → PR} {j u2 s2 : Nat} {l2 : List (Nat × Int32)} (h : StS S i u s l) (h0 : k ≠ 0) (h123 : tK T i = 123) (hn : tK T (i + 1) ≠ 125) (hb : ∀ S2, StS S2 (i + 1) u s l → Go b S2 (fun S' => StS S' j u2 s2 l2)) (h125 : tK T j = 125) :
    Go (blo T k b) S (fun S' => StS S' (j + 1) u2 s2 l2) := by
  obtain ⟨S2, e2, g2⟩ := hb _ h.adv
  obtain ⟨S3, e3, g3⟩ := go_sgn (ch := 125) g2 h125
  refine ⟨S3, ?_, g3⟩
  unfold blo opn
  rw [h.1, if_pos h123, if_neg h0, pb_ok]
  have t : ti (adv S) = i + 1 := h.adv.1
  unfold blp
  rw [t, if_neg hn, e2, pb_ok]
  unfold blp
  rw [g2.1, if_pos h125, pb_ok, e3]
theorem go_blo2 {b : PT → PR} {j u2 s2 j2 u3 s3 : Nat} {l2 l3 : List (Nat × Int32)} (h : StS S i u s l) (h0 : k ≠ 0) (h123 : tK T i = 123) (hn : tK T (i + 1) ≠ 125) (hb : ∀ S2, StS S2 (i + 1) u s l → Go b S2 (fun S' => StS S' j u2 s2 l2)) (hn2 : tK T j ≠ 125) (hb2 : ∀ S2, StS S2 j u2 s2 l2 → Go b S2 (fun S' => StS S' j2 u3 s3 l3)) (h125 : tK T j2 = 125) :
    Go (blo T k b) S (fun S' => StS S' (j2 + 1) u3 s3 l3) := by
  obtain ⟨S2, e2, g2⟩ := hb _ h.adv
  obtain ⟨S4, e4, g4⟩ := hb2 _ g2
  obtain ⟨S3, e3, g3⟩ := go_sgn (ch := 125) g4 h125
  refine ⟨S3, ?_, g3⟩
  unfold blo opn
  rw [h.1, if_pos h123, if_neg h0, pb_ok]
  have t : ti (adv S) = i + 1 := h.adv.1
  unfold blp
  rw [t, if_neg hn, e2, pb_ok]
  unfold blp
  rw [g2.1, if_neg hn2, e4, pb_ok]
  unfold blp
  rw [g4.1, if_pos h125, pb_ok, e3]
/-- a sum -/
theorem go_sum {b : PT → PR} {x j u2 : Nat} {l2 : List (Nat × Int32)} (h : StS S i u s l) (hs : s < 60) (hk : tK T i = 2) (hv : tV T i = nI x) (h61 : tK T (i + 1) = 61) (hp : ∀ S2, StS S2 (i + 2) u (s + 1) (l ++ [(0, nI s)]) → Go (rdI T (k + 1)) S2 (fun S' => StS S' j u2 (s + 1) l2)) (h59 : tK T j = 59) :
    Go (stF T k b) S (fun S' => StS S' (j + 1) u2 (s + 1) (l2 ++ [(15, nI x)])) := by
  obtain ⟨S2, e2, g2⟩ := go_sgn (ch := 61) h.bst0.adv h61
  obtain ⟨S3, e3, g3⟩ := hp S2 g2
  obtain ⟨S4, e4, g4⟩ := go_cls (o := 15) (a := nI x) g3 h59
  refine ⟨S4, ?_, g4⟩
  rw [stF_pos (Or.inl (by rw [h.1]; exact hk)) (by rw [h.2.2.1]; omega), h.1, if_neg (by rw [hk]; decide), if_neg (by rw [hk]; decide), if_neg (by rw [hk]; decide), if_neg (by rw [hk]; decide), if_pos hk, e2, pb_ok, e3, pb_ok, hv, e4]
/-- must, let -/
theorem go_must {b : PT → PR} {j u2 : Nat} {l2 : List (Nat × Int32)} (h : StS S i u s l) (hs : s < 60) (hk : tK T i = 11) (hp : ∀ S2, StS S2 (i + 1) u (s + 1) (l ++ [(0, nI s)]) → Go (cnd T k) S2 (fun S' => StS S' j u2 (s + 1) l2)) (h59 : tK T j = 59) :
    Go (stF T k b) S (fun S' => StS S' (j + 1) u2 (s + 1) (l2 ++ [(17, 0)])) := by
  obtain ⟨S3, e3, g3⟩ := hp _ h.bst0.adv
  obtain ⟨S4, e4, g4⟩ := go_cls (o := 17) (a := 0) g3 h59
  refine ⟨S4, ?_, g4⟩
  rw [stF_pos (by rw [h.1, hk]; unfold isSt; decide) (by rw [h.2.2.1]; omega), h.1, if_neg (by rw [hk]; decide), if_neg (by rw [hk]; decide), if_pos hk, e3, pb_ok, e4]
theorem go_let {b : PT → PR} {j u2 : Nat} {l2 : List (Nat × Int32)} (h : StS S i u s l) (hs : s < 60) (hk : tK T i = 12) (hp : ∀ S2, StS S2 (i + 1) u (s + 1) (l ++ [(0, nI s)]) → Go (cnd T k) S2 (fun S' => StS S' j u2 (s + 1) l2)) (h59 : tK T j = 59) :
    Go (stF T k b) S (fun S' => StS S' (j + 1) u2 (s + 1) (l2 ++ [(18, 0)])) := by
  obtain ⟨S3, e3, g3⟩ := hp _ h.bst0.adv
  obtain ⟨S4, e4, g4⟩ := go_cls (o := 18) (a := 0) g3 h59
  refine ⟨S4, ?_, g4⟩
  rw [stF_pos (by rw [h.1, hk]; unfold isSt; decide) (by rw [h.2.2.1]; omega), h.1, if_neg (by rw [hk]; decide), if_neg (by rw [hk]; decide), if_neg (by rw [hk]; decide), if_pos hk, e3, pb_ok, e4]
/-- a cell is laid -/
theorem go_lay {b : PT → PR} {j u2 j2 u3 : Nat} {l2 l3 : List (Nat × Int32)} (h : StS S i u s l) (hs : s < 60) (h0 : k ≠ 0) (hk : tK T i = 7) (h91 : tK T (i + 1) = 91) (hp : ∀ S2, StS S2 (i + 2) u (s + 1) (l ++ [(0, nI s)]) → Go (rdI T k) S2 (fun S' => StS S' j u2 (s + 1) l2)) (h93 : tK T j = 93) (h61 : tK T (j + 1) = 61)
    (hp2 : ∀ S2, StS S2 (j + 2) u2 (s + 1) l2 → Go (rdI T (k + 1)) S2 (fun S' => StS S' j2 u3 (s + 1) l3)) (h59 : tK T j2 = 59) :
    Go (stF T k b) S (fun S' => StS S' (j2 + 1) u3 (s + 1) (l3 ++ [(16, 0)])) := by
  have a : StS (adv (bst 0 S)) (i + 1) u (s + 1) (l ++ [(0, nI s)]) := h.bst0.adv
  obtain ⟨S2, e2, g2⟩ := hp _ a.adv
  obtain ⟨S3, e3, g3⟩ := go_sgn (ch := 93) g2 h93
  obtain ⟨S4, e4, g4⟩ := go_sgn (ch := 61) g3 h61
  obtain ⟨S5, e5, g5⟩ := hp2 _ g4
  obtain ⟨S6, e6, g6⟩ := go_cls (o := 16) (a := 0) g5 h59
  refine ⟨S6, ?_, g6⟩
  rw [stF_pos (by rw [h.1, hk]; unfold isSt; decide) (by rw [h.2.2.1]; omega), h.1, if_neg (by rw [hk]; decide), if_neg (by rw [hk]; decide), if_neg (by rw [hk]; decide), if_neg (by rw [hk]; decide), if_neg (by rw [hk]; decide), if_pos hk]
  unfold plc opn
  rw [a.1, if_pos h91, if_neg h0, pb_ok, e2, pb_ok, e3, pb_ok, e4, pb_ok, e5, pb_ok, e6]
/-- if .. else .. -/
theorem go_if {b : PT → PR} {j u2 j2 u3 s3 j3 u4 s4 : Nat} {l2 l3 l4 : List (Nat × Int32)} (h : StS S i u s l) (hs : s < 60) (hk : tK T i = 8) (hp : ∀ S2, StS S2 (i + 1) u (s + 1) (l ++ [(1, nI s)]) → Go (cnd T k) S2 (fun S' => StS S' j u2 (s + 1) l2))
    (hb : ∀ S2, StS S2 j u2 (s + 1) (l2 ++ [(21, 0)]) → Go b S2 (fun S' => StS S' j2 u3 s3 l3)) (h9 : tK T j2 = 9) (hl3 : l2.length < l3.length)
    (hb2 : ∀ S2, StS S2 (j2 + 1) u3 s3 ((l3 ++ [(22, 0)]).set l2.length (((l3 ++ [(22, 0)]).getD l2.length (0, 0)).1, nI (min (l3 ++ [(22, 0)]).length 600))) → Go b S2 (fun S' => StS S' j3 u4 s4 l4)) (hl4 : l3.length < l4.length) :
    Go (stF T k b) S (fun S' => StS S' j3 u4 s4 (l4.set l3.length ((l4.getD l3.length (0, 0)).1, nI (min l4.length 600)))) := by
  obtain ⟨S2, e2, g2⟩ := hp _ h.bst8.adv
  obtain ⟨S3, e3, g3⟩ := hb _ (g2.em 21 0)
  have c2 : cn S2 = l2.length := g2.2.2.2.1
  have c3 : cn S3 = l3.length := g3.2.2.2.1
  have p := (g3.adv.em 22 0).pat (j := l2.length) (by rw [List.length_append]; show l2.length < l3.length + 1; omega)
  obtain ⟨S4, e4, g4⟩ := hb2 _ p
  refine ⟨pat l3.length S4, ?_, g4.pat hl4⟩
  rw [stF_pos (by rw [h.1, hk]; unfold isSt; decide) (by rw [h.2.2.1]; omega), h.1, if_pos hk, e2, pb_ok]
  unfold brs
  rw [e3, pb_ok, g3.1, if_pos h9, c2, e4, pb_ok, c3]
/-- while -/
theorem go_while {b : PT → PR} {j u2 j2 u3 s3 : Nat} {l2 l3 : List (Nat × Int32)} (h : StS S i u s l) (hs : s < 60) (hk : tK T i = 10) (hp : ∀ S2, StS S2 (i + 1) u (s + 1) (l ++ [(1, nI s)]) → Go (cnd T k) S2 (fun S' => StS S' j u2 (s + 1) l2))
    (hb : ∀ S2, StS S2 j u2 (s + 1) (l2 ++ [(21, 0)]) → Go b S2 (fun S' => StS S' j2 u3 s3 l3)) (hl3 : l2.length < l3.length) :
    Go (stF T k b) S (fun S' => StS S' j2 u3 s3 ((l3 ++ [(22, nI (min l.length 600))]).set l2.length (((l3 ++ [(22, nI (min l.length 600))]).getD l2.length (0, 0)).1, nI (min (l3 ++ [(22, nI (min l.length 600))]).length 600)))) := by
  obtain ⟨S2, e2, g2⟩ := hp _ h.bst10.adv
  obtain ⟨S3, e3, g3⟩ := hb _ (g2.em 21 0)
  have c2 : cn S2 = l2.length := g2.2.2.2.1
  have c0 : cn S = l.length := h.2.2.2.1
  have p := (g3.em 22 (nI (min l.length 600))).pat (j := l2.length) (by rw [List.length_append]; show l2.length < l3.length + 1; omega)
  refine ⟨_, ?_, p⟩
  rw [stF_pos (by rw [h.1, hk]; unfold isSt; decide) (by rw [h.2.2.1]; omega), h.1, if_neg (by rw [hk]; decide), if_pos hk, e2, pb_ok]
  unfold lop
  rw [e3, pb_ok, c2, c0]
end PIECES
