/-! PART g7: a text of pieces is their program; its runs are the law's -/
theorem tk_piece {bt : Nat → Int32} {z cnt i p k n : Nat} {ps : Nat → Nat} {TK TV : Nat → Int32} {TP : Nat → Nat} (h : isToks bt z cnt ps TK TV TP) (hz : z ≤ 500) (hi : i ≤ cnt) (hc : ps i = p) (hk : k < 8) (hn : n ≤ 15) (hb : bsL bt p (pcB k n)) (hp : p + (pcB k n).length ≤ z) :
    (∀ j, j < (pcT k n).length → TK (i + j) = ((pcT k n).getD j (0, none)).1 ∧ ∀ v, ((pcT k n).getD j (0, none)).2 = some v → TV (i + j) = v) ∧ i + (pcT k n).length ≤ cnt ∧ ps (i + (pcT k n).length) = p + (pcB k n).length := by
  have el : ∀ A C : List Nat, p + (A ++ (dgs n ++ C)).length = p + A.length + (dgs n).length + C.length := fun A C => by
    rw [List.length_append, List.length_append]; omega
  have sp : ∀ A C : List Nat, bsL bt p (A ++ (dgs n ++ C)) → bsL bt p A ∧ bsL bt (p + A.length) (dgs n) ∧ bsL bt (p + A.length + (dgs n).length) C := fun A C h => ⟨h.left, h.right.left, h.right.right⟩
  rcases (show k = 0 ∨ k = 1 ∨ k = 2 ∨ k = 3 ∨ k = 4 ∨ k = 5 ∨ k = 6 ∨ k = 7 by omega) with e | e | e | e | e | e | e | e <;> subst e
  · obtain ⟨a, b, c⟩ := sp (pcA 0) (pcC 0) hb
    have e : p + (pcB 0 n).length = p + 4 + (dgs n).length + 1 := el (pcA 0) (pcC 0)
    have := tk_0 h hz hi hc a hn b c (by rw [← e]; exact hp)
    rw [e]; exact this
  · obtain ⟨a, b, c⟩ := sp (pcA 1) (pcC 1) hb
    have e : p + (pcB 1 n).length = p + 5 + (dgs n).length + 20 := el (pcA 1) (pcC 1)
    have := tk_1 h hz hi hc a hn b c (by rw [← e]; exact hp)
    rw [e]; exact this
  · obtain ⟨a, b, c⟩ := sp (pcA 2) (pcC 2) hb
    have e : p + (pcB 2 n).length = p + 8 + (dgs n).length + 14 := el (pcA 2) (pcC 2)
    have := tk_2 h hz hi hc a hn b c (by rw [← e]; exact hp)
    rw [e]; exact this
  · obtain ⟨a, b, c⟩ := sp (pcA 3) (pcC 3) hb
    have e : p + (pcB 3 n).length = p + 7 + (dgs n).length + 1 := el (pcA 3) (pcC 3)
    have := tk_3 h hz hi hc a hn b c (by rw [← e]; exact hp)
    rw [e]; exact this
  · obtain ⟨a, b, c⟩ := sp (pcA 4) (pcC 4) hb
    have e : p + (pcB 4 n).length = p + 6 + (dgs n).length + 1 := el (pcA 4) (pcC 4)
    have := tk_4 h hz hi hc a hn b c (by rw [← e]; exact hp)
    rw [e]; exact this
  · exact tk_5 h hz hi hc hb hp
  · obtain ⟨a, b, c⟩ := sp (pcA 6) (pcC 6) hb
    have e : p + (pcB 6 n).length = p + 7 + (dgs n).length + 4 := el (pcA 6) (pcC 6)
    have := tk_6 h hz hi hc a hn b c (by rw [← e]; exact hp)
    rw [e]; exact this
  · obtain ⟨a, b, c⟩ := sp (pcA 7) (pcC 7) hb
    have e : p + (pcB 7 n).length = p + 7 + (dgs n).length + 4 := el (pcA 7) (pcC 7)
    have := tk_7 h hz hi hc a hn b c (by rw [← e]; exact hp)
    rw [e]; exact this
def plB : List (Nat × Nat) → List Nat
  | [] => []
  | p :: ps => pcB p.1 p.2 ++ plB ps
theorem pcB_len {k n : Nat} : (pcB k n).length ≤ 28 := by
  have := dgs_len n
  have a : (pcA k).length ≤ 8 := by unfold pcA; split <;> exact Nat.le_of_ble_eq_true rfl
  have b : (pcC k).length ≤ 20 := by unfold pcC; split <;> exact Nat.le_of_ble_eq_true rfl
  have c : (pcA k).length + (pcC k).length ≤ 25 := by
    unfold pcA pcC
    split <;> exact Nat.le_of_ble_eq_true rfl
  unfold pcB
  split
  · exact Nat.le_of_ble_eq_true rfl
  · rw [List.length_append, List.length_append]; omega
theorem plB_len : ∀ l : List (Nat × Nat), (plB l).length ≤ 28 * l.length
  | [] => Nat.le_refl _
  | p :: ps => by
    have := plB_len ps
    have := pcB_len (k := p.1) (n := p.2)
    show (pcB p.1 p.2 ++ plB ps).length ≤ 28 * (ps.length + 1)
    rw [List.length_append]; omega
theorem tk_list {bt : Nat → Int32} {z cnt : Nat} {ps : Nat → Nat} {TK TV : Nat → Int32} {TP : Nat → Nat} (h : isToks bt z cnt ps TK TV TP) (hz : z ≤ 500) : ∀ (l : List (Nat × Nat)) (i p : Nat), (∀ q, q ∈ l → q.1 < 8 ∧ q.2 ≤ 15) → i ≤ cnt → ps i = p → bsL bt p (plB l) → p + (plB l).length = z →
    tkL (cnt, TK, TV, TP) i (plT l) ∧ TK (i + (plT l).length) = 1
  | [], i, p, hl, hi, hc, hb, he => ⟨fun j hj => absurd hj (Nat.not_lt_zero j), tkEnd h hz hi (hc.trans he)⟩
  | q :: l, i, p, hl, hi, hc, hb, he => by
    have h0 := hl q List.mem_cons_self
    have el : (plB (q :: l)).length = (pcB q.1 q.2).length + (plB l).length := List.length_append
    obtain ⟨a, b, c⟩ := tk_piece h hz hi hc h0.1 h0.2 (show bsL bt p (pcB q.1 q.2) from hb.left) (by omega)
    obtain ⟨t, e⟩ := tk_list h hz l (i + (pcT q.1 q.2).length) (p + (pcB q.1 q.2).length) (fun x hx => hl x (List.mem_cons_of_mem _ hx)) b c hb.right (by omega)
    have elt : (plT (q :: l)).length = (pcT q.1 q.2).length + (plT l).length := List.length_append
    refine ⟨fun j hj => ?_, by rw [elt, ← Nat.add_assoc]; exact e⟩
    by_cases g : j < (pcT q.1 q.2).length
    · have := a j g
      show TK (i + j) = ((pcT q.1 q.2 ++ plT l).getD j (0, none)).1 ∧ ∀ v, ((pcT q.1 q.2 ++ plT l).getD j (0, none)).2 = some v → TV (i + j) = v
      rw [List.getD_eq_getElem?_getD, List.getElem?_append_left g, ← List.getD_eq_getElem?_getD]
      exact this
    · have := t (j - (pcT q.1 q.2).length) (by omega)
      show TK (i + j) = ((pcT q.1 q.2 ++ plT l).getD j (0, none)).1 ∧ ∀ v, ((pcT q.1 q.2 ++ plT l).getD j (0, none)).2 = some v → TV (i + j) = v
      have ej : (pcT q.1 q.2 ++ plT l).getD j (0, none) = (plT l).getD (j - (pcT q.1 q.2).length) (0, none) := by
        have := getD_app (pcT q.1 q.2) (plT l) (j - (pcT q.1 q.2).length) (0, none)
        rw [show (pcT q.1 q.2).length + (j - (pcT q.1 q.2).length) = j by omega] at this
        exact this
      rw [ej, show i + j = i + (pcT q.1 q.2).length + (j - (pcT q.1 q.2).length) by omega]
      exact this
/-- the text of some pieces is their program -/
theorem text_prog {bt : Nat → Int32} {T : TD} {ps : Nat → Nat} {l : List (Nat × Nat)} (h : isToks bt (plB l).length T.1 ps (tK T) (tV T) (tP T)) (hl : ∀ q, q ∈ l → q.1 < 8 ∧ q.2 ≤ 15) (h5 : l.length ≤ 5) (hb : bsL bt 0 (plB l)) :
    ∃ S, rdP T PT0 = .ok S ∧ cS S = plN l ∧ CdL S (plO l 0 [] ++ [(25, 0)]) := by
  have := plB_len l
  obtain ⟨t, e⟩ := tk_list h (by omega) l 0 0 hl (Nat.zero_le _) h.1 hb (Nat.zero_add _)
  exact ps_prog (fun p hp => ⟨(hl p hp).1, by have := (hl p hp).2; omega⟩) h5 t (by rw [← Nat.zero_add (plT l).length]; exact e)
/-- a row's run is the law's -/
def lw0 (B r : Nat) : LSt := (rowNm B 2 (nI r), fun _ => 0, 0, [])
theorem plO_len : ∀ (l : List (Nat × Nat)) (s : Nat) (c : List (Nat × Int32)), (plO l s c).length ≤ c.length + 16 * l.length
  | [], s, c => Nat.le_add_right _ _
  | p :: ps, s, c => by
    have := plO_len ps (s + pcN p.1) (c ++ pcO p.1 p.2 s c.length)
    have := pcO_len (k := p.1) (n := p.2) (s := s) (c := c.length)
    show (plO ps (s + pcN p.1) (c ++ pcO p.1 p.2 s c.length)).length ≤ c.length + 16 * (ps.length + 1)
    rw [List.length_append] at *; omega
theorem run_is {S : PT} {B O F r : Nat} {rule : Int32} {E : PE} {l : List (Nat × Nat)} (hS : CdL S (plO l 0 [] ++ [(25, 0)])) (hl : ∀ q, q ∈ l → q.1 < 8) (h5 : l.length ≤ 5) (h2 : 2 ≤ B) (h6 : B ≤ 6) (hF : F ≤ 40) (h : RT1 S B 2 O F r rule E) :
    PEis E (lwR (mk B) F l 0 (lw0 B r)).1 (lwR (mk B) F l 0 (lw0 B r)).2.1 (lwR (mk B) F l 0 (lw0 B r)).2.2 := by
  obtain ⟨N, hN⟩ := h
  obtain ⟨a1, a2, a3⟩ := hS
  have pl := plO_len l 0 []
  obtain ⟨E', ⟨m, me⟩, pe⟩ := mc_list (P := cP S) (F := F) (an := ansF B 2 O (nI r) rule) (B := B) l 0 0 [] (rowNm B 2 (nI r)) (fun _ => 0) 0 [] (-1) (fun _ => 0) [] hl (by omega) (by have : ([] : List (Nat × Int32)).length = 0 := rfl; omega) a3 h2 h6 hF ⟨fun k _ => rowNm_rg h6 k, fun _ _ => rg_0 B, Nat.zero_le _, Nat.zero_le _⟩
  rw [show ps0 (cB S) (rowNm B 2 (nI r)) (fun _ => 0) = ([].length, [], [], rowNm B 2 (nI r), (fun _ => 0), -1, 0, [], 0, fun _ => 0, []) by rw [a2]; rfl] at hN
  rw [p_run_one hN me]
  exact pe
