/-! PART j7: the law reads its pieces -/
theorem plB_snoc : ∀ (l : List (Nat × Nat)) (q : Nat × Nat), plB (l ++ [q]) = plB l ++ pcB q.1 q.2
  | [], q => by show pcB q.1 q.2 ++ [] = [] ++ pcB q.1 q.2; rw [List.append_nil, List.nil_append]
  | p :: l, q => by
    show pcB p.1 p.2 ++ plB (l ++ [q]) = (pcB p.1 p.2 ++ plB l) ++ pcB q.1 q.2
    rw [plB_snoc l q, List.append_assoc]
theorem plN_snoc : ∀ (l : List (Nat × Nat)) (q : Nat × Nat), plN (l ++ [q]) = plN l + pcN q.1
  | [], q => by show pcN q.1 + 0 = 0 + pcN q.1; omega
  | p :: l, q => by
    show pcN p.1 + plN (l ++ [q]) = (pcN p.1 + plN l) + pcN q.1
    rw [plN_snoc l q]; omega
section LAWI
variable {X : aw_X} {d mc ms ks : Nat} {Q : Option Value → aw_H → Prop} {D : Nat → Nat} {I : Nat → Nat → Int32} {L : Nat → Nat → Int64} {B F z0 : Nat}
theorem l_read (hX : aw_xl X ≤ 260) (hm : 76 ≤ mc) (hs : ks + 60 ≤ ms) (hl : X.1.stackTraces = false) (hB : 2 ≤ B ∧ B ≤ 4) (hF : 1 ≤ F ∧ F ≤ 16) (hz : z0 ≤ 540) (hD5 : D 5 ∈ aw_codes) (h7 : D 7 = 0) (hQ : ∀ A, Q (some (.int 1)) A) :
    ∀ (m : Nat) (l : List (Nat × Nat)) (I : Nat → Nat → Int32) (a10 : Int32), l.length + m = 5 → (∀ q, q ∈ l → q.1 < 8 ∧ q.2 ≤ 15) → Tx I (plB l) → KV I 0 l → I 2 1 = nI z0 → I 4 19 = 0 → a10 = nI (plB l).length →
      aw_Z X (d + 300) mc ms y_Law_law Q 72 ks 69 [some (.ref 1005), some (.ref 0), some (.ref 69), none, some (.int (nI B)), some (.int (nI F)), some (.ref 70), some (.ref 71), some (.int (nI l.length)), some (.int (nI (plN l))), some (.int a10), some (.int (nI (l.length + 1))), none, none, none, none, none, none, none, none] [] (aw_s I L D) := by
  have hm0 : 72 ≤ mc := by omega
  have hs0 : ks ≤ ms := by omega
  intro m
  induction m with
  | zero =>
    intro l I a10 e h8 hT hV h21 h419 h10
    have hk := l_load (X := X) (d := d) (Q := Q) (D := D) (I := I) (L := L) hm hs hl hB hF (by omega) h8 hT hV h21 hz hD5 h419 h7 hQ h10
    have e5 : (5 : Int32) ≤ nI l.length := by rw [show (5 : Int32) = nI 5 from rfl, nI_leI (by decide) (by omega)]; omega
    exact b_Law_law_69 (m2 := 0) (s2 := 0) hm0 hs0 (fun _ => hk) (fun _ _ => hk) (fun _ x => absurd e5 x) (fun _ x => absurd e5 x) (fun _ x => absurd e5 x) (fun _ x => absurd e5 x) (fun _ x => absurd e5 x) (fun _ x => absurd e5 x) (fun _ x => absurd e5 x)
  | succ m ih =>
    intro l I a10 e h8 hT hV h21 h419 h10
    have hk := l_load (X := X) (d := d) (Q := Q) (D := D) (I := I) (L := L) hm hs hl hB hF (by omega) h8 hT hV h21 hz hD5 h419 h7 hQ h10
    have n5 : ¬ (5 : Int32) ≤ nI l.length := by rw [show (5 : Int32) = nI 5 from rfl, nI_leI (by decide) (by omega)]; omega
    have c8 : (nI l.length).toNatClampNeg = l.length := nI_clamp (by omega)
    have v8 : vp_in (nI l.length) 5 := aw_in_nI (by omega) (by decide)
    have pl := plB_len l
    subst h10
    refine b_Law_law_69 (m2 := 0) (s2 := 0) hm0 hs0 (fun _ => hk) (fun _ x => absurd x n5) (fun x _ => ?_) (fun _ _ => v8) (fun x _ => ?_) (fun _ _ => v8) (fun _ _ => v8) (fun _ _ => v8) (fun x _ => ?_)
    · rw [nI_leI (by omega) (by omega)] at x
      exact aw_in_nI (by omega) (by omega)
    · rw [nI_leI (by omega) (by omega)] at x
      exact aw_in_nI (by omega) (by omega)
    rw [c8, au_s, au_s]
    obtain ⟨k, hk8, ek⟩ := rg_and (B := 3) (g := 7) (by decide) rfl (aw_xs X (nI (l.length + 1)).toNatClampNeg)
    obtain ⟨v, hv, ev⟩ := rg_and (B := 4) (g := 15) (by decide) rfl ((aw_xs X (nI (l.length + 1)).toNatClampNeg) >>> ((3 : Int32) &&& 31))
    rw [ek, ev]
    have hk8 : k < 8 := hk8
    have hv : v < 16 := hv
    have hT1 : TxF (aw_u (aw_u I 70 l.length (nI k)) 71 l.length (nI v)) (aw_u (aw_u I 70 l.length (nI k)) 71 l.length (nI v)) (plB l) := ⟨⟨hT.1, fun j hj => by rw [au_o (by decide), au_o (by decide)]; exact hT.2 j hj⟩, fun _ _ => rfl⟩
    refine c_Law_piece hk8 hT1 (by omega) (by omega) (fun I2 g2 => ?_)
    obtain ⟨t2, f2⟩ := g2
    have r70 : I2 70 = va_up (I 70) l.length (nI k) := by rw [f2 70 (by decide), au_o (by decide), aw_u_same]
    have r71 : I2 71 = va_up (I 71) l.length (nI v) := by rw [f2 71 (by decide), aw_u_same, au_o (by decide)]
    have ro : ∀ o, o ≠ 69 → o ≠ 70 → o ≠ 71 → I2 o = I o := fun o a b c => by rw [f2 o a, au_o c, au_o b]
    have ll : (l ++ [(k, v)]).length = l.length + 1 := by rw [List.length_append]; rfl
    have hV2 : KV I2 0 (l ++ [(k, v)]) := fun j hj => by
      rw [ll] at hj
      rw [Nat.zero_add, r70, r71]
      by_cases q : j = l.length
      · subst q
        rw [ap_s, ap_s, List.getD_eq_getElem?_getD, List.getElem?_append_right (Nat.le_refl _), Nat.sub_self]
        exact ⟨rfl, rfl⟩
      · have := hV j (by omega)
        rw [Nat.zero_add] at this
        rw [ap_n q, ap_n q, List.getD_eq_getElem?_getD, List.getElem?_append_left (by omega), ← List.getD_eq_getElem?_getD]
        exact this
    have h82 : ∀ q, q ∈ l ++ [(k, v)] → q.1 < 8 ∧ q.2 ≤ 15 := fun q hq => by
      rcases List.mem_append.mp hq with hq | hq
      · exact h8 q hq
      · rw [List.mem_singleton.mp hq]
        exact ⟨hk8, by omega⟩
    have hT2 : Tx I2 (plB (l ++ [(k, v)])) := by rw [plB_snoc]; exact t2
    have i21 : I2 2 1 = nI z0 := by rw [ro 2 (by decide) (by decide) (by decide)]; exact h21
    have i419 : I2 4 19 = 0 := by rw [ro 4 (by decide) (by decide) (by decide)]; exact h419
    have hrec := ih (l ++ [(k, v)]) I2 (nI (plB l ++ pcB k v).length) (by omega) h82 hT2 hV2 i21 i419 (by rw [plB_snoc])
    rw [ll, plN_snoc] at hrec
    have kv : I2 70 (nI l.length).toNatClampNeg = nI k := by rw [c8, r70, ap_s]
    have hk1 : (nI k = 1) = (k = 1) := propext (nI_eq (b := 1) (by omega) (by decide))
    have hk2 : (nI k = 2) = (k = 2) := propext (nI_eq (b := 2) (by omega) (by decide))
    refine b_Law_law_124 (m2 := 0) (s2 := 0) hm0 hs0 v8 (fun x => ?_) (fun _ => v8) (fun x y => ?_) (fun x y => ?_)
    · rw [kv, hk1] at x
      subst x
      refine b_Law_law_146 (m2 := 0) (s2 := 0) hm0 hs0 ?_
      rw [nI_1, nI_1, show (3 : Int32) = nI 3 from rfl, nI_add]
      exact hrec
    · rw [kv, hk1] at x
      rw [kv, hk2] at y
      rw [nI_1, nI_1, nI_1]
      have e1 : pcN k = 1 := by unfold pcN; rw [if_neg (by omega)]
      rw [show pcN (k, v).1 = 1 from e1] at hrec
      exact hrec
    · rw [kv, hk2] at y
      subst y
      refine b_Law_law_146 (m2 := 0) (s2 := 0) hm0 hs0 ?_
      rw [nI_1, nI_1, show (3 : Int32) = nI 3 from rfl, nI_add]
      exact hrec
end LAWI
