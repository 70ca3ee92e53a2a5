/-! PART 9k: the reference's mending -/
section MEND3
variable {X : aw_X} {d d2 : Nat} {Q : Option Value → aw_H → Prop} {I : Nat → Nat → Int32} {L : Nat → Nat → Int64} {D : Nat → Nat} {S : PT} {c s p B T O F : Nat} {v old : Int32}
theorem MFr.u72 {I0 I : Nat → Nat → Int32} {L0 L : Nat → Nat → Int64} {k : Nat} {u w : Int32} (h : MFr (aw_u I0 72 k u) I L0 L) : MFr (aw_u I0 72 k w) (aw_u I 72 k w) L0 L := by
  obtain ⟨a, b, e, g⟩ := h
  refine ⟨fun x h1 h2 h3 h4 h5 h6 => ?_, fun x h1 h2 h3 h4 h5 => by rw [au_o (by decide), au_o (by decide), b x h1 h2 h3 h4 h5, au_o (by decide)], e, g⟩
  by_cases q : x = 72
  · subst q
    funext y
    by_cases z : y = k
    · subst z; rw [au_s, au_s]
    · rw [au_k z, au_k z, a 72 h1 h2 h3 h4 h5 h6, au_k z]
  · rw [au_o q, au_o q, a x h1 h2 h3 h4 h5 h6, au_o q]
theorem MIn.set {u : Int32} (h : MIn S 5 B T O I) (hp : p < cn S) (h2 : (cP S p).1 = 2) : MIn (setN p u S) 5 B T O (aw_u I 72 (800 * 5 + p) u) := by
  obtain ⟨a, b, k, e, ⟨s1, s2, s3⟩, h48⟩ := h
  exact ⟨PG_set a hp h2, b, k.set hp (by decide), e, ⟨by rw [au_o (by decide)]; exact s1, by rw [au_o (by decide)]; exact s2, by rw [au_o (by decide)]; exact s3⟩, by rw [au_o (by decide)]; exact h48⟩
theorem l_M_mend1 {E : Nat → Nat → PE} {j : Nat} (f0 : 0 < F) (f4 : F ≤ 40) (hp : p < cn S) (h2 : (cP S p).1 = 2) (hn6 : cn S ≤ 600) (hE : ∀ u, u < 2 ^ B → ∀ r, RT1 (setN p (nI u) S) B T O F r (-1) (E u r) ∧ p_end B F (E u r)) {I0 : Nat → Nat → Int32} {L0 : Nat → Nat → Int64} (hold : I0 72 (800 * 5 + p) = (cP S p).2)
    (hQ : ∀ u, u < 2 ^ B → (∀ r, r < 2 ^ (B * (T + O)) → ¬ harm (E u r).1) → (∀ w, w < u → ¬ ∀ r, r < 2 ^ (B * (T + O)) → ¬ harm (E w r).1) → ∀ I' L', MFr (aw_u I0 72 (800 * 5 + p) (nI u)) I' L0 L' → Q (some (.int (nI j))) (aw_s (aw_u I' 69 73 (nI u)) L' D))
    (hN : (∀ w, w < 2 ^ B → ¬ ∀ r, r < 2 ^ (B * (T + O)) → ¬ harm (E w r).1) → ∀ I' L', MFr I0 I' L0 L' → MIn S 5 B T O I' → aw_z X (d + 5) y_M_mend Q 38 [some (.ref 69), none, some (.int (nI F)), some (.int (nI (j + 1))), none, none, none] [] (aw_s I' L' D)) :
    ∀ (m k : Nat) (w : Int32) (I : Nat → Nat → Int32) (L : Nat → Nat → Int64), k + m = 2 ^ B → MIn (setN p w S) 5 B T O I → MFr (aw_u I0 72 (800 * 5 + p) w) I L0 L → (∀ u, u < k → ¬ ∀ r, r < 2 ^ (B * (T + O)) → ¬ harm (E u r).1) →
      aw_z X (d + 5) y_M_mend Q 81 [some (.ref 69), none, some (.int (nI F)), some (.int (nI j)), some (.int (nI (800 * 5 + p))), some (.int (cP S p).2), some (.int (nI k))] [] (aw_s I L D) := by
  have vp : vp_in (nI (800 * 5 + p)) 5600 := aw_in_nI (by omega) (by decide)
  have cl : (nI (800 * 5 + p)).toNatClampNeg = 800 * 5 + p := nI_clamp (by omega)
  have sid : setN p (cP S p).2 S = S := by
    have t := setN_id (S := S) (p := p) (v := 0)
    rw [setN_set] at t; exact t
  intro m
  induction m with
  | zero =>
    intro k w I L e h f hu
    have hk := h.2.2.2.1
    have p6 : 2 ^ B ≤ 64 := Nat.pow_le_pow_right (n := 2) (by decide) hk.2.1
    have p0 := Nat.two_pow_pos B
    have lt : mk B < nI k := by
      show nI (2 ^ B - 1) < nI k
      rw [nI_ltI (by omega) (by omega)]; omega
    have B0 := @b_M_mend_87 X (d + 4) Q I L D (nI F) (nI j) (nI (800 * 5 + p)) (cP S p).2 (nI k) (mk B) (nI k)
    rw [cl, nI_1] at B0
    refine b_M_mend_81 (c_M_mask hk.1 hk.2.1 h.2.2.2.2.1.1 (B0 (fun _ => vp) (fun _ => ?_) (fun q => absurd lt q) (fun q => absurd lt q)))
    have hm := h.set (u := (cP S p).2) hp ((setN_op p w S p).trans h2)
    rw [setN_set, sid] at hm
    have hf := f.u72 (w := (cP S p).2)
    rw [au_id hold] at hf
    exact hN (fun u hu' => hu u (by omega)) _ L hf hm
  | succ m ih =>
    intro k w I L e h f hu
    have hk := h.2.2.2.1
    have p6 : 2 ^ B ≤ 64 := Nat.pow_le_pow_right (n := 2) (by decide) hk.2.1
    have p0 := Nat.two_pow_pos B
    have nlt : ¬ mk B < nI k := by
      show ¬ nI (2 ^ B - 1) < nI k
      rw [nI_ltI (by omega) (by omega)]; omega
    have B0 := @b_M_mend_87 X (d + 4) Q I L D (nI F) (nI j) (nI (800 * 5 + p)) (cP S p).2 (nI k) (mk B) (nI k)
    rw [cl] at B0
    have hm := h.set (u := nI k) hp ((setN_op p w S p).trans h2)
    rw [setN_set] at hm
    have hf := f.u72 (w := nI k)
    refine b_M_mend_81 (c_M_mask hk.1 hk.2.1 h.2.2.2.2.1.1 (B0 (fun q => absurd q nlt) (fun q => absurd q nlt) (fun _ => vp) (fun _ => ?_)))
    refine c_M_isHarmless (d := d) (s := 5) hm f0 f4 (hE k (by omega)) (fun hn I1 L1 f1 => b_M_mend_105 (fun _ => hQ k (by omega) hn hu I1 L1 (hf.tr f1)) (fun q => absurd q (by decide))) (fun hn I1 L1 f1 => b_M_mend_105 (fun q => absurd rfl q) (fun _ => ?_))
    rw [nI_1]
    refine ih (k + 1) (nI k) I1 L1 (by omega) (hm.fr f1) (hf.tr f1) (fun u hu' => ?_)
    by_cases g : u = k
    · subst g; exact hn
    · exact hu u (by omega)
end MEND3
