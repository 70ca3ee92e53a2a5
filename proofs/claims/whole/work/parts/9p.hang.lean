/-! PART 9p: the class: whether rows that differ in one letter end unlike -/
section HANG
variable {X : aw_X} {d d2 : Nat} {Q : Option Value → aw_H → Prop} {I : Nat → Nat → Int32} {L : Nat → Nat → Int64} {D : Nat → Nat} {S : PT} {c s B T O F : Nat}
theorem l_AW_ends {E : Nat → PE} {x U : Nat} (f0 : 0 < F) (f4 : F ≤ 40) (hx : ∀ v, v < 2 ^ B → x + v * U < 2 ^ (B * (T + O))) (hE : ∀ r, RT1 S B T O F r (-1) (E r)) {I0 : Nat → Nat → Int32} {L0 : Nat → Nat → Int64}
    (hQ1 : (∃ v, 1 ≤ v ∧ v < 2 ^ B ∧ p_out (E (x + v * U)) ≠ p_out (E x)) → ∀ I' L', KFr I0 I' L0 L' → Q (some (.int 1)) (aw_s I' L' D)) (hQ0 : ¬ (∃ v, 1 ≤ v ∧ v < 2 ^ B ∧ p_out (E (x + v * U)) ≠ p_out (E x)) → ∀ I' L', KFr I0 I' L0 L' → Q (some (.int 0)) (aw_s I' L' D)) :
    ∀ (m k : Nat) (I : Nat → Nat → Int32) (L : Nat → Nat → Int64), k + m = 2 ^ B → KIn S c B T O I L → KFr I0 I L0 L → (∀ v, 1 ≤ v → v < k → p_out (E (x + v * U)) = p_out (E x)) → 1 ≤ k →
      aw_z X (d + 7) y_AW_endsUnlike Q 16 [some (.ref 0), some (.ref c), some (.int (nI x)), some (.int (nI U)), some (.int (nI F)), some (.int (p_out (E x))), some (.int (nI k))] [] (aw_s I L D) := by
  intro m
  induction m with
  | zero =>
    intro k I L e h f hv k1
    have hk := h.2.2.2.1
    have p6 : 2 ^ B ≤ 64 := Nat.pow_le_pow_right (n := 2) (by decide) hk.2.1
    have p0 := Nat.two_pow_pos B
    refine b_AW_endsUnlike_16 (c_Sz_gr hk.1 hk.2.1 h.2.2.2.2.1 (b_AW_endsUnlike_25 (fun _ => hQ0 (fun ⟨v, a, b, z⟩ => z (hv v a (by omega))) I L f) (fun q => absurd ?_ q)))
    show nI (2 ^ B - 1) < nI k
    rw [nI_ltI (by omega) (by omega)]; omega
  | succ m ih =>
    intro k I L e h f hv k1
    have hk := h.2.2.2.1
    have p6 : 2 ^ B ≤ 64 := Nat.pow_le_pow_right (n := 2) (by decide) hk.2.1
    have p0 := Nat.two_pow_pos B
    refine b_AW_endsUnlike_16 (c_Sz_gr hk.1 hk.2.1 h.2.2.2.2.1 (b_AW_endsUnlike_25 (fun q => ?_) (fun _ => ?_)))
    · have q : nI (2 ^ B - 1) < nI k := q
      rw [nI_ltI (by omega) (by omega)] at q; omega
    · rw [pk_mul, nI_add]
      refine k_outcome h f0 f4 (hx k (by omega)) (hE _) (fun I1 L1 f1 => b_AW_endsUnlike_44 (fun q => ?_) (fun q => hQ1 ⟨k, k1, by omega, q⟩ I1 L1 (f.tr f1)))
      rw [nI_1]
      refine ih (k + 1) I1 L1 (by omega) (h.fr f1) (f.tr f1) (fun v a b => ?_) (by omega)
      by_cases g : v = k
      · subst g; exact q
      · exact hv v a (by omega)
theorem c_AW_endsUnlike {E : Nat → PE} {x U : Nat} (h : KIn S c B T O I L) (f0 : 0 < F) (f4 : F ≤ 40) (hx : ∀ v, v < 2 ^ B → x + v * U < 2 ^ (B * (T + O))) (hE : ∀ r, RT1 S B T O F r (-1) (E r))
    (hQ1 : (∃ v, 1 ≤ v ∧ v < 2 ^ B ∧ p_out (E (x + v * U)) ≠ p_out (E x)) → ∀ I' L', KFr I I' L L' → Q (some (.int 1)) (aw_s I' L' D)) (hQ0 : ¬ (∃ v, 1 ≤ v ∧ v < 2 ^ B ∧ p_out (E (x + v * U)) ≠ p_out (E x)) → ∀ I' L', KFr I I' L L' → Q (some (.int 0)) (aw_s I' L' D)) :
    aw_m X (d + 7) y_AW_endsUnlike [.ref 0, .ref c, .int (nI x), .int (nI U), .int (nI F)] (aw_s I L D) Q := by
  have p0 := Nat.two_pow_pos B
  have x0 : x < 2 ^ (B * (T + O)) := by
    have := hx 0 p0
    rw [Nat.zero_mul] at this; exact this
  refine aw_go rfl rfl (b_AW_endsUnlike_0 (k_outcome h f0 f4 x0 (hE x) (fun I1 L1 f1 => b_AW_endsUnlike_11 ?_)))
  exact l_AW_ends (d := d) (I0 := I) (L0 := L) f0 f4 hx hE hQ1 hQ0 (2 ^ B - 1) 1 I1 L1 (by omega) (h.fr f1) f1 (fun v a b => absurd a (by omega)) (Nat.le_refl _)
end HANG
