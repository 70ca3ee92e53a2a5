/-! PART 96: sizes of both -/
def szP (v1 v2 v3 : Int32) : Prop := ¬ v1 < 2 ∧ ¬ 6 < v1 ∧ ¬ v2 < 1 ∧ ¬ 3 < v2 ∧ ¬ v3 < 0 ∧ ¬ 2 < v3 ∧ v1 * (v2 + v3) ≤ 12
theorem i32_lo {x : Int32} {a b : Nat} (ha : a < 1000) (hb : b < 1000) (h1 : ¬ x < nI a) (h2 : ¬ nI b < x) : ∃ n, a ≤ n ∧ n ≤ b ∧ x = nI n := by
  have h0 : ¬ x < 0 := fun h => h1 (Int32.lt_of_lt_of_le h (by rw [i32_0, nI_leI (by omega) (by omega)]; omega))
  obtain ⟨n, rfl, hn⟩ := i32_nat h0
  rw [nI_ltI hn (by omega)] at h1
  rw [nI_ltI (by omega) hn] at h2
  exact ⟨n, by omega, by omega, rfl⟩
theorem szP_nat {v1 v2 v3 : Int32} (h : szP v1 v2 v3) : ∃ B T O, SZok B T O ∧ v1 = nI B ∧ v2 = nI T ∧ v3 = nI O := by
  obtain ⟨a, b, c, e, f, g, k⟩ := h
  obtain ⟨B, b1, b2, rfl⟩ := i32_lo (a := 2) (b := 6) (by decide) (by decide) a b
  obtain ⟨T, t1, t2, rfl⟩ := i32_lo (a := 1) (b := 3) (by decide) (by decide) c e
  obtain ⟨O, o1, o2, rfl⟩ := i32_lo (a := 0) (b := 2) (by decide) (by decide) f g
  rw [nI_add, pk_mul] at k
  have hb : B * (T + O) < 2 ^ 31 := Nat.lt_of_le_of_lt (Nat.mul_le_mul b2 (show T + O ≤ 5 by omega)) (by decide)
  rw [show (12 : Int32) = nI 12 from rfl, nI_leI hb (by decide)] at k
  exact ⟨B, T, O, ⟨b1, b2, t1, t2, o2, k⟩, rfl, rfl, rfl⟩
section SIZES
variable {X : aw_X} {d d2 : Nat} {Q : Option Value → aw_H → Prop} {I : Nat → Nat → Int32} {L : Nat → Nat → Int64} {D : Nat → Nat} {v1 v2 v3 : Int32}
theorem q_us (h : I 0 12 = I 69 72) : GetP X y_AW_unsafe [.ref 0] y_M_unsafe [.ref 69] I :=
  ⟨I 0 12, fun d L D => ⟨fun Q q => aw_go rfl rfl (b_AW_unsafe_0 q), fun Q q => aw_go rfl rfl (b_M_unsafe_0 (by rw [← h]; exact q))⟩⟩
theorem c_Sz_change (h1 : szP v1 v2 v3 → Q (some (.int 1)) (aw_s (aw_u (aw_u (aw_u I 1 0 v1) 1 1 v2) 1 2 v3) L D)) (h0 : ¬ szP v1 v2 v3 → Q (some (.int 0)) (aw_s I L D)) : aw_m X d y_Sz_change [.ref 1, .int v1, .int v2, .int v3] (aw_s I L D) Q := by
  have bad : ¬ szP v1 v2 v3 → aw_z X d y_Sz_change Q 34 [some (.ref 1), some (.int v1), some (.int v2), some (.int v3), none] [] (aw_s I L D) := fun q => b_Sz_change_34 (b_Sz_change_35 (fun _ => h0 q) (fun x => absurd rfl x) (fun x => absurd rfl x))
  exact aw_go rfl rfl (b_Sz_change_0 (fun x => bad (fun p => p.1 x)) (fun _ x => bad (fun p => p.2.1 x)) (fun _ _ x => bad (fun p => p.2.2.1 x)) (fun _ _ _ x => bad (fun p => p.2.2.2.1 x)) (fun _ _ _ _ x => bad (fun p => p.2.2.2.2.1 x)) (fun _ _ _ _ _ x => bad (fun p => p.2.2.2.2.2.1 x)) (fun a b c e f g => b_Sz_change_35 (fun x => absurd x (by decide)) (fun _ x => h1 ⟨a, b, c, e, f, g, x⟩) (fun _ x => h0 (fun p => x p.2.2.2.2.2.2))))
theorem isInB {v a b : Int32} : (decide (a ≤ v) && decide (v ≤ b)) = true ↔ ¬ v < a ∧ ¬ b < v := by
  rw [Bool.and_eq_true, decide_eq_true_iff, decide_eq_true_iff, Int32.not_lt, Int32.not_lt]
theorem pb_t {b : Bool} : p_b b = 0 ↔ ¬ b = true := by cases b <;> decide
theorem c_M_sizes (h1 : szP v1 v2 v3 → Q (some (.int 1)) (aw_s (aw_u (aw_u (aw_u (aw_u (aw_u I 69 0 0) 69 33 v1) 69 34 v2) 69 35 v3) 69 36 0) L D)) (h0 : ¬ szP v1 v2 v3 → Q (some (.int 0)) (aw_s (aw_u I 69 0 0) L D)) : aw_m X (d + 1) y_M_sizes [.ref 69, .int v1, .int v2, .int v3] (aw_s I L D) Q := by
  refine aw_go rfl rfl (b_M_sizes_0 (c_M_isIn (b_M_sizes_12 (fun x => h0 (fun p => ?_)) (fun x => c_M_isIn (b_M_sizes_21 (fun y => h0 (fun p => ?_)) (fun y => c_M_isIn (b_M_sizes_30 (fun z => h0 (fun p => ?_)) (fun z w => h1 ?_) (fun z w => h0 (fun p => w p.2.2.2.2.2.2)))))))))
  · rw [pb_t, isInB] at x; exact x ⟨p.1, p.2.1⟩
  · rw [pb_t, isInB] at y; exact y ⟨p.2.2.1, p.2.2.2.1⟩
  · rw [pb_t, isInB] at z; exact z ⟨p.2.2.2.2.1, p.2.2.2.2.2.1⟩
  · rw [pb_t, isInB, Classical.not_not] at x y z
    exact ⟨x.1, x.2, y.1, y.2, z.1, z.2, w⟩
theorem q_sizes (h : RSz I) (hQ : ∀ r I1, (∀ o k, o ≠ 1 → ¬ (o = 11 ∧ k = 0) → I1 o k = I o k) → ((r = 1 ∧ I1 11 0 = 0) ∨ (r = 0 ∧ I1 11 0 = I 11 0)) →
      (∀ (Q2 : Option Value → aw_H → Prop), (∀ I2, RSz I2 → I2 69 0 = 0 → (∀ o k, ¬ (o = 69 ∧ (k = 0 ∨ (33 ≤ k ∧ k ≤ 36))) → I2 o k = I1 o k) → ((r = 1 ∧ I2 69 36 = 0) ∨ (r = 0 ∧ I2 69 36 = I1 69 36)) → Q2 (some (.int r)) (aw_s I2 L D)) → aw_m X (d2 + 1) y_M_sizes [.ref 69, .int v1, .int v2, .int v3] (aw_s I1 L D) Q2) → Q (some (.int r)) (aw_s I1 L D)) :
    aw_m X (d + 1) y_AW_sizes [.ref 0, .int v1, .int v2, .int v3] (aw_s I L D) Q := by
  refine aw_go rfl rfl (b_AW_sizes_0 (c_Sz_change (fun p => b_AW_sizes_10 (fun _ => aw_go rfl rfl (b_Wk_forget_0 (b_AW_sizes_22 (hQ 1 _ (fun o k a b => ?_) (Or.inl ⟨rfl, au_s _ _ _ _⟩) (fun Q2 hQ2 => c_M_sizes (fun _ => hQ2 _ ?_ ?_ (fun o k a => ?_) (Or.inl ⟨rfl, au_s _ _ _ _⟩)) (fun x => absurd p x)))))) (fun x => absurd x (by decide))) (fun p => b_AW_sizes_10 (fun x => absurd rfl x) (fun _ => hQ 0 _ (fun _ _ _ _ => rfl) (Or.inr ⟨rfl, rfl⟩) (fun Q2 hQ2 => c_M_sizes (fun x => absurd x p) (fun _ => hQ2 _ ?_ (au_s _ _ _ _) (fun o k a => au_ok (by omega)) (Or.inr ⟨rfl, au_k (by decide)⟩)))))))
  · rw [au_ok (by omega), au_o a, au_o a, au_o a]
  · obtain ⟨B, T, O, s, e1, e2, e3⟩ := szP_nat p
    refine ⟨B, T, O, s, ?_, ?_, ?_, ?_, ?_, ?_⟩
    · rw [au_o (by decide), au_o (by decide), au_o (by decide), au_o (by decide), au_o (by decide), au_o (by decide), au_k (by decide), au_k (by decide), au_s]; exact e1
    · rw [au_o (by decide), au_o (by decide), au_o (by decide), au_o (by decide), au_o (by decide), au_o (by decide), au_k (by decide), au_s]; exact e2
    · rw [au_o (by decide), au_o (by decide), au_o (by decide), au_o (by decide), au_o (by decide), au_o (by decide), au_s]; exact e3
    · rw [au_k (by decide), au_k (by decide), au_k (by decide), au_s]; exact e1
    · rw [au_k (by decide), au_k (by decide), au_s]; exact e2
    · rw [au_k (by decide), au_s]; exact e3
  · rw [au_k (by decide), au_k (by decide), au_k (by decide), au_k (by decide), au_s]
  · rw [au_ok (by omega), au_ok (by omega), au_ok (by omega), au_ok (by omega), au_ok (by omega)]
  · obtain ⟨B, T, O, s, a1, a2, a3, b1, b2, b3⟩ := h
    exact ⟨B, T, O, s, by rw [au_o (by decide)]; exact a1, by rw [au_o (by decide)]; exact a2, by rw [au_o (by decide)]; exact a3, by rw [au_k (by decide)]; exact b1, by rw [au_k (by decide)]; exact b2, by rw [au_k (by decide)]; exact b3⟩
end SIZES
