/-! PART 96: sizes of both -/
def szP (v1 v2 v3 : Int32) : Prop := ¬ v1 < 2 ∧ ¬ 6 < v1 ∧ ¬ v2 < 1 ∧ ¬ 3 < v2 ∧ ¬ v3 < 0 ∧ ¬ 2 < v3 ∧ v1 * (v2 + v3) ≤ 12
theorem i32_lo {x : Int32} {a b : Nat} (ha : a < 1000) (hb : b < 1000) (h1 : ¬ x < nI a) (h2 : ¬ nI b < x) : ∃ n, a ≤ n ∧ n ≤ b ∧ x = nI n := by
  have h0 : ¬ x < 0 := fun h => h1 (Int32.lt_of_lt_of_le h (by rw [i32_0, nI_leI (by omega) (by omega)]; omega))
  obtain ⟨n, rfl, hn⟩ := i32_nat h0
  rw [nI_ltI hn (by omega)] at h1
  rw [nI_ltI (by omega) hn] at h2
  exact ⟨n, by omega, by omega, rfl⟩
theorem szP_nat {v1 v2 v3 : Int32} (h : szP v1 v2 v3) : ∃ B T O, SZok B T O ∧ v1 = nI B ∧ v2 = nI T ∧ v3 = nI O := by
  obtain ⟨a, b, c, e, f, g, k⟩ := h
  obtain ⟨B, b1, b2, rfl⟩ := i32_lo (a := 2) (b := 6) (by decide) (by decide) a b
  obtain ⟨T, t1, t2, rfl⟩ := i32_lo (a := 1) (b := 3) (by decide) (by decide) c e
  obtain ⟨O, o1, o2, rfl⟩ := i32_lo (a := 0) (b := 2) (by decide) (by decide) f g
  rw [nI_add, pk_mul] at k
  have hb : B * (T + O) < 2 ^ 31 := Nat.lt_of_le_of_lt (Nat.mul_le_mul b2 (show T + O ≤ 5 by omega)) (by decide)
  rw [show (12 : Int32) = nI 12 from rfl, nI_leI hb (by decide)] at k
  exact ⟨B, T, O, ⟨b1, b2, t1, t2, o2, k⟩, rfl, rfl, rfl⟩
section SIZES
variable {X : aw_X} {d d2 : Nat} {Q : Option Value → aw_H → Prop} {I : Nat → Nat → Int32} {L : Nat → Nat → Int64} {D : Nat → Nat} {v1 v2 v3 : Int32}
theorem c_Sz_change (h1 : szP v1 v2 v3 → Q (some (.int 1)) (aw_s (aw_u (aw_u (aw_u I 1 0 v1) 1 1 v2) 1 2 v3) L D)) (h0 : ¬ szP v1 v2 v3 → Q (some (.int 0)) (aw_s I L D)) : aw_m X d y_Sz_change [.ref 1, .int v1, .int v2, .int v3] (aw_s I L D) Q := by
  have bad : ¬ szP v1 v2 v3 → aw_z X d y_Sz_change Q 34 [some (.ref 1), some (.int v1), some (.int v2), some (.int v3), none] [] (aw_s I L D) := fun q => b_Sz_change_34 (b_Sz_change_35 (fun _ => h0 q) (fun x => absurd rfl x) (fun x => absurd rfl x))
  exact aw_go rfl rfl (b_Sz_change_0 (fun x => bad (fun p => p.1 x)) (fun _ x => bad (fun p => p.2.1 x)) (fun _ _ x => bad (fun p => p.2.2.1 x)) (fun _ _ _ x => bad (fun p => p.2.2.2.1 x)) (fun _ _ _ _ x => bad (fun p => p.2.2.2.2.1 x)) (fun _ _ _ _ _ x => bad (fun p => p.2.2.2.2.2.1 x)) (fun a b c e f g => b_Sz_change_35 (fun x => absurd x (by decide)) (fun _ x => h1 ⟨a, b, c, e, f, g, x⟩) (fun _ x => h0 (fun p => x p.2.2.2.2.2.2))))
theorem isInB {v a b : Int32} : (decide (a ≤ v) && decide (v ≤ b)) = true ↔ ¬ v < a ∧ ¬ b < v := by
  rw [Bool.and_eq_true, decide_eq_true_iff, decide_eq_true_iff, Int32.not_lt, Int32.not_lt]
theorem pb_t {b : Bool} : p_b b = 0 ↔ ¬ b = true := by cases b <;> decide
end SIZES
