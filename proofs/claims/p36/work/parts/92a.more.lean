/-! PART 92a: rows out of other parts -/
theorem cmp_eq (x y : Int64) : (lg_cmp x y = 0) = (x = y) := by
  unfold lg_cmp
  by_cases h1 : x > y
  · rw [if_pos h1]
    exact propext ⟨fun g => absurd g (by decide), fun g => absurd h1 (by rw [g]; exact Int64.lt_irrefl)⟩
  · rw [if_neg h1]
    by_cases h2 : x = y
    · rw [if_pos h2]; exact propext ⟨fun _ => h2, fun _ => rfl⟩
    · rw [if_neg h2]; exact propext ⟨fun g => absurd g (by decide), fun g => absurd g h2⟩
theorem nI_ne1 {v : Nat} (h : v < 2 ^ 31) : ¬ nI v = -1 := nI_m1 h
section VALN
variable {X : aw_X} {d : Nat} {Q : Option Value → aw_H → Prop} {I : Nat → Nat → Int32} {L : Nat → Nat → Int64} {D : Nat → Nat}
theorem c_valueAtN {o j N : Nat} (ho : o ∈ aw_ta20) (hs : (aw_sh o).2 = N) (hN : N < 2 ^ 31) (hj : j < N) (h : Q (some (.int (I o j))) (aw_s I L D)) : aw_m X d y_AW_valueAt_aII [.ref o, .int (nI j)] (aw_s I L D) Q := by
  have B0 := @b_AW_valueAt_aII_0 X d Q I L D o (nI j) ho
  have p0 : ¬ nI j < 0 := nI_pos (by omega)
  have p1 : ¬ (Int32.ofNat N) ≤ nI j := by
    have : ((Int32.ofNat N) ≤ nI j) = (N ≤ j) := nI_le' (a := N) hN (by omega)
    rw [this]; omega
  rw [hs, nI_clamp (show j < 2 ^ 31 by omega)] at B0
  exact aw_go rfl rfl (B0 (fun q => absurd q p0) (fun _ q => absurd q p1) (fun _ _ => aw_in_nI hj hN) (fun _ _ => h))
end VALN
