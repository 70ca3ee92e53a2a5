/-! PART 9q: bits of one letter of a row -/
theorem and_shl (r m a : Nat) : r &&& (m * 2 ^ a) = ((r / 2 ^ a) &&& m) * 2 ^ a := by
  rw [← Nat.shiftLeft_eq, ← Nat.shiftLeft_eq, ← Nat.shiftRight_eq_div_pow]
  apply Nat.eq_of_testBit_eq
  intro i
  simp only [Nat.testBit_and, Nat.testBit_shiftLeft, Nat.testBit_shiftRight]
  by_cases h : a ≤ i
  · simp [h]
  · simp [h]
theorem and_ltr (r a b : Nat) : r &&& ((2 ^ b - 1) * 2 ^ a) = ltr (2 ^ a) (2 ^ b) r * 2 ^ a := by
  rw [and_shl, Nat.and_two_pow_sub_one_eq_mod]; rfl
