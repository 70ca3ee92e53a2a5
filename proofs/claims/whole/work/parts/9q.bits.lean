/-! PART 9q: bits of one letter of a row -/
theorem and_shl (r m a : Nat) : r &&& (m * 2 ^ a) = ((r / 2 ^ a) &&& m) * 2 ^ a := by
  rw [← Nat.shiftLeft_eq, ← Nat.shiftLeft_eq, ← Nat.shiftRight_eq_div_pow]
  apply Nat.eq_of_testBit_eq
  intro i
  simp only [Nat.testBit_and, Nat.testBit_shiftLeft, Nat.testBit_shiftRight]
  by_cases h : a ≤ i
  · simp [h]
  · simp [h]
theorem and_ltr (r a b : Nat) : r &&& ((2 ^ b - 1) * 2 ^ a) = ltr (2 ^ a) (2 ^ b) r * 2 ^ a := by
  rw [and_shl, Nat.and_two_pow_sub_one_eq_mod]; rfl
theorem nI_and (a b : Nat) : nI a &&& nI b = nI (a &&& b) := by
  apply Int32.toBitVec_inj.mp
  show BitVec.ofNat 32 a &&& BitVec.ofNat 32 b = BitVec.ofNat 32 (a &&& b)
  apply BitVec.eq_of_getLsbD_eq
  intro i hi
  simp [BitVec.getLsbD_and, BitVec.getLsbD_ofNat, Nat.testBit_and]
theorem nI_or (a b : Nat) : nI a ||| nI b = nI (a ||| b) := by
  apply Int32.toBitVec_inj.mp
  show BitVec.ofNat 32 a ||| BitVec.ofNat 32 b = BitVec.ofNat 32 (a ||| b)
  apply BitVec.eq_of_getLsbD_eq
  intro i hi
  simp [BitVec.getLsbD_or, BitVec.getLsbD_ofNat, Nat.testBit_or, hi]
/-- the class's test whether the letter is 0 -/
theorem k_ltr {r a B : Nat} (hr : r < 4096) : (nI r &&& (nI (2 ^ a) * mk B) = 0) ↔ ltr (2 ^ a) (2 ^ B) r = 0 := by
  have e : nI (2 ^ a) * mk B = nI ((2 ^ B - 1) * 2 ^ a) := by
    show nI (2 ^ a) * nI (2 ^ B - 1) = _
    rw [pk_mul, Nat.mul_comm]
  have le := ltr_le (2 ^ a) (2 ^ B) r
  rw [e, nI_and, and_ltr, show (0 : Int32) = nI 0 from rfl, nI_eq (by omega) (by decide)]
  have p := Nat.two_pow_pos a
  constructor
  · intro h
    rcases Nat.mul_eq_zero.mp h with g | g
    · exact g
    · omega
  · intro h
    rw [h, Nat.zero_mul]
