/-! PART 9r: shifts; the row with 0 in one letter's place, as the reference makes it -/
theorem shl_nI {a s : Nat} (hs : s ≤ 31) : nI a <<< (nI s &&& 31) = nI (a * 2 ^ s) := by
  have e : ((nI s &&& 31).toBitVec.smod 32#32).toNat = s := (show ∀ s, s < 32 → ((nI s &&& 31).toBitVec.smod 32#32).toNat = s by decide +kernel) s (by omega)
  apply Int32.toBitVec_inj.mp
  apply BitVec.eq_of_toNat_eq
  have tn : ∀ n, (nI n).toBitVec.toNat = n % 2 ^ 32 := fun n => BitVec.toNat_ofNat n 32
  rw [tn]
  show ((nI a).toBitVec <<< ((nI s &&& 31).toBitVec.smod 32#32)).toNat = _
  rw [BitVec.shiftLeft_eq', e, BitVec.toNat_shiftLeft, tn, Nat.shiftLeft_eq, Nat.mod_mul_mod]
theorem bre_sum (a b r : Nat) : bre (2 ^ a) (2 ^ b) r = 2 ^ (a + b) * (r / 2 ^ (a + b)) + r % 2 ^ a := by
  have h1 : 2 ^ a * (r / 2 ^ a) + r % 2 ^ a = r := Nat.div_add_mod r (2 ^ a)
  have h2 : 2 ^ b * (r / 2 ^ a / 2 ^ b) + (r / 2 ^ a) % 2 ^ b = r / 2 ^ a := Nat.div_add_mod (r / 2 ^ a) (2 ^ b)
  have h3 : r / 2 ^ (a + b) = r / 2 ^ a / 2 ^ b := by rw [Nat.div_div_eq_div_mul, ← Nat.pow_add]
  have h4 : 2 ^ (a + b) * (r / 2 ^ (a + b)) = 2 ^ a * (2 ^ b * (r / 2 ^ a / 2 ^ b)) := by rw [h3, Nat.pow_add, Nat.mul_assoc]
  have h5 : 2 ^ a * (r / 2 ^ a) = 2 ^ a * (2 ^ b * (r / 2 ^ a / 2 ^ b)) + 2 ^ a * ((r / 2 ^ a) % 2 ^ b) := by rw [← Nat.mul_add, h2]
  have h6 : ltr (2 ^ a) (2 ^ b) r * 2 ^ a = 2 ^ a * ((r / 2 ^ a) % 2 ^ b) := Nat.mul_comm _ _
  unfold bre
  rw [h6, h4]
  omega
theorem lo_lt (a b r : Nat) : r % 2 ^ a < 2 ^ (a + b) := Nat.lt_of_lt_of_le (Nat.mod_lt _ (Nat.two_pow_pos a)) (Nat.pow_le_pow_right (by decide) (by omega))
theorem bre_or (a b r : Nat) : bre (2 ^ a) (2 ^ b) r = 2 ^ (a + b) * (r / 2 ^ (a + b)) ||| r % 2 ^ a := by
  rw [bre_sum, Nat.two_pow_add_eq_or_of_lt (lo_lt a b r)]
theorem bre_bit (a b r i : Nat) : (bre (2 ^ a) (2 ^ b) r).testBit i = (r.testBit i && !(decide (a ≤ i) && decide (i < a + b))) := by
  rw [bre_or, Nat.testBit_or, Nat.testBit_two_pow_mul, Nat.testBit_mod_two_pow, ← Nat.shiftRight_eq_div_pow, Nat.testBit_shiftRight]
  by_cases h1 : a + b ≤ i
  · rw [Nat.add_sub_cancel' h1]
    simp [h1, show ¬ i < a by omega, show ¬ i < a + b by omega]
  · by_cases h2 : a ≤ i
    · simp [h1, h2, show ¬ i < a by omega, show i < a + b by omega]
    · simp [h1, h2, show i < a by omega]
/-- the reference's row with 0 there -/
theorem m_bre {a B r : Nat} : nI r &&& ((nI ((2 ^ B - 1) * 2 ^ a)) ^^^ -1) = nI (bre (2 ^ a) (2 ^ B) r) := by
  apply Int32.toBitVec_inj.mp
  show BitVec.ofNat 32 r &&& (BitVec.ofNat 32 ((2 ^ B - 1) * 2 ^ a) ^^^ (-1 : Int32).toBitVec) = BitVec.ofNat 32 (bre (2 ^ a) (2 ^ B) r)
  rw [show (-1 : Int32).toBitVec = BitVec.allOnes 32 by decide]
  apply BitVec.eq_of_getLsbD_eq
  intro i hi
  rw [BitVec.getLsbD_and, BitVec.getLsbD_xor, BitVec.getLsbD_allOnes, BitVec.getLsbD_ofNat, BitVec.getLsbD_ofNat, BitVec.getLsbD_ofNat, bre_bit, ← Nat.shiftLeft_eq, Nat.testBit_shiftLeft, Nat.testBit_two_pow_sub_one]
  by_cases h2 : a ≤ i
  · simp [hi, h2, show (i - a < B) = (i < a + B) by rw [eq_iff_iff]; omega]
  · simp [hi, h2]
theorem bre_put {a B r v : Nat} (hv : v < 2 ^ B) : bre (2 ^ a) (2 ^ B) r ||| v * 2 ^ a = bre (2 ^ a) (2 ^ B) r + v * 2 ^ a := by
  have h1 : r % 2 ^ a < 2 ^ a := Nat.mod_lt _ (Nat.two_pow_pos a)
  have h2 : 2 ^ a * v + r % 2 ^ a < 2 ^ (a + B) := by
    rw [Nat.pow_add]
    have : 2 ^ a * (v + 1) ≤ 2 ^ a * 2 ^ B := Nat.mul_le_mul_left _ hv
    rw [Nat.mul_add] at this
    omega
  have e1 : bre (2 ^ a) (2 ^ B) r + v * 2 ^ a = 2 ^ (a + B) * (r / 2 ^ (a + B)) + (2 ^ a * v + r % 2 ^ a) := by
    rw [bre_sum, Nat.mul_comm v]; omega
  rw [e1, Nat.two_pow_add_eq_or_of_lt h2, Nat.two_pow_add_eq_or_of_lt h1, bre_or, Nat.mul_comm v]
  rw [Nat.or_assoc, Nat.or_comm (r % 2 ^ a)]
theorem bre_lt {a B r v R : Nat} (hr : r < 2 ^ R) (hR : a + B ≤ R) (hv : v < 2 ^ B) : bre (2 ^ a) (2 ^ B) r + v * 2 ^ a < 2 ^ R := by
  rw [bre_sum]
  have h1 : r % 2 ^ a < 2 ^ a := Nat.mod_lt _ (Nat.two_pow_pos a)
  have h2 : v * 2 ^ a + r % 2 ^ a < 2 ^ (a + B) := by
    rw [Nat.pow_add, Nat.mul_comm v]
    have : 2 ^ a * (v + 1) ≤ 2 ^ a * 2 ^ B := Nat.mul_le_mul_left _ hv
    rw [Nat.mul_add] at this
    omega
  have e : 2 ^ R = 2 ^ (a + B) * 2 ^ (R - (a + B)) := by rw [← Nat.pow_add]; congr 1; omega
  have h3 : r / 2 ^ (a + B) < 2 ^ (R - (a + B)) := by
    rw [Nat.div_lt_iff_lt_mul (Nat.two_pow_pos _), Nat.mul_comm, ← e]; exact hr
  have h4 : 2 ^ (a + B) * (r / 2 ^ (a + B) + 1) ≤ 2 ^ (a + B) * 2 ^ (R - (a + B)) := Nat.mul_le_mul_left _ h3
  rw [Nat.mul_add] at h4
  rw [e]
  omega
