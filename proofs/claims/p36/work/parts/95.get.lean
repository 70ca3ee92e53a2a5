/-! PART 95: what is only looked up; sizes -/
/-- class and reference answer the same, and only that nothing was thrown is noted -/
def GetP (X : aw_X) (yK : aw_Y) (avK : List Value) (yM : aw_Y) (avM : List Value) (I : Nat → Nat → Int32) : Prop :=
  ∃ r, ∀ (d : Nat) (L : Nat → Nat → Int64) (D : Nat → Nat), (∀ Q : Option Value → aw_H → Prop, Q (some (.int r)) (aw_s I L D) → aw_m X (d + 1) yK avK (aw_s I L D) Q) ∧ (∀ Q : Option Value → aw_H → Prop, Q (some (.int r)) (aw_s (aw_u I 69 0 0) L D) → aw_m X (d + 1) yM avM (aw_s I L D) Q)
def RF (I : Nat → Nat → Int32) : Prop := I 0 9 = I 69 9
def RSz (I : Nat → Nat → Int32) : Prop := ∃ B T O, SZok B T O ∧ I 1 0 = nI B ∧ I 1 1 = nI T ∧ I 1 2 = nI O ∧ SZ I B T O
/-- a row that was left behind by both -/
def RRow (I : Nat → Nat → Int32) (N o k a o' k' a' : Nat) : Prop := ∃ n, n ≤ N ∧ I o k = nI n ∧ I o' k' = nI n ∧ ∀ j, j < n → I a j = I a' j
def RGt (I : Nat → Nat → Int32) : Prop := (I 0 17 = 0 ∧ I 69 85 = 0) ∨ (I 0 17 = 1 ∧ I 69 85 = 1 ∧ ∀ j, j < 17 → I 68 j = I 114 j)
section GETS
variable {X : aw_X} {I : Nat → Nat → Int32} {v : Int32}
/-- which of a row's numbers, or none -/
def rowV (n : Nat) (f : Nat → Int32) (v : Int32) : Int32 := if v < 0 ∨ nI n ≤ v then -1 else f v.toNatClampNeg
theorem rowV_i {n : Nat} {v : Int32} (hn : n < 2 ^ 31) (h1 : ¬ v < 0) (h2 : ¬ nI n ≤ v) : ∃ j, j < n ∧ v = nI j ∧ v.toNatClampNeg = j := by
  obtain ⟨j, rfl, hj⟩ := i32_nat h1
  rw [nI_leI hn hj] at h2
  exact ⟨j, by omega, rfl, nI_clamp hj⟩
theorem rowV_hi {n N : Nat} {v : Int32} (hN : N < 2 ^ 31) (hn : n ≤ N) (h1 : ¬ v < 0) (h2 : ¬ nI n ≤ v) : ¬ nI N ≤ v := by
  obtain ⟨j, hj, rfl, -⟩ := rowV_i (by omega) h1 h2
  rw [nI_leI (by omega) (by omega)]; omega
end GETS
