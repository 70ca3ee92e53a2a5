/-! PART 47: the reference's run, from its entry -/
def ps0 (st : Nat) (nm cl : Nat → Int32) : PS := (st, [], [], nm, cl, -1, 0, [], 0, fun _ => 0, [])
section M47
variable {X : aw_X} {d : Nat} {Q : Option Value → aw_H → Prop} {D : Nat → Nat}
theorem ps0_good {P : Nat → Nat × Int32} {n st0 : Nat} {ty : Nat → List Bool} {sg : Nat → Nat} {B F : Nat} {nm cl : Nat → Int32} (hW : p_WF P n st0 ty sg) (hF : 0 < F) (h1 : ∀ k, k < 8 → rg B (nm k)) (h2 : ∀ k, k < 8 → rg B (cl k)) : p_good P n ty sg B F (ps0 st0 nm cl) := by
  obtain ⟨w1, w2, w3, w4, w0, w5, w6, w7⟩ := hW
  exact ⟨w2, by rw [w3]; trivial, w4, h1, h2, Nat.zero_le _, Nat.zero_le _, fun _ => w5, fun h => absurd h (Nat.lt_irrefl 0), rfl, fun _ => rfl, fun h => by rw [w0] at h; cases h⟩
theorem ps0_V {P : Nat → Nat × Int32} {n st0 : Nat} {ty : Nat → List Bool} {sg : Nat → Nat} {nm cl : Nat → Int32} (hW : p_WF P n st0 ty sg) : p_V P n (ps0 st0 nm cl) ≤ 260000 := by
  have h := p_acn_le (P := P) (Nat.zero_le st0) (Nat.le_of_lt hW.2.1)
  have h2 := hW.2.2.2.2.2.2.1
  have h3 : p_acn P n st0 ≤ 125 := Nat.le_trans h h2
  show (1001 - 0) * 256 + 0 + _ ≤ 260000
  split
  · omega
  · split <;> omega
/-- there is one end of a run -/
theorem run_ex {P : Nat → Nat × Int32} {n st0 : Nat} {ty : Nat → List Bool} {sg : Nat → Nat} {B F : Nat} {an : Nat → Int32} {nm cl : Nat → Int32} (hW : p_WF P n st0 ty sg) (hB : B ≤ 6) (hF : 0 < F) (han : ∀ k, rg B (an k)) (h1 : ∀ k, k < 8 → rg B (nm k)) (h2 : ∀ k, k < 8 → rg B (cl k)) :
    ∃ N E, p_run P (mk B) F an N (ps0 st0 nm cl) = some E ∧ p_end B F E := p_run_ends hW hB rfl han _ _ (ps0_good hW hF h1 h2) (Nat.le_refl _)
end M47
