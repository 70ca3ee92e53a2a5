/-! PART 97: program of both -/
def DOK (D : Nat → Nat) : Prop := (∀ i, i < 6 → D i ∈ aw_codes) ∧ ∀ i j, i < 6 → j < 6 → i ≠ j → D i ≠ D j
theorem codes_dj {a b o : Nat} (ha : a ∈ aw_codes) (hb : b ∈ aw_codes) (h : a ≠ b) (h1 : a ≤ o) (h2 : o ≤ a + 4) : ¬ (b ≤ o ∧ o ≤ b + 4) := by
  have ha2 : a = 30 ∨ a = 35 ∨ a = 40 ∨ a = 45 ∨ a = 50 ∨ a = 55 := by simpa [aw_codes] using ha
  have hb2 : b = 30 ∨ b = 35 ∨ b = 40 ∨ b = 45 ∨ b = 50 ∨ b = 55 := by simpa [aw_codes] using hb
  omega
/-- the two codes are swapped -/
def sw (k i : Nat) : Nat := if i = k then 5 else if i = 5 then k else i
theorem sw_D {D : Nat → Nat} {k i x : Nat} (hk : k < 4) (hi : i < 6) : (va_up (va_up (va_up D 6 x) k (D 5)) 5 (D k)) i = D (sw k i) := by
  unfold sw
  by_cases h5 : i = 5
  · subst h5; rw [up_s, if_neg (by omega), if_pos rfl]
  · rw [up_n _ _ h5]
    by_cases g : i = k
    · subst g; rw [up_s, if_pos rfl]
    · rw [up_n _ _ g, up_n _ _ (by omega), if_neg g, if_neg h5]
theorem sw_OK {D : Nat → Nat} {k x : Nat} (hk : k < 4) (h : DOK D) : DOK (va_up (va_up (va_up D 6 x) k (D 5)) 5 (D k)) := by
  have lt : ∀ i, i < 6 → sw k i < 6 := fun i hi => by unfold sw; (repeat' split) <;> omega
  refine ⟨fun i hi => by rw [sw_D hk hi]; exact h.1 _ (lt i hi), fun i j hi hj hne => ?_⟩
  rw [sw_D hk hi, sw_D hk hj]
  exact h.2 _ _ (lt i hi) (lt j hj) (by unfold sw; (repeat' split) <;> omega)
theorem d6_OK {D : Nat → Nat} {x : Nat} (h : DOK D) : DOK (va_up D 6 x) := by
  have e : ∀ i, i < 6 → va_up D 6 x i = D i := fun i hi => up_n _ _ (by omega)
  exact ⟨fun i hi => by rw [e i hi]; exact h.1 i hi, fun i j hi hj hne => by rw [e i hi, e j hj]; exact h.2 i j hi hj hne⟩
section PROG
variable {X : aw_X} {d d2 : Nat} {Q : Option Value → aw_H → Prop} {I : Nat → Nat → Int32} {L : Nat → Nat → Int64} {D : Nat → Nat} {v : Int32}
theorem i32_4 (v : Int32) : (v < 0 ∨ (4 : Int32) ≤ v) ∨ ∃ k, k < 4 ∧ v = nI k := by
  by_cases h1 : v < 0
  · exact Or.inl (Or.inl h1)
  · by_cases h2 : (4 : Int32) ≤ v
    · exact Or.inl (Or.inr h2)
    · obtain ⟨k, rfl, hk⟩ := i32_nat h1
      have : ((4 : Int32) ≤ nI k) = (4 ≤ k) := nI_le' (a := 4) (by decide) hk
      rw [this] at h2
      exact Or.inr ⟨k, by omega, rfl⟩
end PROG
