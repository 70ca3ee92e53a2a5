/-! PART 9o: rows that differ in one letter: the first of which some are unlike -/
theorem isFst.two {P P' : Nat → Prop} {R : Nat} {a b : Int32} (h1 : ∀ r, P' r → P r) (h2 : ∀ r, P r → ∃ t, t ≤ r ∧ P' t) (x : isFst P R a) (y : isFst P' R b) : a = b := by
  refine isFst.one (P := P) (R := R) x ?_
  rcases y with ⟨v, k1, k2, k3, rfl⟩ | ⟨k1, rfl⟩
  · refine Or.inl ⟨v, k1, h1 v k2, fun w hw p => ?_, rfl⟩
    obtain ⟨t, t1, t2⟩ := h2 w p
    exact k3 t (by omega) t2
  · refine Or.inr ⟨fun v hv p => ?_, rfl⟩
    obtain ⟨t, t1, t2⟩ := h2 v p
    exact k1 t (by omega) t2
/-- the letter's number in a row, the row with 0 in its place -/
def ltr (U V r : Nat) : Nat := (r / U) % V
def bre (U V r : Nat) : Nat := r - ltr U V r * U
theorem ltr_le (U V r : Nat) : ltr U V r * U ≤ r := Nat.le_trans (Nat.mul_le_mul_right U (Nat.mod_le _ _)) (Nat.div_mul_le_self r U)
theorem bre_add (U V r : Nat) : bre U V r + ltr U V r * U = r := Nat.sub_add_cancel (ltr_le U V r)
theorem bre_div {U V r : Nat} (hU : 0 < U) : bre U V r / U = r / U - ltr U V r := by
  unfold bre
  rw [Nat.mul_comm]
  exact Nat.sub_mul_div r U (ltr U V r)
theorem bre_0 {U V r : Nat} (hU : 0 < U) : ltr U V (bre U V r) = 0 := by
  have h := bre_div (V := V) (r := r) hU
  unfold ltr at h ⊢
  rw [h]
  have e : r / U - r / U % V = V * (r / U / V) := by
    have := Nat.div_add_mod (r / U) V
    omega
  rw [e]
  exact Nat.mul_mod_right V _
/-- the first row that is unlike one with another number there: it has 0 there -/
theorem hang_one {U V R : Nat} {f : Nat → Int32} {a b : Int32} (hU : 0 < U) (hV : 0 < V)
    (x : isFst (fun r => ∃ v, v < V ∧ f (bre U V r + v * U) ≠ f r) R a) (y : isFst (fun r => ltr U V r = 0 ∧ ∃ v, 1 ≤ v ∧ v < V ∧ f (r + v * U) ≠ f r) R b) : a = b := by
  have b0 : ∀ r, ltr U V r = 0 → bre U V r = r := fun r h => by
    have := bre_add U V r
    rw [h, Nat.zero_mul] at this; exact this
  refine isFst.two (fun r h => ?_) (fun r h => ?_) x y
  · obtain ⟨h0, v, v1, v2, v3⟩ := h
    exact ⟨v, v2, by rw [b0 r h0]; exact v3⟩
  · obtain ⟨v, v2, v3⟩ := h
    refine ⟨bre U V r, Nat.sub_le _ _, bre_0 hU, ?_⟩
    by_cases g : f (bre U V r + v * U) = f (bre U V r)
    · have ne : f (bre U V r) ≠ f r := fun z => v3 (g.trans z)
      refine ⟨ltr U V r, ?_, Nat.mod_lt _ hV, by rw [bre_add]; exact fun z => ne z.symm⟩
      rcases Nat.eq_zero_or_pos (ltr U V r) with z | z
      · exact absurd (by rw [b0 r z]) ne
      · exact z
    · refine ⟨v, ?_, v2, g⟩
      rcases Nat.eq_zero_or_pos v with z | z
      · subst z
        rw [Nat.zero_mul] at g
        exact absurd rfl g
      · exact z
