/-! PART 46: the loop of the reference's run -/
section MLOOP
variable {X : aw_X} {d : Nat} {Q : Option Value → aw_H → Prop} {D : Nat → Nat}
theorem eqN {o : Nat} (ho : o < 64) : (nI o = 0) = (o = 0) ∧ (nI o = 1) = (o = 1) ∧ (nI o = 15) = (o = 15) ∧ (nI o = 16) = (o = 16) ∧ (nI o = 17) = (o = 17) ∧ (nI o = 18) = (o = 18) ∧ (nI o = 19) = (o = 19) ∧ (nI o = 20) = (o = 20) ∧ (nI o = 21) = (o = 21) ∧ (nI o = 22) = (o = 22) ∧ (nI o = 23) = (o = 23) ∧ (nI o = 24) = (o = 24) :=
  ⟨eqI (k := 0) ho (by decide), eqI (k := 1) ho (by decide), eqI (k := 15) ho (by decide), eqI (k := 16) ho (by decide), eqI (k := 17) ho (by decide), eqI (k := 18) ho (by decide), eqI (k := 19) ho (by decide), eqI (k := 20) ho (by decide), eqI (k := 21) ho (by decide), eqI (k := 22) ho (by decide), eqI (k := 23) ho (by decide), eqI (k := 24) ho (by decide)⟩
theorem m1_0 : ((-1 : Int32) = 0) = False := by simp
theorem m1_le : ((-1 : Int32) ≤ 0) = True := by simp
theorem SRI_to {I I' : Nat → Nat → Int32} {v : Int32} {st : List Int32} (h : SRI I (v :: st)) (h1 : I' 69 25 = nI st.length) (h2 : I' 86 = I 86) : SRI I' st := ⟨h1, by rw [h2]; exact h.2.1.2, by have := h.2.2; simp at this; omega⟩
theorem SRI_as {I I' : Nat → Nat → Int32} {st : List Int32} (h : SRI I st) (h1 : I' 69 25 = I 69 25) (h2 : I' 86 = I 86) : SRI I' st := ⟨h1.trans h.1, by rw [h2]; exact h.2.1, h.2.2⟩
/-- what stays while the run goes: the code of the slot, the sizes, the rule -/
def RunC (P : Nat → Nat × Int32) (n slot B T O F : Nat) (rule : Int32) (I0 : Nat → Nat → Int32) : Prop :=
  SZ I0 B T O ∧ SZok B T O ∧ slot ≤ 6 ∧ F ≤ 40 ∧ (¬ rule < 0 → rg B rule) ∧ (I0 69 48 = 0 ∨ I0 69 48 = 1 ∨ I0 69 48 = 2) ∧ ∀ j, j < n → I0 71 (800 * slot + j) = nI (P j).1 ∧ I0 72 (800 * slot + j) = (P j).2
abbrev mloc (slot : Nat) (row : Int32) (F : Nat) (rule v5 v6 v7 v8 : Int32) : aw_L := [some (.ref 69), some (.int (nI slot)), some (.int row), some (.int (nI F)), some (.int rule), some (.int v5), some (.int v6), some (.int v7), some (.int v8), none, none, none, none]
theorem MRfr.au {I0 I : Nat → Nat → Int32} {L0 L : Nat → Nat → Int64} (h : MRfr I0 I L0 L) {o k : Nat} {v : Int32} (ho : (o = 69 ∧ (k = 25 ∨ k = 42 ∨ k = 43 ∨ k = 44 ∨ k = 45)) ∨ o = 84 ∨ o = 85 ∨ o = 86 ∨ o = 87 ∨ o = 88 ∨ o = 90) : MRfr I0 (aw_u I o k v) L0 L := by
  obtain ⟨a1, a2, a3, a4⟩ := h
  refine ⟨fun q h1 h2 h3 h4 h5 h6 h7 => ?_, fun q h1 h2 h3 h4 h5 => ?_, a3, a4⟩
  · rw [au_o (by rcases ho with h | h | h | h | h | h | h <;> omega)]; exact a1 q h1 h2 h3 h4 h5 h6 h7
  · rw [au_ok (by rcases ho with h | h | h | h | h | h | h <;> omega)]; exact a2 q h1 h2 h3 h4 h5
theorem MRfr.al {I0 I : Nat → Nat → Int32} {L0 L : Nat → Nat → Int64} (h : MRfr I0 I L0 L) {k : Nat} {v : Int64} (hk : k = 46 ∨ k = 47) : MRfr I0 I L0 (aw_u L 69 k v) := by
  obtain ⟨a1, a2, a3, a4⟩ := h
  exact ⟨a1, a2, fun q h1 h2 => by rw [au_o h1]; exact a3 q h1 h2, fun q h1 h2 => by rw [au_k (by omega)]; exact a4 q h1 h2⟩
end MLOOP
