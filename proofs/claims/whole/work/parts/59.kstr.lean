/-! PART 59: the class's tape as a text; words and signs (the two methods over strings) -/
theorem au_id {α : Type} {f : Nat → Nat → α} {o k : Nat} {v : α} (h : f o k = v) : aw_u f o k v = f := by
  funext a b
  by_cases ha : a = o
  · subst ha
    by_cases hb : b = k
    · subst hb; rw [au_s]; exact h.symm
    · rw [au_k hb]
  · rw [au_o ha]
theorem au_au {α : Type} (f : Nat → Nat → α) (o k : Nat) (v w : α) : aw_u (aw_u f o k v) o k w = aw_u f o k w := by
  funext a b
  by_cases ha : a = o
  · subst ha
    by_cases hb : b = k
    · subst hb; rw [au_s, au_s]
    · rw [au_k hb, au_k hb, au_k hb]
  · rw [au_o ha, au_o ha, au_o ha]
abbrev isBl (x : Int32) : Prop := x = 32 ∨ x = 10
abbrev isLt (x : Int32) : Prop := ¬ x < 97 ∧ ¬ 122 < x
abbrev isDg (x : Int32) : Prop := ¬ x < 48 ∧ ¬ 57 < x
abbrev isOw (x : Int32) : Prop := isLt x ∨ isDg x
def mks : List Int32 := [59, 123, 125, 40, 41, 91, 93, 43, 45, 42, 47, 61, 60, 62, 35]
/-- the words of the grammar, five places each -/
def wds : List Int32 := [112, 114, 111, 99, 32, 99, 97, 108, 108, 32, 99, 101, 108, 108, 32, 105, 102, 32, 32, 32, 101, 108, 115, 101, 32, 119, 104, 105, 108, 101, 109, 117, 115, 116, 32, 108, 101, 116, 32, 32, 97, 115, 107, 32, 32, 101, 110, 100, 32, 32, 111, 114, 32, 32, 32, 97, 110, 100, 32, 32]
def wch (k : Nat) : Int32 := wds.getD k 0
def wMt (bt : Nat → Int32) (q len w : Nat) : Prop := ∀ i, i < 5 → (if i < len then bt (q + i) else 32) = wch (5 * w + i)
/-- the tape -/
def KTp (I : Nat → Nat → Int32) (bt : Nat → Int32) (z : Nat) : Prop := I 2 1 = nI z ∧ z ≤ 540 ∧ ∀ j, j < z → I 3 j = bt j
theorem KTp.u {I : Nat → Nat → Int32} {bt : Nat → Int32} {z o k : Nat} {v : Int32} (h : KTp I bt z) (h2 : o ≠ 2) (h3 : o ≠ 3) : KTp (aw_u I o k v) bt z :=
  ⟨by rw [au_o (fun e => h2 e.symm)]; exact h.1, h.2.1, fun j hj => by rw [au_o (fun e => h3 e.symm)]; exact h.2.2 j hj⟩
section KSTR
variable {X : aw_X} {d : Nat} {Q : Option Value → aw_H → Prop} {I : Nat → Nat → Int32} {L : Nat → Nat → Int64} {D : Nat → Nat}
theorem c_Tp_byteAt {bt : Nat → Int32} {z p : Nat} (hT : KTp I bt z) (hp : p < z) (h : Q (some (.int (bt p))) (aw_s I L D)) : aw_m X d y_Tp_byteAt [.ref 2, .int (nI p)] (aw_s I L D) Q := by
  obtain ⟨t1, t2, t3⟩ := hT
  have B0 := @b_Tp_byteAt_0 X d Q I L D (nI p)
  have p0 : ¬ nI p < 0 := nI_pos (by omega)
  have p1 : ¬ nI z ≤ nI p := by rw [nI_leI (by omega) (by omega)]; omega
  have p2 : ¬ (540 : Int32) ≤ nI p := by
    have : ((540 : Int32) ≤ nI p) = (540 ≤ p) := nI_le' (a := 540) (by decide) (by omega)
    rw [this]; omega
  rw [t1, nI_clamp (show p < 2 ^ 31 by omega), t3 p hp] at B0
  exact aw_go rfl rfl (B0 (fun q => absurd q p0) (fun _ q => absurd q p1) (fun _ _ q => absurd q p2) (fun _ _ _ => aw_in_nI (by omega) (by decide)) (fun _ _ _ => h))
theorem c_Tp_byteAtX {bt : Nat → Int32} {z p : Nat} (hT : KTp I bt z) (hp : z ≤ p) (hp2 : p < 2 ^ 31) (h : Q (some (.int (-1))) (aw_s I L D)) : aw_m X d y_Tp_byteAt [.ref 2, .int (nI p)] (aw_s I L D) Q := by
  obtain ⟨t1, t2, t3⟩ := hT
  have B0 := @b_Tp_byteAt_0 X d Q I L D (nI p)
  have p1 : nI z ≤ nI p := by rw [nI_leI (by omega) (by omega)]; omega
  rw [t1] at B0
  exact aw_go rfl rfl (B0 (fun _ => h) (fun _ _ => h) (fun _ q => absurd p1 q) (fun _ q => absurd p1 q) (fun _ q => absurd p1 q))
theorem c_Tk_isWord {bt : Nat → Int32} {z q len w : Nat} (hT : KTp I bt z) (h7 : I 62 7 = nI q) (hz : q + len ≤ z) (hl : len ≤ 5) (hw : w < 12) (h1 : wMt bt q len w → Q (some (.int 1)) (aw_s I L D)) (h0 : ¬ wMt bt q len w → Q (some (.int 0)) (aw_s I L D)) :
    aw_m X (d + 8) y_Tk_isWord [.ref 62, .int (nI len), .int (nI (5 * w))] (aw_s I L D) Q := by
  sorry
theorem c_Tk_readSign {bt : Nat → Int32} {z q : Nat} (hT : KTp I bt z) (h4 : I 62 4 = nI q) (hz : q < z) (h : Q none (aw_s (aw_u (aw_u I 62 6 (if bt q ∈ mks then bt q else 0)) 62 4 (nI (q + 1))) L D)) :
    aw_m X (d + 8) y_Tk_readSign [.ref 62] (aw_s I L D) Q := by
  sorry
end KSTR
