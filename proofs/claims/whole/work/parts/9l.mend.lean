/-! PART 9l: the reference's mending of a program in its slot of readings -/
/-- what mending leaves: the slot of readings may differ, the value that mends is told -/
def MFx (u : Option Int32) (I0 I : Nat → Nat → Int32) (L0 L : Nat → Nat → Int64) : Prop := (∀ o, o ≠ 69 → o ≠ 72 → o ≠ 84 → o ≠ 85 → o ≠ 86 → o ≠ 87 → o ≠ 88 → I o = I0 o) ∧ (∀ x, ¬ (4000 ≤ x ∧ x < 4800) → I 72 x = I0 72 x) ∧ (∀ k, k ≠ 25 → k ≠ 42 → k ≠ 43 → k ≠ 44 → k ≠ 45 → k ≠ 73 → I 69 k = I0 69 k) ∧ I 69 73 = u.getD (I0 69 73) ∧ (∀ o, o ≠ 69 → L o = L0 o) ∧ ∀ k, k ≠ 46 → k ≠ 47 → L 69 k = L0 69 k
section MEND4
variable {X : aw_X} {d d2 : Nat} {Q : Option Value → aw_H → Prop} {I : Nat → Nat → Int32} {L : Nat → Nat → Int64} {D : Nat → Nat} {S : PT} {c s p B T O F : Nat} {v old : Int32}
theorem MFr.x {I0 I : Nat → Nat → Int32} {L0 L : Nat → Nat → Int64} (h : MFr I0 I L0 L) : MFx none I0 I L0 L := by
  obtain ⟨a, b, e, g⟩ := h
  exact ⟨fun o h1 _ h3 h4 h5 h6 h7 => a o h1 h3 h4 h5 h6 h7, fun x _ => by rw [a 72 (by decide) (by decide) (by decide) (by decide) (by decide) (by decide)], fun k h1 h2 h3 h4 h5 _ => b k h1 h2 h3 h4 h5, b 73 (by decide) (by decide) (by decide) (by decide) (by decide), e, g⟩
theorem MFr.xu {I0 I1 I : Nat → Nat → Int32} {L0 L1 L : Nat → Nat → Int64} {p : Nat} {u w : Int32} (h0 : MFr I0 I1 L0 L1) (hp : p < 800) (h : MFr (aw_u I1 72 (800 * 5 + p) w) I L1 L) : MFx (some u) I0 (aw_u I 69 73 u) L0 L := by
  obtain ⟨a0, b0, e0, g0⟩ := h0
  obtain ⟨a, b, e, g⟩ := h
  refine ⟨fun o h1 h2 h3 h4 h5 h6 h7 => ?_, fun x hx => ?_, fun k h1 h2 h3 h4 h5 h6 => ?_, au_s _ _ _ _, fun o h => (e o h).trans (e0 o h), fun k h1 h2 => (g k h1 h2).trans (g0 k h1 h2)⟩
  · rw [au_o h1, a o h1 h3 h4 h5 h6 h7, au_o h2, a0 o h1 h3 h4 h5 h6 h7]
  · rw [au_o (by decide), a 72 (by decide) (by decide) (by decide) (by decide) (by decide) (by decide), au_k (by omega), a0 72 (by decide) (by decide) (by decide) (by decide) (by decide) (by decide)]
  · rw [au_k h6, b k h1 h2 h3 h4 h5, au_o (by decide), b0 k h1 h2 h3 h4 h5]
theorem l_M_mend {E : Nat → Nat → Nat → PE} (f0 : 0 < F) (f4 : F ≤ 40) (hE : ∀ j, j < min (cM S) 20 → ∀ u, u < 2 ^ B → ∀ r, RT1 (setN (cA S j) (nI u) S) B T O F r (-1) (E j u r) ∧ p_end B F (E j u r)) {I0 : Nat → Nat → Int32} {L0 : Nat → Nat → Int64}
    (hQ : ∀ out u, isMd (fun j u => ∀ r, r < 2 ^ (B * (T + O)) → ¬ harm (E j u r).1) (min (cM S) 20) (2 ^ B) out u → ∀ I' L', MFx u I0 I' L0 L' → Q (some (.int out)) (aw_s I' L' D)) :
    ∀ (m j : Nat) (I : Nat → Nat → Int32) (L : Nat → Nat → Int64), j + m = min (cM S) 20 → MIn S 5 B T O I → MFr I0 I L0 L → (∀ i, i < j → ∀ w, w < 2 ^ B → ¬ ∀ r, r < 2 ^ (B * (T + O)) → ¬ harm (E i w r).1) →
      aw_z X (d + 5) y_M_mend Q 38 [some (.ref 69), none, some (.int (nI F)), some (.int (nI j)), none, none, none] [] (aw_s I L D) := by
  intro m
  induction m with
  | zero =>
    intro j I L e h f hi
    have h6 := h.1.2.2.2
    have fin : Q (some (.int (-1))) (aw_s I L D) := hQ (-1) none (Or.inr ⟨fun i hi' => hi i (by omega), rfl, rfl⟩) I L f.x
    have c20 : ((20 : Int32) ≤ nI j) = (20 ≤ j) := nI_le' (a := 20) (by decide) (by omega)
    have no : ¬ (20 : Int32) ≤ nI j → ¬ I 76 5 ≤ nI j → False := fun a b => by
      rw [c20] at a
      rw [h.2.2.1.2.2.2.1, nI_leI (by omega) (by omega)] at b
      omega
    exact b_M_mend_38 (fun _ => fin) (fun _ _ => fin) (fun a b => (no a b).elim) (fun a b => (no a b).elim) (fun a b => (no a b).elim)
  | succ m ih =>
    intro j I L e h f hi
    obtain ⟨hS, -, hM, hk, -⟩ := id h
    have h6 := hS.2.2.2
    have hn6 := hS.1.1
    obtain ⟨n1, n2⟩ := hS.2.2.1 j (by omega)
    have c20 : ((20 : Int32) ≤ nI j) = (20 ≤ j) := nI_le' (a := 20) (by decide) (by omega)
    have e100 : (100 : Int32) + nI j = nI (20 * 5 + j) := by rw [show (100 : Int32) = nI 100 from rfl, nI_add]
    have e78 : I 78 (20 * 5 + j) = nI (cA S j) := hM.2.2.2.2.2.2 j (by omega)
    have e4000 : (4000 : Int32) + nI (cA S j) = nI (800 * 5 + cA S j) := by rw [show (4000 : Int32) = nI 4000 from rfl, nI_add]
    have e72 : I 72 (800 * 5 + cA S j) = (cP S (cA S j)).2 := (hM.2.2.2.2.1 (cA S j) n1).2
    have B0 := @b_M_mend_38 X (d + 4) Q I L D (nI F) (nI j)
    rw [e100, nI_clamp (show 20 * 5 + j < 2 ^ 31 by omega), e78, e4000, nI_clamp (show 800 * 5 + cA S j < 2 ^ 31 by omega), e72] at B0
    have sid : setN (cA S j) (cP S (cA S j)).2 S = S := by
      have t := setN_id (S := S) (p := cA S j) (v := 0)
      rw [setN_set] at t; exact t
    refine B0 (fun q => ?_) (fun _ q => ?_) (fun _ _ => aw_in_nI (by omega) (by decide)) (fun _ _ => aw_in_nI (by omega) (by decide)) (fun _ _ => l_M_mend1 (d := d) (S := S) (p := cA S j) (E := E j) (j := j) (I0 := I) (L0 := L) f0 f4 n1 n2 hn6 (hE j (by omega)) e72 (fun u hu hn hw I1 L1 f1 => hQ (nI j) (some (nI u)) (Or.inl ⟨j, u, by omega, hu, hn, hw, hi, rfl, rfl⟩) _ L1 (MFr.xu f (by omega) f1)) (fun hn I1 L1 f1 h1 => ih (j + 1) I1 L1 (by omega) h1 (f.tr f1) (fun i hi' => ?_)) (2 ^ B) 0 (cP S (cA S j)).2 I L (by omega) (by rw [sid]; exact h) (by rw [au_id e72]; exact MFr.rf) (fun u x => absurd x (Nat.not_lt_zero u)))
    · rw [c20] at q; omega
    · rw [hM.2.2.2.1, nI_leI (by omega) (by omega)] at q; omega
    · by_cases g : i = j
      · subst g; exact hn
      · exact hi i (by omega)
end MEND4
