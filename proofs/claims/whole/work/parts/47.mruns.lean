/-! PART 47: the reference's run, from its entry -/
def ps0 (st : Nat) (nm cl : Nat → Int32) : PS := (st, [], [], nm, cl, -1, 0, [], 0, fun _ => 0, [])
section M47
variable {X : aw_X} {d : Nat} {Q : Option Value → aw_H → Prop} {D : Nat → Nat}
theorem ps0_good {P : Nat → Nat × Int32} {n st0 : Nat} {ty : Nat → List Bool} {sg : Nat → Nat} {B F : Nat} {nm cl : Nat → Int32} (hW : p_WF P n st0 ty sg) (hF : 0 < F) (h1 : ∀ k, k < 8 → rg B (nm k)) (h2 : ∀ k, k < 8 → rg B (cl k)) : p_good P n ty sg B F (ps0 st0 nm cl) := by
  obtain ⟨w1, w2, w3, w4, w0, w5, w6, w7⟩ := hW
  exact ⟨w2, by rw [w3]; trivial, w4, h1, h2, Nat.zero_le _, Nat.zero_le _, fun _ => w5, fun h => absurd h (Nat.lt_irrefl 0), rfl, fun _ => rfl, fun h => by rw [w0] at h; cases h⟩
theorem ps0_V {P : Nat → Nat × Int32} {n st0 : Nat} {ty : Nat → List Bool} {sg : Nat → Nat} {nm cl : Nat → Int32} (hW : p_WF P n st0 ty sg) : p_V P n (ps0 st0 nm cl) ≤ 260000 := by
  have h := p_acn_le (P := P) (Nat.zero_le st0) (Nat.le_of_lt hW.2.1)
  have h2 := hW.2.2.2.2.2.2.1
  have h3 : p_acn P n st0 ≤ 125 := Nat.le_trans h h2
  show (1001 - 0) * 256 + 0 + _ ≤ 260000
  split
  · omega
  · split <;> omega
theorem l_M_yes {slot : Nat} {row rule : Int32} {F : Nat} {I0 : Nat → Nat → Int32} {L : Nat → Nat → Int64} (hs : slot ≤ 6)
    (hk : ∀ I', (∀ o, o ≠ 88 → I' o = I0 o) → (∀ k, k < 60 → I' 88 k = 0) → aw_z X (d + 3) y_M_runs Q 81 (mloc slot row F rule 0 0 (-1) (I0 74 slot)) [] (aw_s I' L D)) :
    ∀ (m k : Nat) (I : Nat → Nat → Int32), k + m = 60 → (∀ o, o ≠ 88 → I o = I0 o) → (∀ j, j < k → I 88 j = 0) →
      aw_z X (d + 3) y_M_runs Q 43 [some (.ref 69), some (.int (nI slot)), some (.int row), some (.int (nI F)), some (.int rule), some (.int (nI k)), none, none, none, none, none, none, none] [] (aw_s I L D) := by
  intro m
  induction m with
  | zero =>
    intro k I e hf h1
    have : k = 60 := by omega
    subst this
    refine b_M_runs_43 (fun _ => aw_in_nI (by omega) (by decide)) (fun _ => ?_) (fun q => absurd (by decide) q) (fun q => absurd (by decide) q)
    rw [nI_clamp (by omega), hf 74 (by decide)]
    exact hk I hf h1
  | succ m ih =>
    intro k I e hf h1
    have hc : ((60 : Int32) ≤ nI k) = (60 ≤ k) := nI_le' (a := 60) (by decide) (by omega)
    refine b_M_runs_43 (fun q => by rw [hc] at q; omega) (fun q => by rw [hc] at q; omega) (fun _ => aw_in_nI (by omega) (by decide)) (fun _ => ?_)
    rw [nI_clamp (show k < 2 ^ 31 by omega), nI_1]
    refine ih (k + 1) _ (by omega) (fun o h => by rw [au_o h]; exact hf o h) (fun j hj => ?_)
    by_cases q : j = k
    · subst q; rw [au_s]
    · rw [au_k q]; exact h1 j (by omega)
theorem c_M_runs {P : Nat → Nat × Int32} {n st0 : Nat} {ty : Nat → List Bool} {sg : Nat → Nat} {B T O F slot : Nat} {row rule : Int32} {I : Nat → Nat → Int32} {L : Nat → Nat → Int64} (hW : p_WF P n st0 ty sg) (hC : RunC P n slot B T O F rule I) (hF : 0 < F) (hst : I 74 slot = nI st0) {N : Nat} {E : PE}
    (hrun : p_run P (mk B) F (ansF B T O row rule) N (ps0 st0 (rowNm B T row) (fun _ => 0)) = some E)
    (hQ : ∀ I' L', MRE I L I' L' E → Q (some (.int E.1)) (aw_s I' L' D)) :
    aw_m X (d + 3) y_M_runs [.ref 69, .int (nI slot), .int row, .int (nI F), .int rule] (aw_s I L D) Q := by
  obtain ⟨hz, hzok, c2, c3, c4, c5, c6⟩ := id hC
  refine aw_go rfl rfl (b_M_runs_0 (c_M_layRow hz hzok (fun I1 e1 e2 e3 => b_M_runs_5 ?_)))
  refine l_M_yes (I0 := aw_u (aw_u (aw_u (aw_u (aw_u I1 69 25 0) 69 44 0) 69 45 0) 69 42 (-1)) 69 43 (-1)) c2 (fun I2 g1 g2 => ?_) 60 0 _ rfl (fun _ _ => rfl) (fun _ h => by omega)
  have k74 : aw_u (aw_u (aw_u (aw_u (aw_u I1 69 25 0) 69 44 0) 69 45 0) 69 42 (-1)) 69 43 (-1) 74 slot = nI st0 := by
    rw [au_o (by decide), au_o (by decide), au_o (by decide), au_o (by decide), au_o (by decide), e1 74 (by decide) (by decide)]; exact hst
  rw [k74]
  have f69 : ∀ k, k ≠ 25 → k ≠ 42 → k ≠ 43 → k ≠ 44 → k ≠ 45 → I2 69 k = I 69 k := fun k h1 h2 h3 h4 h5 => by
    rw [g1 69 (by decide), au_k h3, au_k h2, au_k h5, au_k h4, au_k h1, e1 69 (by decide) (by decide)]
  refine l_M_runs hW hC hQ N _ I2 _ 0 0 (-1) (nI st0) hrun (ps0_good hW hF (fun k _ => rowNm_rg hzok.2.1 k) (fun _ _ => rg_0 B)) (by
    have := ps0_V (nm := rowNm B T row) (cl := fun _ => 0) hW
    show 0 + p_V P n (ps0 st0 (rowNm B T row) (fun _ => 0)) ≤ 300000
    omega) ⟨⟨fun o h1 h2 h3 h4 h5 h6 h7 => ?_, f69, fun o h1 h2 => ?_, fun k h1 h2 => ?_⟩, ⟨fun k hk => ?_, fun k hk => ?_, ?_, ?_, ?_, ?_, fun k hk => ?_, ?_, ?_⟩, ⟨?_, trivial, by simp⟩, trivial, rfl, rfl, rfl, rfl⟩
  · rw [g1 o h6, au_o h1, au_o h1, au_o h1, au_o h1, au_o h1, e1 o h2 h3]
  · rw [au_o h1, au_o h1]
  · rw [au_k h2, au_k h1]
  · rw [g1 84 (by decide), au_o (by decide), au_o (by decide), au_o (by decide), au_o (by decide), au_o (by decide)]; exact e2 k hk
  · rw [g1 85 (by decide), au_o (by decide), au_o (by decide), au_o (by decide), au_o (by decide), au_o (by decide)]; exact e3 k hk
  · rw [g1 69 (by decide), au_k (by decide), au_k (by decide), au_k (by decide), au_s]; rfl
  · rw [g1 69 (by decide), au_k (by decide), au_k (by decide), au_s]; rfl
  · rw [au_k (by decide), au_s]; rfl
  · rw [au_s]; rfl
  · rw [g2 k hk]; rfl
  · rw [au_o (by decide), au_o (by decide)]; split <;> rfl
  · rw [g1 90 (by decide), au_o (by decide), au_o (by decide), au_o (by decide), au_o (by decide), au_o (by decide), e1 90 (by decide) (by decide)]; split <;> rfl
  · rw [g1 69 (by decide), au_k (by decide), au_k (by decide), au_k (by decide), au_k (by decide), au_s]; rfl
/-- there is one end of a run -/
theorem run_ex {P : Nat → Nat × Int32} {n st0 : Nat} {ty : Nat → List Bool} {sg : Nat → Nat} {B F : Nat} {an : Nat → Int32} {nm cl : Nat → Int32} (hW : p_WF P n st0 ty sg) (hB : B ≤ 6) (hF : 0 < F) (han : ∀ k, rg B (an k)) (h1 : ∀ k, k < 8 → rg B (nm k)) (h2 : ∀ k, k < 8 → rg B (cl k)) :
    ∃ N E, p_run P (mk B) F an N (ps0 st0 nm cl) = some E ∧ p_end B F E := p_run_ends hW hB rfl han _ _ (ps0_good hW hF h1 h2) (Nat.le_refl _)
end M47
