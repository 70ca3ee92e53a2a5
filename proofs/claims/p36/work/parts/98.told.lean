/-! PART 98: rows, fuels, what is told; what a run leaves -/
theorem i32_F (v : Int32) : (v < 1 ∨ (40 : Int32) < v) ∨ ∃ F, 0 < F ∧ F ≤ 40 ∧ v = nI F := by
  by_cases h1 : v < 1
  · exact Or.inl (Or.inl h1)
  · by_cases h2 : (40 : Int32) < v
    · exact Or.inl (Or.inr h2)
    · obtain ⟨F, a, b, e⟩ := i32_lo (a := 1) (b := 40) (by decide) (by decide) h1 h2
      exact Or.inr ⟨F, a, b, e⟩
theorem i32_R {R : Nat} (hR : R < 2 ^ 31) (v : Int32) : (v < 0 ∨ (¬ v < 0 ∧ nI R ≤ v)) ∨ ∃ r, r < R ∧ v = nI r ∧ ¬ v < 0 ∧ ¬ nI R ≤ v := by
  by_cases h1 : v < 0
  · exact Or.inl (Or.inl h1)
  · by_cases h2 : nI R ≤ v
    · exact Or.inl (Or.inr ⟨h1, h2⟩)
    · obtain ⟨j, hj, e, -⟩ := rowV_i hR h1 h2
      exact Or.inr ⟨j, hj, e, h1, h2⟩
theorem rows_e {B T O : Nat} (hk : SZok B T O) : ((1 : Int32) <<< ((nI B * (nI T + nI O)) &&& 31)) = nI (2 ^ (B * (T + O))) := by
  have h := hk.2.2.2.2.2
  rw [nI_add, pk_mul]
  generalize B * (T + O) = m at h
  rcases (show m = 0 ∨ m = 1 ∨ m = 2 ∨ m = 3 ∨ m = 4 ∨ m = 5 ∨ m = 6 ∨ m = 7 ∨ m = 8 ∨ m = 9 ∨ m = 10 ∨ m = 11 ∨ m = 12 by omega) with rfl | rfl | rfl | rfl | rfl | rfl | rfl | rfl | rfl | rfl | rfl | rfl | rfl <;> decide +kernel
theorem rows_lt {B T O : Nat} (hk : SZok B T O) : 2 ^ (B * (T + O)) ≤ 4096 := Nat.pow_le_pow_right (n := 2) (by decide) hk.2.2.2.2.2
section TOLD
variable {X : aw_X} {d d2 : Nat} {Q : Option Value → aw_H → Prop} {I : Nat → Nat → Int32} {L : Nat → Nat → Int64} {D : Nat → Nat} {v : Int32}
theorem c_AW_isFuel {F : Nat} (h0 : 0 < F) (h4 : F ≤ 40) (hQ : Q (some (.int 1)) (aw_s I L D)) : aw_m X d y_AW_isFuel [.int (nI F)] (aw_s I L D) Q := by
  have a : ¬ nI F < 1 := by rw [show (1 : Int32) = nI 1 from rfl, nI_ltI (by omega) (by decide)]; omega
  have b : ¬ (40 : Int32) < nI F := by rw [show (40 : Int32) = nI 40 from rfl, nI_ltI (by decide) (by omega)]; omega
  exact aw_go rfl rfl (b_AW_isFuel_0 (fun x => absurd x a) (fun _ x => absurd x b) (fun _ _ => hQ))
theorem c_AW_isFuel0 (h : v < 1 ∨ (40 : Int32) < v) (hQ : Q (some (.int 0)) (aw_s I L D)) : aw_m X d y_AW_isFuel [.int v] (aw_s I L D) Q :=
  aw_go rfl rfl (b_AW_isFuel_0 (fun _ => hQ) (fun _ _ => hQ) (fun a b => absurd h (fun x => x.elim a b)))
theorem c_Sz_rows {B T O : Nat} (hk : SZok B T O) (h1 : I 1 0 = nI B) (h2 : I 1 1 = nI T) (h3 : I 1 2 = nI O) (hQ : Q (some (.int (nI (2 ^ (B * (T + O)))))) (aw_s I L D)) : aw_m X (d + 1) y_Sz_rows [.ref 1] (aw_s I L D) Q := by
  refine aw_go rfl rfl (b_Sz_rows_0 (aw_go rfl rfl (b_Sz_rowBits_0 (b_Sz_rows_5 ?_))))
  rw [h1, h2, h3, rows_e hk]; exact hQ
theorem c_valueAt6 {j : Nat} (hj : j < 8) (h : Q (some (.int (I 6 j))) (aw_s I L D)) : aw_m X d y_AW_valueAt_aII [.ref 6, .int (nI j)] (aw_s I L D) Q := by
  have B0 := @b_AW_valueAt_aII_0 X d Q I L D 6 (nI j) (by decide)
  have c1 : (nI j < 0) = False := by simp [nI_pos (show j < 2 ^ 31 by omega)]
  have c2 : ((Int32.ofNat (aw_sh 6).2) ≤ nI j) = False := by
    have : ((Int32.ofNat (aw_sh 6).2) ≤ nI j) = (8 ≤ j) := nI_le' (a := 8) (by decide) (by omega)
    rw [this]; simp; omega
  rw [nI_clamp (show j < 2 ^ 31 by omega)] at B0
  simp only [c1, c2, not_false_eq_true, true_implies, false_implies] at B0
  exact aw_go rfl rfl (B0 (aw_in_nI hj (by decide)) h)
theorem l_keep2 {I0 : Nat → Nat → Int32} (hQ : ∀ I', (∀ o, o ≠ 68 → I' o = I0 o) → (∀ j, j < 8 → I' 68 j = I0 68 j) → (∀ j, j < 8 → I' 68 (8 + j) = I0 6 j) → Q none (aw_s (aw_u I' 68 16 (I0 4 16)) L D)) :
    ∀ (m k : Nat) (I : Nat → Nat → Int32), k + m = 8 → (∀ o, o ≠ 68 → I o = I0 o) → (∀ j, j < 8 → I 68 j = I0 68 j) → (∀ j, j < k → I 68 (8 + j) = I0 6 j) → aw_z X (d + 1) y_AW_keepRun Q 38 [some (.ref 0), some (.int (nI k))] [] (aw_s I L D) := by
  intro m
  induction m with
  | zero =>
    intro k I e hf h1 h2
    have ek : k = 8 := by omega
    subst ek
    refine b_AW_keepRun_38 (fun _ => ?_) (fun q => absurd (by decide) q)
    rw [hf 4 (by decide)]
    exact hQ I hf h1 h2
  | succ m ih =>
    intro k I e hf h1 h2
    have c1 : ¬ (8 : Int32) ≤ nI k := by
      have : ((8 : Int32) ≤ nI k) = (8 ≤ k) := nI_le' (a := 8) (by decide) (by omega)
      rw [this]; omega
    have B0 := @b_AW_keepRun_63 X d Q I L D (nI k) (I 6 k) (nI (8 + k))
    rw [nI_1, nI_clamp (show 8 + k < 2 ^ 31 by omega)] at B0
    refine b_AW_keepRun_38 (fun q => absurd q c1) (fun _ => c_valueAt6 (by omega) ?_)
    rw [show (8 : Int32) = nI 8 from rfl, nI_add]
    refine B0 (aw_in_nI (by omega) (by decide)) (ih (k + 1) _ (by omega) (fun o ho => by rw [au_o ho]; exact hf o ho) (fun j hj => by rw [au_k (by omega)]; exact h1 j hj) (fun j hj => ?_))
    by_cases g : j = k
    · subst g; rw [au_s, hf 6 (by decide)]
    · rw [au_k (by omega)]; exact h2 j (by omega)
theorem l_keep1 {I0 : Nat → Nat → Int32} (hQ : ∀ I', (∀ o, o ≠ 68 → I' o = I0 o) → (∀ j, j < 8 → I' 68 j = I0 5 j) → aw_z X (d + 1) y_AW_keepRun Q 38 [some (.ref 0), some (.int 0)] [] (aw_s I' L D)) :
    ∀ (m k : Nat) (I : Nat → Nat → Int32), k + m = 8 → (∀ o, o ≠ 68 → I o = I0 o) → (∀ j, j < k → I 68 j = I0 5 j) → aw_z X (d + 1) y_AW_keepRun Q 7 [some (.ref 0), some (.int (nI k))] [] (aw_s I L D) := by
  intro m
  induction m with
  | zero =>
    intro k I e hf h1
    have ek : k = 8 := by omega
    subst ek
    exact b_AW_keepRun_7 (fun _ => hQ I hf h1) (fun q => absurd (by decide) q)
  | succ m ih =>
    intro k I e hf h1
    have c1 : ¬ (8 : Int32) ≤ nI k := by
      have : ((8 : Int32) ≤ nI k) = (8 ≤ k) := nI_le' (a := 8) (by decide) (by omega)
      rw [this]; omega
    have B0 := @b_AW_keepRun_29 X d Q I L D (nI k) (I 5 k) (nI k)
    rw [nI_1, nI_clamp (show k < 2 ^ 31 by omega)] at B0
    refine b_AW_keepRun_7 (fun q => absurd q c1) (fun _ => c_valueAt5 (by omega) ?_)
    refine B0 (aw_in_nI (by omega) (by decide)) (ih (k + 1) _ (by omega) (fun o ho => by rw [au_o ho]; exact hf o ho) (fun j hj => ?_))
    by_cases g : j = k
    · subst g; rw [au_s, hf 5 (by decide)]
    · rw [au_k g]; exact h1 j (by omega)
theorem c_AW_keepRun (hQ : ∀ I', (∀ o k, o ≠ 68 → ¬ (o = 0 ∧ k = 17) → I' o k = I o k) → I' 0 17 = 1 → (∀ j, j < 8 → I' 68 j = I 5 j ∧ I' 68 (8 + j) = I 6 j) → I' 68 16 = I 4 16 → Q none (aw_s I' L D)) : aw_m X (d + 1) y_AW_keepRun [.ref 0] (aw_s I L D) Q := by
  refine aw_go rfl rfl (b_AW_keepRun_0 (l_keep1 (I0 := aw_u I 0 17 1) (fun I1 f1 h1 => l_keep2 (I0 := I1) (fun I2 f2 h2 h3 => hQ _ (fun o k a b => ?_) ?_ (fun j hj => ⟨?_, ?_⟩) ?_) 8 0 I1 rfl (fun _ _ => rfl) (fun _ _ => rfl) (fun j h => absurd h (Nat.not_lt_zero j))) 8 0 _ rfl (fun _ _ => rfl) (fun j h => absurd h (Nat.not_lt_zero j))))
  · rw [au_o a, f2 o a, f1 o a, au_ok (by omega)]
  · rw [au_o (by decide), f2 0 (by decide), f1 0 (by decide), au_s]
  · rw [au_k (by omega), h2 j hj, h1 j hj, au_o (by decide)]
  · rw [au_k (by omega), h3 j hj, f1 6 (by decide), au_o (by decide)]
  · rw [au_s, f1 4 (by decide), au_o (by decide)]
end TOLD
