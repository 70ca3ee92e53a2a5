/-! PART 54: the class's machine: a row is laid, a run from its entry -/
section KLAY
variable {X : aw_X} {d : Nat} {Q : Option Value → aw_H → Prop} {D : Nat → Nat}
def KLI (B T r : Nat) (I0 : Nat → Nat → Int32) (k : Nat) (I : Nat → Nat → Int32) : Prop :=
  I 4 7 = mk B ∧ I 4 8 = nI (r / 2 ^ (B * min k T)) ∧ (∀ o, o ≠ 4 → o ≠ 5 → I o = I0 o) ∧ (∀ x, x ≠ 7 → x ≠ 8 → I 4 x = I0 4 x) ∧ ∀ j, j < k → I 5 j = rowNm B T (nI r) j
theorem c_Sz_greatest {B : Nat} {I : Nat → Nat → Int32} {L : Nat → Nat → Int64} (h2 : 2 ≤ B) (h6 : B ≤ 6) (hs : I 1 0 = nI B) (h : Q (some (.int (mk B))) (aw_s I L D)) : aw_m X d y_Sz_greatest [.ref 1] (aw_s I L D) Q :=
  aw_go rfl rfl (b_Sz_greatest_0 (by rw [hs, mk_eq h2 h6]; exact h))
theorem l_K_row {B T O r : Nat} {I0 : Nat → Nat → Int32} {L : Nat → Nat → Int64} (hk : SZok B T O) (hr : r < 4096) (h1 : I0 1 0 = nI B) (h2 : I0 1 1 = nI T)
    (hQ : ∀ I', KLI B T r I0 8 I' → aw_z X (d + 1) y_Mc_layRow Q 84 [some (.ref 4), none, some (.int 0)] [] (aw_s I' L D)) :
    ∀ (m k : Nat) (I : Nat → Nat → Int32), k + m = 8 → KLI B T r I0 k I → aw_z X (d + 1) y_Mc_layRow Q 18 [some (.ref 4), none, some (.int (nI k))] [] (aw_s I L D) := by
  intro m
  induction m with
  | zero =>
    intro k I e h
    have : k = 8 := by omega
    subst this
    exact b_Mc_layRow_18 (fun _ => hQ I h) (fun q => absurd (by decide) q) (fun q => absurd (by decide) q) (fun q => absurd (by decide) q) (fun q => absurd (by decide) q)
  | succ m ih =>
    intro k I e h
    have hk8 : k < 8 := by omega
    obtain ⟨i1, i2, i3, i4, i5⟩ := h
    have h8 : ¬ (8 : Int32) ≤ nI k := by
      have : ((8 : Int32) ≤ nI k) = (8 ≤ k) := nI_le' (a := 8) (by decide) (by omega)
      rw [this]; omega
    have T3 : T ≤ 3 := hk.2.2.2.1
    have B0 := @b_Mc_layRow_18 X d Q I L D (nI k)
    have cT : (nI T ≤ nI k) = (T ≤ k) := nI_le' (by omega) (by omega)
    rw [i3 1 (by decide) (by decide), h1, h2, cT, nI_clamp (show k < 2 ^ 31 by omega), nI_1] at B0
    refine B0 (fun q => absurd q h8) (fun _ => aw_in_nI hk8 (by decide)) (fun _ q => ?_) (fun _ _ => aw_in_nI hk8 (by decide)) (fun _ q => ?_)
    · refine ih (k + 1) _ (by omega) ⟨by rw [au_o (by decide)]; exact i1, ?_, fun o a b => by rw [au_o b]; exact i3 o a b, fun x a b => by rw [au_o (by decide)]; exact i4 x a b, fun j hj => ?_⟩
      · rw [au_o (by decide), i2, Nat.min_eq_right q, Nat.min_eq_right (Nat.le_succ_of_le q)]
      · by_cases g : j = k
        · subst g; rw [au_s]; unfold rowNm; rw [if_neg (by omega)]
        · rw [au_k g]; exact i5 j (by omega)
    · have hkT : k < T := by omega
      have hBk : B * k ≤ B * (T + O) := Nat.mul_le_mul_left _ (by omega)
      have hB12 : B * (T + O) ≤ 12 := hk.2.2.2.2.2
      have hd : r / 2 ^ (B * k) ≤ r := Nat.div_le_self _ _
      have i2' : I 4 8 = nI (r / 2 ^ (B * k)) := by rw [i2, Nat.min_eq_left (Nat.le_of_lt hkT)]
      refine ih (k + 1) _ (by omega) ⟨by rw [au_k (by decide), au_o (by decide), au_o (by decide)]; exact i1, ?_, fun o a b => by rw [au_o a, au_o b, au_o b]; exact i3 o a b, fun x a b => by rw [au_k b, au_o (by decide), au_o (by decide)]; exact i4 x a b, fun j hj => ?_⟩
      · rw [au_s, i2', shr_nI hk.2.1 (by omega), pow_d, Nat.min_eq_left (show k + 1 ≤ T by omega)]
      · by_cases g : j = k
        · subst g
          rw [au_o (by decide), au_s, i1, i2']
          unfold rowNm
          rw [if_pos hkT, sar_nI (by omega) hr]
        · rw [au_o (by decide), au_k g, au_k g]; exact i5 j (by omega)
def KLR (B T r : Nat) (I0 I : Nat → Nat → Int32) : Prop :=
  (∀ o, o ≠ 4 → o ≠ 5 → o ≠ 6 → I o = I0 o) ∧ (∀ x, x ≠ 4 → x ≠ 6 → x ≠ 7 → x ≠ 8 → x ≠ 11 → x ≠ 12 → x ≠ 13 → x ≠ 15 → x ≠ 16 → I 4 x = I0 4 x) ∧ I 4 7 = mk B ∧ I 4 8 = nI (r / 2 ^ (B * T)) ∧ (∀ j, j < 8 → I 5 j = rowNm B T (nI r) j) ∧ (∀ j, j < 8 → I 6 j = 0) ∧
  I 4 4 = 0 ∧ I 4 6 = 0 ∧ I 4 11 = -1 ∧ I 4 12 = 0 ∧ I 4 13 = 0 ∧ I 4 15 = -1
theorem l_K_cells {B T r : Nat} {I0 I1 : Nat → Nat → Int32} {L : Nat → Nat → Int64} (hT : T ≤ 8) (h1 : KLI B T r I0 8 I1) (hQ : ∀ I', KLR B T r I0 I' → Q none (aw_s I' (aw_u L 4 14 0) D)) :
    ∀ (m k : Nat) (I : Nat → Nat → Int32), k + m = 8 → (∀ o, o ≠ 6 → I o = I1 o) → (∀ j, j < k → I 6 j = 0) → aw_z X (d + 1) y_Mc_layRow Q 84 [some (.ref 4), none, some (.int (nI k))] [] (aw_s I L D) := by
  intro m
  induction m with
  | zero =>
    intro k I e hf hz
    have : k = 8 := by omega
    subst this
    obtain ⟨i1, i2, i3, i4, i5⟩ := h1
    refine b_Mc_layRow_84 (fun _ => hQ _ ⟨fun o a b c => ?_, fun x a b c e f g h i j => ?_, ?_, ?_, fun j hj => ?_, fun j hj => ?_, ?_, ?_, ?_, ?_, ?_, ?_⟩) (fun q => absurd (by decide) q) (fun q => absurd (by decide) q)
    · rw [au_o a, au_o a, au_o a, au_o a, au_o a, au_o a, au_o a, hf o c]; exact i3 o a b
    · rw [au_k j, au_k i, au_k h, au_k g, au_k f, au_k b, au_k a, hf 4 (by decide)]; exact i4 x c e
    · rw [au_k (by decide), au_k (by decide), au_k (by decide), au_k (by decide), au_k (by decide), au_k (by decide), au_k (by decide), hf 4 (by decide)]; exact i1
    · rw [au_k (by decide), au_k (by decide), au_k (by decide), au_k (by decide), au_k (by decide), au_k (by decide), au_k (by decide), hf 4 (by decide), i2, Nat.min_eq_right hT]
    · rw [au_o (by decide), au_o (by decide), au_o (by decide), au_o (by decide), au_o (by decide), au_o (by decide), au_o (by decide), hf 5 (by decide)]; exact i5 j hj
    · rw [au_o (by decide), au_o (by decide), au_o (by decide), au_o (by decide), au_o (by decide), au_o (by decide), au_o (by decide)]; exact hz j hj
    · rw [au_k (by decide), au_k (by decide), au_k (by decide), au_k (by decide), au_k (by decide), au_k (by decide), au_s]
    · rw [au_k (by decide), au_k (by decide), au_k (by decide), au_k (by decide), au_k (by decide), au_s]
    · rw [au_k (by decide), au_k (by decide), au_k (by decide), au_k (by decide), au_s]
    · rw [au_k (by decide), au_k (by decide), au_k (by decide), au_s]
    · rw [au_k (by decide), au_k (by decide), au_s]
    · rw [au_k (by decide), au_s]
  | succ m ih =>
    intro k I e hf hz
    have h8 : ¬ (8 : Int32) ≤ nI k := by
      have : ((8 : Int32) ≤ nI k) = (8 ≤ k) := nI_le' (a := 8) (by decide) (by omega)
      rw [this]; omega
    refine b_Mc_layRow_84 (fun q => absurd q h8) (fun _ => aw_in_nI (by omega) (by decide)) (fun _ => ?_)
    rw [nI_clamp (show k < 2 ^ 31 by omega), nI_1]
    refine ih (k + 1) _ (by omega) (fun o h => by rw [au_o h]; exact hf o h) (fun j hj => ?_)
    by_cases g : j = k
    · subst g; rw [au_s]
    · rw [au_k g]; exact hz j (by omega)
theorem c_Mc_layRow {B T O r : Nat} {I : Nat → Nat → Int32} {L : Nat → Nat → Int64} (hk : SZok B T O) (hr : r < 4096) (h1 : I 1 0 = nI B) (h2 : I 1 1 = nI T)
    (hQ : ∀ I', KLR B T r I I' → Q none (aw_s I' (aw_u L 4 14 0) D)) : aw_m X (d + 1) y_Mc_layRow [.ref 4, .int (nI r)] (aw_s I L D) Q := by
  refine aw_go rfl rfl (b_Mc_layRow_0 (c_Sz_greatest hk.1 hk.2.1 h1 (b_Mc_layRow_8 ?_)))
  refine l_K_row hk hr h1 h2 (fun I' h => l_K_cells (by have := hk.2.2.2.1; omega) h hQ 8 0 I' rfl (fun _ _ => rfl) (fun _ h => by omega)) 8 0 _ rfl ⟨by rw [au_k (by decide), au_s], by rw [au_s, Nat.zero_min, Nat.mul_zero, Nat.pow_zero, Nat.div_one], fun o a b => by rw [au_o a, au_o a], fun x a b => by rw [au_k b, au_k a], fun _ h => by omega⟩
end KLAY
