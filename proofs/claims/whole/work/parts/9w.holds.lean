/-! PART 9w: holds of both -/
/-- what a call leaves that works with rows, without new programs -/
def FRg (I I' : Nat → Nat → Int32) (L L' : Nat → Nat → Int64) : Prop :=
  (∀ o, o ≠ 4 → o ≠ 5 → o ≠ 6 → o ≠ 7 → o ≠ 8 → o ≠ 10 → o ≠ 69 → o ≠ 84 → o ≠ 85 → o ≠ 86 → o ≠ 87 → o ≠ 88 → I' o = I o) ∧ (∀ k, k ≠ 0 → k ≠ 25 → k ≠ 42 → k ≠ 43 → k ≠ 44 → k ≠ 45 → I' 69 k = I 69 k) ∧ I' 4 19 = I 4 19 ∧ (∀ o, o ≠ 4 → o ≠ 9 → o ≠ 69 → L' o = L o) ∧ ∀ k, k ≠ 46 → k ≠ 47 → L' 69 k = L 69 k
theorem FRg.mk1 {I I1 I3 : Nat → Nat → Int32} {L L1 L3 : Nat → Nat → Int64} (a : KFr I I1 L L1) (c : MFr (aw_u I1 69 0 0) I3 L1 L3) : FRg I I3 L L3 := by
  refine ⟨fun o p4 p5 p6 p7 p8 p10 p69 p84 p85 p86 p87 p88 => ?_, fun x p0 p25 p42 p43 p44 p45 => ?_, ?_, fun o p4 p9 p69 => ?_, fun x p q => ?_⟩
  · rw [c.1 o p69 p84 p85 p86 p87 p88, au_o p69, a.1 o p4 p5 p6 p7 p8 p10]
  · rw [c.2.1 x p25 p42 p43 p44 p45, au_k p0, a.1 69 (by decide) (by decide) (by decide) (by decide) (by decide) (by decide)]
  · rw [c.1 4 (by decide) (by decide) (by decide) (by decide) (by decide) (by decide), au_o (by decide)]; exact a.2.1
  · rw [c.2.2.1 o p69, a.2.2 o p4 p9]
  · rw [c.2.2.2 x p q, a.2.2 69 (by decide) (by decide)]
theorem FRg.n {I I' : Nat → Nat → Int32} {L L' : Nat → Nat → Int64} (h : FRg I I' L L') : FRn I I' L L' := by
  obtain ⟨a, b, c, e, f⟩ := h
  have s : ∀ o, 71 ≤ o → o ≤ 78 → I' o = I o := fun o p q => a o (by omega) (by omega) (by omega) (by omega) (by omega) (by omega) (by omega) (by omega) (by omega) (by omega) (by omega) (by omega)
  exact ⟨fun o p4 p5 p6 p7 p8 p10 p69 p71 p73 p84 p85 p86 p87 p88 => a o p4 p5 p6 p7 p8 p10 p69 p84 p85 p86 p87 p88, fun k p0 p25 p32 p42 p43 p44 p45 => b k p0 p25 p42 p43 p44 p45, c, KSl.same s, KSl.same s, e, f⟩
/-- the claims of both -/
def RCl (I : Nat → Nat → Int32) (D : Nat → Nat) : Prop := (I (D 4) 9 = 0 ∧ I 69 75 = 0) ∨ ∃ S, CG S ∧ KCl S (D 4) I ∧ MCl S I
theorem RCl.fr {I I' : Nat → Nat → Int32} {D : Nat → Nat} (h : RCl I D) (hI : ∀ o, D 4 ≤ o → o ≤ D 4 + 4 → I' o = I o) (h75 : I' 69 75 = I 69 75) (h106 : I' 106 = I 106) (h6 : KSl 6 I I') : RCl I' D := by
  rcases h with ⟨a, b⟩ | ⟨S, a, b, c⟩
  · exact Or.inl ⟨by rw [hI _ (Nat.le_refl _) (Nat.le_add_right _ _)]; exact a, h75.trans b⟩
  · exact Or.inr ⟨S, a, b.fr hI, c.fr a h75 h106 h6⟩
section HOLDS
variable {X : aw_X} {d d2 : Nat} {Q : Option Value → aw_H → Prop} {I : Nat → Nat → Int32} {L : Nat → Nat → Int64} {D : Nat → Nat} {S : PT} {B T O : Nat}
theorem l_AW_holds {P : Nat → Prop} (hP : P = fun r => tAl S B (rowNm B T (nI r))) {I0 : Nat → Nat → Int32} {L0 : Nat → Nat → Int64} (hQ : ∀ res, isFst P (2 ^ (B * (T + O))) res → ∀ I' L', KFr I0 I' L0 L' → Q (some (.int res)) (aw_s I' L' D)) :
    ∀ (m k : Nat) (I : Nat → Nat → Int32) (L : Nat → Nat → Int64), k + m = 2 ^ (B * (T + O)) → KIc S (D 4) B T O I → KFr I0 I L0 L → (∀ w, w < k → ¬ P w) →
      aw_z X (d + 5) y_AW_holds Q 15 [some (.ref 0), some (.int (nI k))] [] (aw_s I L D) := by
  intro m
  induction m with
  | zero =>
    intro k I L e h f hw
    obtain ⟨hG, hc, hC, hk, s1, s2, s3⟩ := id h
    have hR := rows_lt hk
    refine b_AW_holds_15 (c_Sz_rows hk s1 s2 s3 (b_AW_holds_23 rfl (fun _ => hQ (-1) (Or.inr ⟨fun v hv => hw v (by omega), rfl⟩) I L f) (fun q => absurd ?_ q)))
    rw [nI_leI (by omega) (by omega)]; omega
  | succ m ih =>
    intro k I L e h f hw
    obtain ⟨hG, hc, hC, hk, s1, s2, s3⟩ := id h
    have hR := rows_lt hk
    have k20 := hG.2.1
    have flt : fBt (tHo S B (rowNm B T (nI k))) (cK S) < 2 ^ 20 := Nat.lt_of_lt_of_le (fBt_lt _ _) (Nat.pow_le_pow_right (by decide) k20)
    have e0 : (nI (fBt (tHo S B (rowNm B T (nI k))) (cK S)) = 0) ↔ tAl S B (rowNm B T (nI k)) := by
      rw [show (0 : Int32) = nI 0 from rfl, nI_eq (Nat.lt_trans flt (by decide)) (by decide)]; exact fBt_0 _
    refine b_AW_holds_15 (c_Sz_rows hk s1 s2 s3 (b_AW_holds_23 rfl (fun q => ?_) (fun _ => c_Mc_failing (d := d) (by omega) h (fun I1 L1 f1 => b_AW_holds_38 (fun q => ?_) (fun q => ?_)))))
    · rw [nI_leI (by omega) (by omega)] at q; omega
    · rw [nI_1]
      refine ih (k + 1) I1 L1 (by omega) (h.fr f1) (f.tr f1) (fun w hw' => ?_)
      by_cases g : w = k
      · subst g; rw [hP]; exact fun x => q (e0.mpr x)
      · exact hw w (by omega)
    · exact hQ (nI k) (Or.inl ⟨k, by omega, by rw [hP]; exact e0.mp q, hw, rfl⟩) I1 L1 (f.tr f1)
theorem KFr.mic {I I1 : Nat → Nat → Int32} {L L1 : Nat → Nat → Int64} (f : KFr I I1 L L1) (hG : CG S) (h : MCl S I) (hk : SZok B T O) (sz : SZ I B T O) : MIc S B T O (aw_u I1 69 0 0) := by
  have hi : ∀ o, 11 ≤ o → I1 o = I o := fun o h => f.1 o (by omega) (by omega) (by omega) (by omega) (by omega) (by omega)
  have g : ∀ x, x ≠ 0 → aw_u I1 69 0 0 69 x = I 69 x := fun x hx => by rw [au_k hx, hi 69 (by decide)]
  exact ⟨hG, h.fr hG (g 75 (by decide)) (by rw [au_o (by decide)]; exact hi 106 (by decide)) (KSl.same (fun o p q => by rw [au_o (by omega)]; exact hi o (by omega))), hk, by rw [g 33 (by decide)]; exact sz.1, by rw [g 34 (by decide)]; exact sz.2.1, by rw [g 35 (by decide)]; exact sz.2.2⟩
theorem q_holds (hD : DOK D) (hC : RCl I D) (hS : RSz I) (hQ : ∀ r I1 L1,
      (∀ (Q2 : Option Value → aw_H → Prop), (∀ I2 L2, I2 69 0 = 0 → FRg I I2 L L2 → Q2 (some (.int r)) (aw_s I2 L2 D)) → aw_m X (d2 + 4) y_M_holds [.ref 69] (aw_s I1 L1 D) Q2) → Q (some (.int r)) (aw_s I1 L1 D)) :
    aw_m X (d + 5) y_AW_holds [.ref 0] (aw_s I L D) Q := by
  obtain ⟨B, T, O, hk, s1, s2, s3, sz⟩ := hS
  have d4 := hD.1 4 (by decide)
  rcases hC with ⟨a, b⟩ | ⟨S, hG, hK, hM⟩
  · refine aw_go rfl rfl (b_AW_holds_0 rfl d4 (fun q => absurd a q) (fun _ => hQ (-2) I L (fun Q2 hQ2 => aw_go rfl rfl (b_M_holds_0 (fun q => absurd b q) (fun _ => hQ2 _ L (au_s _ _ _ _) (FRg.mk1 KFr.rf MFr.rf))))))
  · have nz : ¬ nI (cK S) = 0 := by
      have := hG.1
      have := hG.2.1
      rw [show (0 : Int32) = nI 0 from rfl, nI_eq (by omega) (by decide)]; omega
    refine aw_go rfl rfl (b_AW_holds_0 rfl d4 (fun _ => ?_) (fun q => absurd (by rw [← hK.2.1]; exact q) nz))
    refine l_AW_holds (d := d) (S := S) (B := B) (T := T) (O := O) rfl (I0 := I) (L0 := L) (fun res hres I1 L1 fk => hQ res I1 L1 (fun Q2 hQ2 => ?_)) (2 ^ (B * (T + O))) 0 I L (by omega) ⟨hG, d4, hK, hk, s1, s2, s3⟩ KFr.rf (fun w hw => absurd hw (Nat.not_lt_zero w))
    have hi : ∀ o, 11 ≤ o → I1 o = I o := fun o h => fk.1 o (by omega) (by omega) (by omega) (by omega) (by omega) (by omega)
    have mic := fk.mic hG hM hk sz
    refine aw_go rfl rfl (b_M_holds_0 (fun _ => ?_) (fun q => absurd (by rw [← hM.1, ← hi 69 (by decide)]; exact q) nz))
    refine l_M_holds (d := d2) (S := S) (B := B) (T := T) (O := O) rfl (I0 := aw_u I1 69 0 0) (L := L1) (fun res2 hres2 I2 fm => ?_) (2 ^ (B * (T + O))) 0 _ (by omega) mic MFr.rf (fun w hw => absurd hw (Nat.not_lt_zero w))
    rw [isFst.one hres2 hres]
    exact hQ2 I2 L1 (by rw [fm.2.1 0 (by decide) (by decide) (by decide) (by decide) (by decide), au_s]) (FRg.mk1 fk fm)
end HOLDS
