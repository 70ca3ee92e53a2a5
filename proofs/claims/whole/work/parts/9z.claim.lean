/-! PART 9z: claim of both -/
theorem cl_D {D : Nat → Nat} {i x : Nat} (hi : i < 6) : (va_up (va_up (va_up D 6 x) 4 (D 5)) 5 (D 4)) i = D (sw 4 i) := by
  unfold sw
  by_cases h5 : i = 5
  · subst h5; rw [up_s, if_neg (by omega), if_pos rfl]
  · rw [up_n _ _ h5]
    by_cases g : i = 4
    · subst g; rw [up_s, if_pos rfl]
    · rw [up_n _ _ g, up_n _ _ (by omega), if_neg g, if_neg h5]
theorem cl_OK {D : Nat → Nat} {x : Nat} (h : DOK D) : DOK (va_up (va_up (va_up D 6 x) 4 (D 5)) 5 (D 4)) := by
  have lt : ∀ i, i < 6 → sw 4 i < 6 := fun i hi => by unfold sw; (repeat' split) <;> omega
  refine ⟨fun i hi => by rw [cl_D hi]; exact h.1 _ (lt i hi), fun i j hi hj hne => ?_⟩
  rw [cl_D hi, cl_D hj]
  exact h.2 _ _ (lt i hi) (lt j hj) (by unfold sw; (repeat' split) <;> omega)
/-- what claim() leaves -/
def FCl (I I' : Nat → Nat → Int32) (L L' : Nat → Nat → Int64) : Prop :=
  (∀ o k, (o < 30 ∨ (66 ≤ o ∧ o ≤ 68)) → ¬ (o = 0 ∧ k = 9) → ¬ (o = 2 ∧ k = 1) → I' o k = I o k) ∧ (∀ x, 33 ≤ x ∨ x = 1 → x ≠ 75 → I' 69 x = I 69 x) ∧ (∀ o, 84 ≤ o → o ≠ 106 → o ≠ 107 → I' o = I o) ∧ KSl 4 I I' ∧ ∀ o k, (o < 30 ∨ 66 ≤ o) → ¬ (o = 69 ∧ k = 11) → L' o k = L o k
theorem FCl.mk1 {D : Nat → Nat} {I I1 I2 : Nat → Nat → Int32} {L L1 L2 : Nat → Nat → Int64} (hD : DOK D) (a : FRP (D 5) I I1 L L1) (b : FRQc I1 I2 L1 L2) (k4 : KSl 4 I1 I2) : FCl I I2 L L2 := by
  obtain ⟨a1, a2, a3, a4⟩ := a
  obtain ⟨b1, b2, b3, b4⟩ := b
  obtain ⟨c1, c2⟩ := codes_bd (hD.1 5 (by decide))
  have hi : ∀ o, 66 ≤ o → I1 o = I o := fun o h => a1 o (by omega) (by omega) (by omega) (by omega)
  refine ⟨fun o k h h0 h2 => ?_, fun x hx h75 => by rw [b2 x hx h75, hi 69 (by decide)], fun o h h106 h107 => by rw [b1 o (by omega) h106 h107, hi o (by omega)], (KSl.same (fun o h _ => hi o (by omega))).tr k4, fun o k h h2 => ?_⟩
  · rw [b1 o (by omega) (by omega) (by omega)]
    by_cases q0 : o = 0
    · subst q0; exact a2 k (fun x => h0 ⟨rfl, x⟩)
    · by_cases q2 : o = 2
      · subst q2; exact a3.2 k (fun x => h2 ⟨rfl, x⟩)
      · rw [a1 o (by omega) (by omega) q0 q2]
  · rw [b4 o k h2, a4 o k (by omega)]
section CLQ
variable {X : aw_X} {d d2 : Nat} {Q : Option Value → aw_H → Prop} {I : Nat → Nat → Int32} {L : Nat → Nat → Int64} {D : Nat → Nat}
theorem q_claim {pg : Nat → PT} (hP : RP pg I L D) (hT : RT I) (hC : RCl I D) (hQ : ∀ r I1 L1 D1,
      (∀ (Q2 : Option Value → aw_H → Prop), (∀ I2 L2, RP pg I2 L2 D1 → RT I2 → RF I2 → RCl I2 D1 → I2 69 0 = 0 → FCl I I2 L L2 → Q2 (some (.int r)) (aw_s I2 L2 D1)) → aw_m X (d2 + 7) y_M_claim [.ref 69] (aw_s I1 L1 D1) Q2) → Q (some (.int r)) (aw_s I1 L1 D1)) :
    aw_m X (d + 203) y_AW_claim [.ref 0] (aw_s I L D) Q := by
  obtain ⟨z, hz, t1, t2, t3⟩ := hT
  obtain ⟨hD, hpg, hsl, hbo⟩ := id hP
  have d5 := hD.1 5 (by decide)
  have d4 := hD.1 4 (by decide)
  obtain ⟨b1, b2⟩ := codes_bd d5
  obtain ⟨c1, c2⟩ := codes_bd d4
  have ne45 := hD.2 4 5 (by decide) (by decide) (by decide)
  have kt : KTp I (I 3) z := ⟨t1, hz, fun _ _ => rfl⟩
  have mid : ∀ I1 L1, FRP (D 5) I I1 L L1 → (∀ o, 66 ≤ o → I1 o = I o) := fun I1 L1 f o h => f.1 o (by omega) (by omega) (by omega) (by omega)
  have hpg' : ∀ j, j < 4 → PG (pg j) := fun j hj => (hpg j hj).1
  have hpn : ∀ j, j < 4 → cn (pg j) ≤ 600 ∧ cS (pg j) ≤ 60 := fun j hj => ⟨(hpg j hj).1.1.1, (hpg j hj).1.2.1⟩
  have sl : ∀ I1 L1, FRP (D 5) I I1 L L1 → MSl pg I1 := fun I1 L1 f => hsl.fr hpg' (by rw [mid I1 L1 f 69 (by decide)]) (fun o x y => mid I1 L1 f o (by omega))
  have bo : ∀ I1 L1, FRP (D 5) I I1 L L1 → MBo I1 := fun I1 L1 f j hj => by rw [mid I1 L1 f 77 (by decide)]; exact hbo j hj
  -- the programs of the class
  have kcd : ∀ I1 L1 I2 L2, FRP (D 5) I I1 L L1 → FRQc I1 I2 L1 L2 → ∀ j, j < 4 → KCd (pg j) (D j) I2 L2 := fun I1 L1 I2 L2 f1 fq j hj => by
    obtain ⟨c3, c4⟩ := codes_bd (hD.1 j (by omega))
    have ne := hD.2 j 5 (by omega) (by decide) (by omega)
    refine (hpg j hj).2.fr (fun o x y => ?_) ?_
    · rw [fq.1 o (by omega) (by omega) (by omega)]
      exact f1.1 o (codes_dj (hD.1 j (by omega)) d5 ne x y) (by omega) (by omega) (by omega)
    · rw [fq.2.2.2 _ _ (by omega)]
      exact f1.2.2.2 _ _ (fun x => ne x.1)
  have rt : ∀ I1 L1 I2 L2, FRP (D 5) I I1 L L1 → FRQc I1 I2 L1 L2 → I2 69 2 = 0 → RT I2 := fun I1 L1 I2 L2 f1 fq y2 => ⟨0, by decide, by rw [fq.1 2 (by omega) (by decide) (by decide)]; exact f1.2.2.1.1, y2, fun j hj => absurd hj (Nat.not_lt_zero j)⟩
  refine c_AW_claim (d := d) (bt := I 3) (z := z) kt d5 (fun T ps S I1 L1 tk tf hR hG _ hK f1 z9 => hQ _ I1 L1 _ (fun Q2 hQ2 => ?_)) (fun T ps e I1 L1 tk tf hR he f1 z9 => hQ _ I1 L1 _ (fun Q2 hQ2 => ?_))
  · have m := mid I1 L1 f1
    refine c_M_claim (d := d2) (bt := I 3) (z := z) hz (by rw [m 69 (by decide)]; exact t2) (fun j hj => by rw [m 70 (by decide)]; exact (t3 j hj).symm) tk tf (sl I1 L1 f1) (bo I1 L1 f1) hpn (fun S2 I2 L2 hR2 e32 hM hB fq k4 hMc y0 y2 y9 => ?_) (fun e I2 L2 hR2 => by rw [hR] at hR2; cases hR2)
    rw [hR] at hR2
    cases hR2
    refine hQ2 I2 L2 ⟨cl_OK hD, fun j hj => ⟨hpg' j hj, ?_⟩, Or.inl ⟨e32, hM⟩, hB⟩ (rt I1 L1 I2 L2 f1 fq y2) (by show I2 0 9 = I2 69 9; rw [fq.1 0 (by omega) (by decide) (by decide), z9, y9]) (Or.inr ⟨S, hG, ?_, hMc⟩) y0 (FCl.mk1 hD f1 fq k4)
    · have ej : sw 4 j = j := by unfold sw; rw [if_neg (by omega), if_neg (by omega)]
      rw [cl_D (by omega), ej]
      exact kcd I1 L1 I2 L2 f1 fq j hj
    · have e4 : sw 4 4 = 5 := rfl
      rw [cl_D (by decide), e4]
      exact hK.fr (fun o x y => fq.1 o (by omega) (by omega) (by omega))
  · have m := mid I1 L1 f1
    refine c_M_claim (d := d2) (bt := I 3) (z := z) hz (by rw [m 69 (by decide)]; exact t2) (fun j hj => by rw [m 70 (by decide)]; exact (t3 j hj).symm) tk tf (sl I1 L1 f1) (bo I1 L1 f1) hpn (fun S2 I2 L2 hR2 => by rw [hR] at hR2; cases hR2) (fun e2 I2 L2 hR2 e32 hM hB fq k4 k6 y75 y106 y0 y2 y9 => ?_)
    rw [hR] at hR2
    cases hR2
    have dd : ∀ i, i < 6 → va_up D 6 (D 5) i = D i := fun i hi => up_n _ _ (by omega)
    refine hQ2 I2 L2 ⟨d6_OK hD, fun j hj => ⟨hpg' j hj, by rw [dd j (by omega)]; exact kcd I1 L1 I2 L2 f1 fq j hj⟩, Or.inl ⟨e32, hM⟩, hB⟩ (rt I1 L1 I2 L2 f1 fq y2) (by show I2 0 9 = I2 69 9; rw [fq.1 0 (by omega) (by decide) (by decide), z9, y9]) ?_ y0 (FCl.mk1 hD f1 fq k4)
    have h' : RCl I2 D := hC.fr (fun o x y => by rw [fq.1 o (by omega) (by omega) (by omega)]; exact f1.1 o (codes_dj d4 d5 ne45 x y) (by omega) (by omega) (by omega)) (by rw [y75, m 69 (by decide)]) (by rw [y106, m 106 (by decide)]) ((KSl.same (fun o h _ => m o (by omega))).tr k6)
    unfold RCl
    rw [dd 4 (by decide)]
    exact h'
end CLQ
