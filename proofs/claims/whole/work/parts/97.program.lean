/-! PART 97: program of both -/
def DOK (D : Nat → Nat) : Prop := (∀ i, i < 6 → D i ∈ aw_codes) ∧ ∀ i j, i < 6 → j < 6 → i ≠ j → D i ≠ D j
theorem codes_dj {a b o : Nat} (ha : a ∈ aw_codes) (hb : b ∈ aw_codes) (h : a ≠ b) (h1 : a ≤ o) (h2 : o ≤ a + 4) : ¬ (b ≤ o ∧ o ≤ b + 4) := by
  have ha2 : a = 30 ∨ a = 35 ∨ a = 40 ∨ a = 45 ∨ a = 50 ∨ a = 55 := by simpa [aw_codes] using ha
  have hb2 : b = 30 ∨ b = 35 ∨ b = 40 ∨ b = 45 ∨ b = 50 ∨ b = 55 := by simpa [aw_codes] using hb
  omega
/-- the programs of both -/
def RP (pg : Nat → PT) (I : Nat → Nat → Int32) (L : Nat → Nat → Int64) (D : Nat → Nat) : Prop := DOK D ∧ (∀ k, k < 4 → PG (pg k) ∧ KCd (pg k) (D k) I L) ∧ MSl pg I ∧ MBo I
theorem MSl.fr {pg : Nat → PT} {I I' : Nat → Nat → Int32} (h : MSl pg I) (hpg : ∀ k, k < 4 → PG (pg k)) (h32 : I' 69 32 = I 69 32) (ho : ∀ o, 71 ≤ o → o ≤ 78 → I' o = I o) : MSl pg I' := by
  rcases h with ⟨a, b⟩ | ⟨a, b⟩
  · exact Or.inl ⟨h32.trans a, fun j hj => (b j hj).ks (KSl.same ho) (hpg j hj).1.1 (hpg j hj).2.1⟩
  · refine Or.inr ⟨h32.trans a, fun j hj => ?_⟩
    rw [ho 74 (by decide) (by decide), ho 75 (by decide) (by decide), ho 76 (by decide) (by decide), ho 72 (by decide) (by decide)]; exact b j hj
theorem RP.fr {pg : Nat → PT} {I I' : Nat → Nat → Int32} {L L' : Nat → Nat → Int64} {D : Nat → Nat} (h : RP pg I L D) (h1 : ∀ o, 30 ≤ o → o ≤ 59 → I' o = I o) (hL : ∀ o, 30 ≤ o → o ≤ 59 → L' o 10 = L o 10) (h32 : I' 69 32 = I 69 32) (ho : ∀ o, 71 ≤ o → o ≤ 78 → I' o = I o) : RP pg I' L' D := by
  obtain ⟨a, b, c, e⟩ := h
  refine ⟨a, fun k hk => ?_, c.fr (fun k hk => (b k hk).1) h32 ho, fun j hj => by rw [ho 77 (by decide) (by decide)]; exact e j hj⟩
  obtain ⟨b1, b2⟩ := codes_bd (a.1 k (by omega))
  exact ⟨(b k hk).1, (b k hk).2.fr (fun o x y => h1 o (by omega) (by omega)) (hL _ (by omega) (by omega))⟩
/-- what program() leaves -/
def FPr (D : Nat → Nat) (I I' : Nat → Nat → Int32) (L L' : Nat → Nat → Int64) : Prop :=
  (∀ o k, (o < 30 ∨ (66 ≤ o ∧ o ≤ 68)) → ¬ (o = 0 ∧ k = 9) → ¬ (o = 2 ∧ k = 1) → I' o k = I o k) ∧ (∀ o, D 4 ≤ o → o ≤ D 4 + 4 → I' o = I o) ∧ L' (D 4) 10 = L (D 4) 10 ∧
  (∀ x, 33 ≤ x ∨ x = 1 → I' 69 x = I 69 x) ∧ (∀ o, 84 ≤ o → I' o = I o) ∧ KSl 4 I I' ∧ KSl 6 I I' ∧ ∀ o k, (o < 30 ∨ 66 ≤ o) → ¬ (o = 69 ∧ k = 11) → L' o k = L o k
theorem FPr.mk1 {D : Nat → Nat} {I I1 I2 : Nat → Nat → Int32} {L L1 L2 : Nat → Nat → Int64} (hD : DOK D) (a : FRP (D 5) I I1 L L1) (b : FRQ I1 I2 L1 L2) (k4 : KSl 4 I1 I2) (k6 : KSl 6 I1 I2) : FPr D I I2 L L2 := by
  obtain ⟨a1, a2, a3, a4⟩ := a
  obtain ⟨b1, b2, b3, b4⟩ := b
  obtain ⟨c1, c2⟩ := codes_bd (hD.1 5 (by decide))
  obtain ⟨e1, e2⟩ := codes_bd (hD.1 4 (by decide))
  have ne := hD.2 4 5 (by decide) (by decide) (by decide)
  have hi : ∀ o, 66 ≤ o → I1 o = I o := fun o h => a1 o (by omega) (by omega) (by omega) (by omega)
  refine ⟨fun o k h h0 h2 => ?_, fun o x y => ?_, ?_, fun x hx => by rw [b2 x hx, hi 69 (by decide)], fun o h => by rw [b1 o (by omega), hi o (by omega)], (KSl.same (fun o h _ => hi o (by omega))).tr k4, (KSl.same (fun o h _ => hi o (by omega))).tr k6, fun o k h h2 => ?_⟩
  · rw [b1 o (by omega)]
    by_cases q0 : o = 0
    · subst q0; exact a2 k (fun x => h0 ⟨rfl, x⟩)
    · by_cases q2 : o = 2
      · subst q2; exact a3.2 k (fun x => h2 ⟨rfl, x⟩)
      · rw [a1 o (by omega) (by omega) q0 q2]
  · rw [b1 o (by omega)]
    exact a1 o (codes_dj (hD.1 4 (by decide)) (hD.1 5 (by decide)) ne x y) (by omega) (by omega) (by omega)
  · rw [b4 _ _ (by omega), a4 _ _ (fun x => ne x.1)]
  · rw [b4 o k h2, a4 o k (by omega)]
/-- the two codes are swapped -/
def sw (k i : Nat) : Nat := if i = k then 5 else if i = 5 then k else i
theorem sw_D {D : Nat → Nat} {k i x : Nat} (hk : k < 4) (hi : i < 6) : (va_up (va_up (va_up D 6 x) k (D 5)) 5 (D k)) i = D (sw k i) := by
  unfold sw
  by_cases h5 : i = 5
  · subst h5; rw [up_s, if_neg (by omega), if_pos rfl]
  · rw [up_n _ _ h5]
    by_cases g : i = k
    · subst g; rw [up_s, if_pos rfl]
    · rw [up_n _ _ g, up_n _ _ (by omega), if_neg g, if_neg h5]
theorem sw_OK {D : Nat → Nat} {k x : Nat} (hk : k < 4) (h : DOK D) : DOK (va_up (va_up (va_up D 6 x) k (D 5)) 5 (D k)) := by
  have lt : ∀ i, i < 6 → sw k i < 6 := fun i hi => by unfold sw; (repeat' split) <;> omega
  refine ⟨fun i hi => by rw [sw_D hk hi]; exact h.1 _ (lt i hi), fun i j hi hj hne => ?_⟩
  rw [sw_D hk hi, sw_D hk hj]
  exact h.2 _ _ (lt i hi) (lt j hj) (by unfold sw; (repeat' split) <;> omega)
theorem d6_OK {D : Nat → Nat} {x : Nat} (h : DOK D) : DOK (va_up D 6 x) := by
  have e : ∀ i, i < 6 → va_up D 6 x i = D i := fun i hi => up_n _ _ (by omega)
  exact ⟨fun i hi => by rw [e i hi]; exact h.1 i hi, fun i j hi hj hne => by rw [e i hi, e j hj]; exact h.2 i j hi hj hne⟩
section PROG
variable {X : aw_X} {d d2 : Nat} {Q : Option Value → aw_H → Prop} {I : Nat → Nat → Int32} {L : Nat → Nat → Int64} {D : Nat → Nat} {v : Int32}
theorem i32_4 (v : Int32) : (v < 0 ∨ (4 : Int32) ≤ v) ∨ ∃ k, k < 4 ∧ v = nI k := by
  by_cases h1 : v < 0
  · exact Or.inl (Or.inl h1)
  · by_cases h2 : (4 : Int32) ≤ v
    · exact Or.inl (Or.inr h2)
    · obtain ⟨k, rfl, hk⟩ := i32_nat h1
      have : ((4 : Int32) ≤ nI k) = (4 ≤ k) := nI_le' (a := 4) (by decide) hk
      rw [this] at h2
      exact Or.inr ⟨k, by omega, rfl⟩
theorem c_M_program0 {z : Nat} (hv : v < 0 ∨ (4 : Int32) ≤ v) (hQ : ∀ I', (∀ o k, ¬ (o = 69 ∧ (k = 0 ∨ k = 2 ∨ k = 3)) → I' o k = I o k) → I' 69 0 = 0 → I' 69 2 = 0 → Q (some (.int (-1000))) (aw_s I' L D)) : aw_m X (d + 1) y_M_program [.ref 69, .int v] (aw_s I L D) Q :=
  aw_go rfl rfl (b_M_program_0 (aw_go rfl rfl (b_M_take_0 (b_M_program_10 (c_M_isProgram0 hv (b_M_program_17 (fun x => absurd rfl x) (fun _ => hQ _ (fun o k h => by rw [au_ok (by omega), au_ok (by omega), au_ok (by omega)]) (by rw [au_k (by decide), au_k (by decide), au_s]) (by rw [au_k (by decide), au_s]))))))))
theorem q_program {pg : Nat → PT} (hP : RP pg I L D) (hT : RT I) (hF : RF I) (hQ : ∀ r I1 L1 D1, D1 4 = D 4 →
      (∀ (Q2 : Option Value → aw_H → Prop), (∀ I2 L2 pg', RP pg' I2 L2 D1 → RT I2 → RF I2 → I2 69 0 = 0 → FPr D I I2 L L2 → Q2 (some (.int r)) (aw_s I2 L2 D1)) → aw_m X (d2 + 11) y_M_program [.ref 69, .int v] (aw_s I1 L1 D1) Q2) → Q (some (.int r)) (aw_s I1 L1 D1)) :
    aw_m X (d + 202) y_AW_program [.ref 0, .int v] (aw_s I L D) Q := by
  obtain ⟨z, hz, t1, t2, t3⟩ := hT
  obtain ⟨hD, hpg, hsl, hbo⟩ := id hP
  have d5 := hD.1 5 (by decide)
  obtain ⟨b1, b2⟩ := codes_bd d5
  obtain ⟨c1, c2⟩ := codes_bd (hD.1 4 (by decide))
  rcases i32_4 v with hv | ⟨k, hk, rfl⟩
  · refine c_AW_program0 (z := z) hv t1 (by omega) (hQ _ _ _ _ rfl (fun Q2 hQ2 => c_M_program0 (z := z) (d := d2 + 10) hv (fun I2 f2 z0 z2 => hQ2 I2 L pg ?_ ?_ ?_ z0 ?_)))
    · exact hP.fr (fun o x y => funext fun k => by rw [f2 o k (by omega), au_o (by omega)]) (fun _ _ _ => rfl) (by rw [f2 69 32 (by omega), au_o (by decide)]) (fun o x y => funext fun k => by rw [f2 o k (by omega), au_o (by omega)])
    · exact ⟨0, by decide, by rw [f2 2 1 (by omega), au_s]; rfl, z2, fun j hj => absurd hj (Nat.not_lt_zero j)⟩
    · show I2 0 9 = I2 69 9
      rw [f2 0 9 (by omega), f2 69 9 (by omega), au_o (by decide), au_o (by decide)]; exact hF
    · refine ⟨fun o k h h0 h2 => by rw [f2 o k (by omega), au_ok (by omega)], fun o x y => funext fun k => by rw [f2 o k (by omega), au_o (by omega)], rfl, fun x hx => by rw [f2 69 x (by omega), au_o (by decide)], fun o h => funext fun k => by rw [f2 o k (by omega), au_o (by omega)], KSl.same (fun o x y => funext fun k => by rw [f2 o k (by omega), au_o (by omega)]), KSl.same (fun o x y => funext fun k => by rw [f2 o k (by omega), au_o (by omega)]), fun _ _ _ _ => rfl⟩
  · have kt : KTp I (I 3) z := ⟨t1, hz, fun _ _ => rfl⟩
    -- what is as it was for the reference
    have mid : ∀ I1 L1, FRP (D 5) I I1 L L1 → (∀ o, 66 ≤ o → I1 o = I o) := fun I1 L1 f o h => f.1 o (by omega) (by omega) (by omega) (by omega)
    refine c_AW_program (bt := I 3) (z := z) hk kt d5 (fun T ps S I1 L1 tk tf hR hS hC f1 z9 => hQ _ I1 L1 _ ?_ (fun Q2 hQ2 => ?_)) (fun T ps e I1 L1 tk tf hR he f1 z9 => hQ _ I1 L1 _ ?_ (fun Q2 hQ2 => ?_))
    · rw [up_n _ _ (by decide), up_n _ _ (by omega), up_n _ _ (by decide)]
    · have m := mid I1 L1 f1
      have sl : MSl pg I1 := hsl.fr (fun j hj => (hpg j hj).1) (by rw [m 69 (by decide)]) (fun o x y => m o (by omega))
      have bo : MBo I1 := fun j hj => by rw [m 77 (by decide)]; exact hbo j hj
      refine c_M_program (d := d2) (bt := I 3) (z := z) hk hz (by rw [m 69 (by decide)]; exact t2) (fun j hj => by rw [m 70 (by decide)]; exact (t3 j hj).symm) tk tf sl bo (fun j hj => ⟨(hpg j hj).1.1.1, (hpg j hj).1.2.1⟩) (fun S2 I2 L2 hR2 e32 hM hB fq k4 k6 y0 y2 y9 => ?_) (fun e I2 L2 hR2 => by rw [hR] at hR2; cases hR2)
      rw [hR] at hR2
      cases hR2
      have lo : ∀ o, o < 69 → I2 o = I1 o := fun o h => fq.1 o (by omega)
      refine hQ2 I2 L2 (fun j => if j = k then S else pg j) ⟨sw_OK hk hD, fun j hj => ?_, Or.inl ⟨e32, hM⟩, hB⟩ ⟨0, by decide, by rw [lo 2 (by decide)]; exact f1.2.2.1.1, y2, fun j hj => absurd hj (Nat.not_lt_zero j)⟩ (by show I2 0 9 = I2 69 9; rw [lo 0 (by decide), z9, y9]) y0 (FPr.mk1 hD f1 fq k4 k6)
      rw [sw_D hk (by omega)]
      by_cases g : j = k
      · subst g
        have e5 : sw j j = 5 := if_pos rfl
        simp only [if_pos, e5]
        exact ⟨hS, hC.fr (fun o x y => lo o (by omega)) (fq.2.2.2 _ _ (by omega))⟩
      · have ej : sw k j = j := by unfold sw; rw [if_neg g, if_neg (by omega)]
        simp only [ej, if_neg g]
        obtain ⟨c3, c4⟩ := codes_bd (hD.1 j (by omega))
        have ne := hD.2 j 5 (by omega) (by decide) (by omega)
        refine ⟨(hpg j hj).1, (hpg j hj).2.fr (fun o x y => ?_) ?_⟩
        · rw [lo o (by omega)]
          exact f1.1 o (codes_dj (hD.1 j (by omega)) d5 ne x y) (by omega) (by omega) (by omega)
        · rw [fq.2.2.2 _ _ (by omega)]
          exact f1.2.2.2 _ _ (fun x => ne x.1)
    · rw [up_n _ _ (by decide)]
    · have m := mid I1 L1 f1
      have sl : MSl pg I1 := hsl.fr (fun j hj => (hpg j hj).1) (by rw [m 69 (by decide)]) (fun o x y => m o (by omega))
      have bo : MBo I1 := fun j hj => by rw [m 77 (by decide)]; exact hbo j hj
      refine c_M_program (d := d2) (bt := I 3) (z := z) hk hz (by rw [m 69 (by decide)]; exact t2) (fun j hj => by rw [m 70 (by decide)]; exact (t3 j hj).symm) tk tf sl bo (fun j hj => ⟨(hpg j hj).1.1.1, (hpg j hj).1.2.1⟩) (fun S2 I2 L2 hR2 => by rw [hR] at hR2; cases hR2) (fun e2 I2 L2 hR2 e32 hM hB fq k4 k6 y0 y2 y9 => ?_)
      rw [hR] at hR2
      cases hR2
      have lo : ∀ o, o < 69 → I2 o = I1 o := fun o h => fq.1 o (by omega)
      refine hQ2 I2 L2 pg ⟨d6_OK hD, fun j hj => ?_, Or.inl ⟨e32, hM⟩, hB⟩ ⟨0, by decide, by rw [lo 2 (by decide)]; exact f1.2.2.1.1, y2, fun j hj => absurd hj (Nat.not_lt_zero j)⟩ (by show I2 0 9 = I2 69 9; rw [lo 0 (by decide), z9, y9]) y0 (FPr.mk1 hD f1 fq k4 k6)
      rw [up_n _ _ (show j ≠ 6 by omega)]
      obtain ⟨c3, c4⟩ := codes_bd (hD.1 j (by omega))
      have ne := hD.2 j 5 (by omega) (by decide) (by omega)
      refine ⟨(hpg j hj).1, (hpg j hj).2.fr (fun o x y => ?_) ?_⟩
      · rw [lo o (by omega)]
        exact f1.1 o (codes_dj (hD.1 j (by omega)) d5 ne x y) (by omega) (by omega) (by omega)
      · rw [fq.2.2.2 _ _ (by omega)]
        exact f1.2.2.2 _ _ (fun x => ne x.1)
end PROG
