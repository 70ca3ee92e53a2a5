/-! PART 91: the class's program -/
section KPRG
variable {X : aw_X} {d : Nat} {Q : Option Value → aw_H → Prop} {I : Nat → Nat → Int32} {L : Nat → Nat → Int64} {D : Nat → Nat} {c : Nat} {T : TD} {S : PT}
theorem c_Tp_cut0 {z : Nat} (h : I 2 1 = nI z) (hz : z < 2 ^ 31) (hQ : Q (some (.int 1)) (aw_s (aw_u I 2 1 0) L D)) : aw_m X d y_Tp_cut [.ref 2, .int 0] (aw_s I L D) Q := by
  have B0 := @b_Tp_cut_0 X d Q I L D 0
  have c0 : ((0 : Int32) < 0) = False := by decide
  have c1 : ((0 : Int32) ≤ nI z) = True := by
    have : ((0 : Int32) ≤ nI z) = (0 ≤ z) := nI_le' (a := 0) (by decide) hz
    rw [this]; simp
  rw [h] at B0
  simp only [c0, c1, not_false_eq_true, not_true_eq_false, true_implies, false_implies, implies_true] at B0
  exact aw_go rfl rfl (B0 hQ)
theorem c_AW_noteReading {z : Nat} (h : I 2 1 = nI z) (hz : z < 2 ^ 31) (hQ : Q none (aw_s (aw_u (aw_u I 0 9 (I 60 3)) 2 1 0) L D)) : aw_m X (d + 1) y_AW_noteReading [.ref 0] (aw_s I L D) Q :=
  aw_go rfl rfl (b_AW_noteReading_0 (c_Tp_cut0 (z := z) (by rw [au_o (by decide)]; exact h) hz (b_AW_noteReading_19 hQ)))
theorem c_AW_programAt {k : Nat} (hk : k < 4) (hQ : Q (some (.ref (D k))) (aw_s I L D)) : aw_m X d y_AW_programAt [.ref 0, .int (nI k)] (aw_s I L D) Q := by
  have B0 := @b_AW_programAt_0 X d Q I L D (nI k)
  have c0 : (nI k < 0) = False := by simp [nI_pos (show k < 2 ^ 31 by omega)]
  have c1 : ((4 : Int32) ≤ nI k) = False := by
    have : ((4 : Int32) ≤ nI k) = (4 ≤ k) := nI_le' (a := 4) (by decide) (by omega)
    rw [this]; simp; omega
  have e : aw_R D 29 k = some (D k) := by show (if k < 4 then some (D k) else none) = _; rw [if_pos hk]
  rw [nI_clamp (show k < 2 ^ 31 by omega), e] at B0
  simp only [c0, c1, not_false_eq_true, true_implies, false_implies] at B0
  exact aw_go rfl rfl (B0 (aw_in_nI (by omega) (by decide)) hQ)
theorem c_AW_programAt0 {v : Int32} (hv : v < 0 ∨ (4 : Int32) ≤ v) (hQ : Q (some .null) (aw_s I L D)) : aw_m X d y_AW_programAt [.ref 0, .int v] (aw_s I L D) Q :=
  aw_go rfl rfl (b_AW_programAt_0 (fun _ => hQ) (fun _ _ => hQ) (fun a b => absurd hv (fun x => x.elim a b)) (fun a b => absurd hv (fun x => x.elim a b)))
/-- what a told program leaves of the heap -/
def FRP (c : Nat) (I0 I : Nat → Nat → Int32) (L0 L : Nat → Nat → Int64) : Prop := (∀ o, ¬ (c ≤ o ∧ o ≤ c + 4) → ¬ (60 ≤ o ∧ o ≤ 65) → o ≠ 0 → o ≠ 2 → I o = I0 o) ∧ (∀ x, x ≠ 9 → I 0 x = I0 0 x) ∧ (I 2 1 = 0 ∧ ∀ x, x ≠ 1 → I 2 x = I0 2 x) ∧ ∀ o k, ¬ (o = c ∧ k = 10) → L o k = L0 o k
theorem FRP.mk1 {I0 I1 I2 : Nat → Nat → Int32} {L0 L1 L2 : Nat → Nat → Int64} {v : Int32} (h : c ∈ aw_codes) (a : FRT c I0 I1 L0 L1) (b : FRE c I1 I2 L1 L2) : FRP c I0 (aw_u (aw_u I2 0 9 v) 2 1 0) L0 L2 := by
  obtain ⟨b1, b2⟩ := codes_bd h
  have e : ∀ o, ¬ (c ≤ o ∧ o ≤ c + 4) → ¬ (60 ≤ o ∧ o ≤ 65) → I2 o = I0 o := fun o x y => (b.1 o x (by omega) (by omega) (by omega)).trans (a.1 o x y)
  refine ⟨fun o h1 h2 h3 h4 => ?_, fun x hx => ?_, ⟨au_s _ _ _ _, fun x hx => ?_⟩, fun o k h => (b.2 o k h).trans (a.2 o k h)⟩
  · rw [au_o h4, au_o h3]; exact e o h1 h2
  · rw [au_o (by decide), au_k hx, e 0 (by omega) (by omega)]
  · rw [au_k hx, au_o (by decide), e 2 (by omega) (by omega)]
theorem c_AW_program {bt : Nat → Int32} {z k : Nat} (hk : k < 4) (hT : KTp I bt z) (h5 : D 5 ∈ aw_codes)
    (hok : ∀ T ps S I' L', isToks bt z T.1 ps (tK T) (tV T) (tP T) → tFul T → rdP T PT0 = .ok S → PG S → KCd S (D 5) I' L' → FRP (D 5) I I' L L' → I' 0 9 = 0 → Q (some (.int (nI (cS S)))) (aw_s I' L' (va_up (va_up (va_up D 6 (D 5)) k (D 5)) 5 (D k))))
    (her : ∀ T ps e I' L', isToks bt z T.1 ps (tK T) (tV T) (tP T) → tFul T → rdP T PT0 = .error e → e.2 ≤ T.1 → FRP (D 5) I I' L L' → I' 0 9 = e.1 → Q (some (.int (-1 - nI (tP T e.2)))) (aw_s I' L' (va_up D 6 (D 5)))) :
    aw_m X (d + 202) y_AW_program [.ref 0, .int (nI k)] (aw_s I L D) Q := by
  obtain ⟨b1, b2⟩ := codes_bd h5
  refine aw_go rfl rfl (b_AW_program_0 (c_AW_programAt hk (b_AW_program_5 rfl (k_restart (d := d + 188) h5 hT (fun I1 L1 T0 ps a1 a2 a3 a4 => b_AW_program_36 ?_)))))
  obtain ⟨T, hTe⟩ : ∃ T, T = fulT T0 := ⟨_, rfl⟩
  have tk : isToks bt z T.1 ps (tK T) (tV T) (tP T) := by rw [hTe]; exact fulT_toks a1
  have tf : tFul T := by rw [hTe]; exact fulT_ful a1
  have kp : KP (D 5) T PT0 I1 L1 := by rw [hTe]; exact a2.ful
  clear hTe a1 a2
  have dk : (va_up D 6 (D 5)) 6 = D 5 := up_s _ _ _
  have tz : ∀ I2 : Nat → Nat → Int32, I2 2 = I1 2 → I2 2 1 = nI z := fun I2 h => by rw [h, a3.1 2 (by omega) (by omega)]; exact hT.1
  have z31 : z < 2 ^ 31 := by have := hT.2.1; omega
  have bad : ∀ (e : Int32 × Nat) (I2 : Nat → Nat → Int32) (L2 : Nat → Nat → Int64), rdP T PT0 = .error e → FRE (D 5) I1 I2 L1 L2 → I2 60 3 = e.1 → I2 60 4 = nI (tP T e.2) → e.2 ≤ T.1 → aw_z X (d + 202) y_AW_program Q 60 [some (.ref 0), some (.int (nI k)), some (.ref (D k)), some (.ref (D 5)), none] [] (aw_s I2 L2 (va_up D 6 (D 5))) := by
    intro e I2 L2 he f h3 h4 h5'
    refine b_AW_program_60 (b_AW_program_61 (c_AW_noteReading (z := z) (tz I2 (f.1 2 (by omega) (by decide) (by decide) (by decide))) z31 (b_AW_program_67 h5 (fun q => absurd rfl q) (fun q => absurd rfl q) (fun q => absurd rfl q) (fun q => absurd rfl q) (fun q => absurd rfl q) (fun _ => ?_))))
    rw [show aw_u (aw_u I2 0 9 (I2 60 3)) 2 1 0 60 4 = nI (tP T e.2) by rw [au_o (by decide), au_o (by decide)]; exact h4]
    exact her T ps e _ L2 tk tf he h5' (FRP.mk1 h5 a3 f) (by rw [au_o (by decide), au_s]; exact h3)
  refine k_procs h5 tf.1 dk (d + 201) (by omega) PT0 I1 L1 _ kp (fun v I2 L2 r => ?_)
  cases hR : prl T 501 PT0 with
  | error e =>
    rw [hR] at r
    obtain ⟨f, rfl, r2, r3, r4, -⟩ := r
    exact b_AW_program_43 (fun _ => bad e I2 L2 (by rw [rdP, hR]; rfl) f r2 r3 r4) (fun q => absurd rfl q)
  | ok S1 =>
    rw [hR] at r
    obtain ⟨f, rfl, kp1⟩ := r
    refine b_AW_program_43 (fun q => absurd q (by decide)) (fun _ => k_steps h5 tf.1 dk (d + 201) (by omega) S1 I2 L2 _ kp1 (fun v I3 L3 r => ?_))
    have eR : rdP T PT0 = pb (stl T 501 (seB S1)) (fun S' => .ok (em 25 0 S')) := by rw [rdP, hR, pb_ok]
    have r : KRes (D 5) T I2 L2 (rdP T PT0) v I3 L3 := by rw [eR]; exact r
    cases hR2 : rdP T PT0 with
    | error e =>
      rw [hR2] at r
      obtain ⟨f2, rfl, r2, r3, r4, -⟩ := r
      exact b_AW_program_53 (fun _ => bad e I3 L3 hR2 (f.e.tr f2) r2 r3 r4) (fun q => absurd rfl q)
    | ok S =>
      rw [hR2] at r
      obtain ⟨f2, rfl, kp2⟩ := r
      refine b_AW_program_53 (fun q => absurd q (by decide)) (fun _ => b_AW_program_61 (c_AW_noteReading (z := z) (tz I3 ((f.tr f2).1 2 (by omega) (by decide) (by decide))) z31 (b_AW_program_67 h5 (fun _ q => absurd q (nI_pos (by omega))) (fun _ _ q => absurd q ?_) (fun _ _ _ => aw_in_nI (by omega) (by decide)) (fun _ _ _ => h5) (fun _ _ _ => ?_) (fun q => absurd q (by decide)))))
      · have : ((4 : Int32) ≤ nI k) = (4 ≤ k) := nI_le' (a := 4) (by decide) (by omega)
        rw [this]; omega
      · have pg : PG S := rdP_PG tf hR2 kp2.1.1 kp2.2.2.2.2.2.2.2.2.2.2.2.2.1
        have cd := kp2.cd pg
        have ne : ∀ o, D 5 ≤ o → o ≤ D 5 + 4 → aw_u (aw_u I3 0 9 (I3 60 3)) 2 1 0 o = I3 o := fun o h1 h2 => by rw [au_o (by omega), au_o (by omega)]
        have cd2 := cd.fr (I' := aw_u (aw_u I3 0 9 (I3 60 3)) 2 1 0) (L' := L3) ne rfl
        rw [cd2.2.2.1, nI_clamp (show k < 2 ^ 31 by omega)]
        refine hok T ps S _ L3 tk tf hR2 pg cd2 (FRP.mk1 h5 a3 (f.tr f2).e) ?_
        rw [au_o (by decide), au_s, (f.tr f2).1 60 (by omega) (by decide) (by decide)]
        exact a4
/-- no program of that number -/
theorem c_AW_program0 {z : Nat} {v : Int32} (hv : v < 0 ∨ (4 : Int32) ≤ v) (h : I 2 1 = nI z) (hz : z < 2 ^ 31) (hQ : Q (some (.int (-1000))) (aw_s (aw_u I 2 1 0) L D)) : aw_m X (d + 1) y_AW_program [.ref 0, .int v] (aw_s I L D) Q :=
  aw_go rfl rfl (b_AW_program_0 (c_AW_programAt0 hv (b_AW_program_5a (c_Tp_cut0 h hz (b_AW_program_18 hQ)))))
end KPRG
