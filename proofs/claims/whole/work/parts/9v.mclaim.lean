/-! PART 9v: the reference: which tests of its claim hold -/
/-- the reference holds a claim -/
def MCl (S : PT) (I : Nat → Nat → Int32) : Prop := I 69 75 = nI (cK S) ∧ ∀ t, t < cK S → I 106 t = nI (cX S t - (t + 1)) ∧ ∀ j, cL S t ≤ j → j + 1 < cX S t → I 71 (4800 + (j - t)) = nI (cP S j).1 ∧ I 72 (4800 + (j - t)) = (cP S j).2
theorem MCl.fr {S : PT} {I I' : Nat → Nat → Int32} (h : MCl S I) (hG : CG S) (h75 : I' 69 75 = I 69 75) (h106 : I' 106 = I 106) (h6 : KSl 6 I I') : MCl S I' := by
  obtain ⟨a, b⟩ := h
  refine ⟨h75.trans a, fun t ht => ⟨by rw [h106]; exact (b t ht).1, fun j h1 h2 => ?_⟩⟩
  have := hG.lt ht
  obtain ⟨e1, e2⟩ := h6.1 (j - t) (by omega)
  rw [show 800 * 6 = 4800 from rfl] at e1 e2
  rw [e1, e2]; exact (b t ht).2 j h1 h2
section MCLM
variable {X : aw_X} {d : Nat} {Q : Option Value → aw_H → Prop} {I : Nat → Nat → Int32} {L : Nat → Nat → Int64} {D : Nat → Nat} {S : PT} {B T O : Nat}
theorem FRW.rf : FRW I I := ⟨fun _ _ _ => rfl, fun _ _ => rfl⟩
theorem FRW.tr {I I' I'' : Nat → Nat → Int32} (a : FRW I I') (b : FRW I' I'') : FRW I I'' := ⟨fun o h1 h2 => (b.1 o h1 h2).trans (a.1 o h1 h2), fun k h => (b.2 k h).trans (a.2 k h)⟩
theorem FRW.m {L : Nat → Nat → Int64} {I I' : Nat → Nat → Int32} (h : FRW I I') : MFr I I' L L := ⟨fun o a _ _ b _ _ => h.1 o a b, fun k a _ _ _ _ => h.2 k a, fun _ _ => rfl, fun _ _ _ => rfl⟩
/-- the reference is ready to look at its claim -/
def MIc (S : PT) (B T O : Nat) (I : Nat → Nat → Int32) : Prop := CG S ∧ MCl S I ∧ SZok B T O ∧ SZ I B T O
theorem MIc.fr {I I' : Nat → Nat → Int32} {L L' : Nat → Nat → Int64} (h : MIc S B T O I) (f : MFr I I' L L') : MIc S B T O I' := by
  obtain ⟨a, k, e, ⟨s1, s2, s3⟩⟩ := h
  have g : ∀ x, 46 ≤ x ∨ (26 ≤ x ∧ x ≤ 41) → I' 69 x = I 69 x := fun x hx => f.2.1 x (by omega) (by omega) (by omega) (by omega) (by omega)
  have o : ∀ o, o = 106 ∨ (71 ≤ o ∧ o ≤ 78) → I' o = I o := fun o ho => f.1 o (by omega) (by omega) (by omega) (by omega) (by omega) (by omega)
  exact ⟨a, k.fr a (g 75 (by omega)) (o 106 (by omega)) (KSl.same (fun x p q => o x (by omega))), e, by rw [g 33 (by omega)]; exact s1, by rw [g 34 (by omega)]; exact s2, by rw [g 35 (by omega)]; exact s3⟩
/-- a row's names are laid -/
def MLd (nm : Nat → Int32) (I : Nat → Nat → Int32) : Prop := (∀ k, k < 8 → I 84 k = nm k) ∧ ∀ k, k < 8 → I 85 k = 0
theorem MLd.w {nm : Nat → Int32} {I I' : Nat → Nat → Int32} (h : MLd nm I) (f : FRW I I') : MLd nm I' := ⟨fun k hk => by rw [f.1 84 (by decide) (by decide)]; exact h.1 k hk, fun k hk => by rw [f.1 85 (by decide) (by decide)]; exact h.2 k hk⟩
theorem l_M_ev {nm : Nat → Int32} {t : Nat} (ht : t < cK S) (hnr : ∀ k, k < 8 → rg B (nm k)) {I0 : Nat → Nat → Int32} {b : Bool}
    (hQ : ∀ I', FRW I0 I' → Q (some (.int (p_b b))) (aw_s I' L D)) :
    ∀ (m pc : Nat) (stk : List Int32) (I : Nat → Nat → Int32), pc + m = cX S t - 1 → cL S t ≤ pc → p_ty B (cT S pc) stk → SRI I stk → FRW I0 I → MIc S B T O I → MLd nm I →
      (match p_ev (cP S) (mk B) nm (fun _ => 0) m pc stk with | .ok (v :: _) => decide (v = 1) | _ => false) = b →
      aw_z X (d + 3) y_M_holdsTest Q 22 [some (.ref 69), some (.int (nI t)), some (.int (nI (pc - t)))] [] (aw_s I L D) := by
  intro m
  induction m with
  | zero =>
    intro pc stk I e hpc hty hs f h hl hb
    obtain ⟨hG, hC, hk, sz⟩ := id h
    have k20 := hG.2.1
    obtain ⟨x1, x2, x3, x4⟩ := hG.lt ht
    have epc : pc = cX S t - 1 := by omega
    obtain ⟨-, -, -, -, -, a6, -⟩ := hG.2.2.2.2.1 t ht
    rw [← epc] at a6
    rw [a6] at hty
    obtain ⟨v, st, rfl, hv, hty2⟩ := p_ty1 hty
    have := p_ty0 hty2
    subst this
    have hv : v = 0 ∨ v = 1 := by rwa [if_pos rfl] at hv
    obtain ⟨s1, ⟨s2, -⟩, -⟩ := hs
    have s1 : I 69 25 = nI 1 := s1
    have s2 : I 86 1 = v := s2
    have B0 := @b_M_holdsTest_22 X (d + 2) Q I L D (nI t) (nI (pc - t))
    rw [nI_clamp (show t < 2 ^ 31 by omega), (hC.2 t ht).1, s1, nI_clamp (show 1 < 2 ^ 31 by decide), s2, show cX S t - (t + 1) = pc - t by omega] at B0
    have le : nI (pc - t) ≤ nI (pc - t) := by rw [nI_leI (by omega) (by omega)]; exact Nat.le_refl _
    have hb : decide (v = 1) = b := hb
    refine B0 (aw_in_nI (by omega) (by decide)) (fun _ => aw_in_nI (by decide) (by decide)) (fun _ q => ?_) (fun _ q => ?_) (fun q => absurd le q) (fun q => absurd le q) (fun q => absurd le q)
    · have g := hQ I f
      rw [← hb, decide_eq_false q] at g; exact g
    · have g := hQ I f
      rw [← hb, decide_eq_true q] at g; exact g
  | succ m ih =>
    intro pc stk I e hpc hty hs f h hl hb
    obtain ⟨hG, hC, hk, sz⟩ := id h
    have k20 := hG.2.1
    obtain ⟨x1, x2, x3, x4⟩ := hG.lt ht
    obtain ⟨-, -, -, -, -, -, a7⟩ := hG.2.2.2.2.1 t ht
    have ho := a7 pc hpc (by omega)
    have hp := hG.2.2.2.2.2 t pc ht hpc (by omega)
    have hlen : stk.length ≤ 30 := by rw [p_ty_len hty]; exact hp.1
    obtain ⟨c1, c2⟩ := (hC.2 t ht).2 pc hpc (by omega)
    have ea : (4800 : Int32) + nI (pc - t) = nI (4800 + (pc - t)) := by rw [show (4800 : Int32) = nI 4800 from rfl, nI_add]
    have B0 := @b_M_holdsTest_22 X (d + 2) Q I L D (nI t) (nI (pc - t))
    rw [nI_clamp (show t < 2 ^ 31 by omega), (hC.2 t ht).1, ea, nI_clamp (show 4800 + (pc - t) < 2 ^ 31 by omega), c1, c2] at B0
    have nle : ¬ nI (cX S t - (t + 1)) ≤ nI (pc - t) := by rw [nI_leI (by omega) (by omega)]; omega
    have hgood := p_work_good (g := mk B) (nm := nm) (cl := fun _ => 0) hk.2.1 rfl hp ho.1 ho.2 hty hnr (fun _ _ => rg_0 B)
    refine B0 (aw_in_nI (by omega) (by decide)) (fun q => absurd q nle) (fun q => absurd q nle) (fun q => absurd q nle) (fun _ => aw_in_nI (by omega) (by decide)) (fun _ => aw_in_nI (by omega) (by decide)) (fun _ => ?_)
    refine c_M_work (nm := nm) (cl := fun _ => 0) hk.1 hk.2.1 sz.1 hp ho hty hnr (fun _ _ => rg_0 B) hl.1 hl.2 hs hlen (fun st I' hw fw s => b_M_holdsTest_56 (fun _ => ?_) (fun q => absurd (by decide) q)) (fun e he hw => b_M_holdsTest_56 (fun q => ?_) (fun _ => ?_))
    · rw [nI_1, show pc - t + 1 = pc + 1 - t by omega]
      rw [p_ev, hw] at hb
      rcases hgood with ⟨st', w1, w2, -⟩ | w | w
      · rw [hw] at w1
        cases w1
        exact ih (pc + 1) st I' (by omega) (by omega) w2 s (f.tr fw) (h.fr (fw.m (L := L))) (hl.w fw) hb
      · rw [hw] at w; cases w
      · rw [hw] at w; cases w
    · rcases he with rfl | rfl <;> exact absurd q (by decide)
    · rw [p_ev, hw] at hb
      have g := hQ I f
      rw [← hb] at g; exact g
theorem c_M_holdsTest {nm : Nat → Int32} {t : Nat} (ht : t < cK S) (hnr : ∀ k, k < 8 → rg B (nm k)) (h : MIc S B T O I) (hl : MLd nm I) (hQ : ∀ I', FRW I I' → Q (some (.int (p_b (tHo S B nm t)))) (aw_s I' L D)) : aw_m X (d + 3) y_M_holdsTest [.ref 69, .int (nI t)] (aw_s I L D) Q := by
  obtain ⟨hG, hC, hk, sz⟩ := id h
  have k20 := hG.2.1
  obtain ⟨x1, x2, x3, x4⟩ := hG.lt ht
  have fu : FRW I (aw_u I 69 25 0) := ⟨fun o a _ => au_o a, fun k a => au_k a⟩
  have a5 := (hG.2.2.2.2.1 t ht).2.2.2.2.1
  have go : aw_z X (d + 3) y_M_holdsTest Q 22 [some (.ref 69), some (.int (nI t)), some (.int (nI (cL S t - t)))] [] (aw_s (aw_u I 69 25 0) L D) :=
    l_M_ev (d := d) (B := B) (T := T) (O := O) (I0 := I) ht hnr hQ (cX S t - 1 - cL S t) (cL S t) [] _ (by omega) (Nat.le_refl _) (by rw [a5]; trivial) ⟨au_s _ _ _ _, trivial, Nat.zero_le _⟩ fu (h.fr (fu.m (L := L))) (hl.w fu) rfl
  have e0 : (nI t = 0) = (t = 0) := eqI (k := 0) (by omega) (by decide)
  refine aw_go rfl rfl (b_M_holdsTest_0 (fun q => ?_) (fun q => ?_) (fun q => ?_))
  · rw [e0] at q
    rw [show (1 : Int32) = nI 1 from rfl, pk_sub (by omega)]
    exact aw_in_nI (by omega) (by decide)
  · rw [e0] at q
    rw [show (1 : Int32) = nI 1 from rfl, pk_sub (by omega), nI_clamp (by omega), (hC.2 (t - 1) (by omega)).1, CG.X (show t - 1 + 1 < cK S by omega), show t - 1 + 1 = t by omega]
    exact go
  · rw [e0] at q
    subst q
    rw [hG.2.2.2.1] at go
    exact go
theorem l_M_ft {nm : Nat → Int32} (hnr : ∀ k, k < 8 → rg B (nm k)) {I0 : Nat → Nat → Int32} (hQ : ∀ I', FRW I0 I' → Q (some (.int (nI (fBt (tHo S B nm) (cK S))))) (aw_s I' L D)) :
    ∀ (m t : Nat) (I : Nat → Nat → Int32), t + m = cK S → MIc S B T O I → MLd nm I → FRW I0 I →
      aw_z X (d + 4) y_M_failing Q 9 [some (.ref 69), none, some (.int (nI (fBt (tHo S B nm) t))), some (.int (nI t))] [] (aw_s I L D) := by
  intro m
  induction m with
  | zero =>
    intro t I e h hl f
    obtain ⟨hG, hC, hk, sz⟩ := id h
    have k20 := hG.2.1
    have et : t = cK S := by omega
    subst et
    exact b_M_failing_9 (fun _ => hQ I f) (fun q => absurd (by rw [hC.1, nI_leI (by omega) (by omega)]; exact Nat.le_refl _) q)
  | succ m ih =>
    intro t I e h hl f
    obtain ⟨hG, hC, hk, sz⟩ := id h
    have k20 := hG.2.1
    have nle : ¬ I 69 75 ≤ nI t := by rw [hC.1, nI_leI (by omega) (by omega)]; omega
    refine b_M_failing_9 (fun q => absurd q nle) (fun _ => c_M_holdsTest (d := d) (by omega) hnr h hl (fun I' fw => b_M_failing_22 (fun q => ?_) (fun q => ?_)))
    · rw [pb_t, Classical.not_not] at q
      have g := ih (t + 1) I' (by omega) (h.fr (fw.m (L := L))) (hl.w fw) (f.tr fw)
      rw [fBt, if_pos q] at g
      rw [nI_1]; exact g
    · rw [pb_t] at q
      have g := ih (t + 1) I' (by omega) (h.fr (fw.m (L := L))) (hl.w fw) (f.tr fw)
      rw [fBt, if_neg q] at g
      rw [nI_1, show (1 : Int32) = nI 1 from rfl, shl_nI (by omega), Nat.one_mul, nI_or, fBt_or]; exact g
theorem c_M_lay {r : Int32} (h : MIc S B T O I) (hQ : ∀ I', MFr I I' L L → MIc S B T O I' → MLd (rowNm B T r) I' → Q none (aw_s I' L D)) : aw_m X (d + 1) y_M_layRow [.ref 69, .int r] (aw_s I L D) Q :=
  c_M_layRow h.2.2.2 h.2.2.1 (fun I' f n c => by
    have m : MFr I I' L L := ⟨fun o _ a b _ _ _ => f o a b, fun k _ _ _ _ _ => by rw [f 69 (by decide) (by decide)], fun _ _ => rfl, fun _ _ _ => rfl⟩
    exact hQ I' m (h.fr m) ⟨n, c⟩)
theorem c_M_failing {r : Nat} (h : MIc S B T O I) (hQ : ∀ I', MFr I I' L L → Q (some (.int (nI (fBt (tHo S B (rowNm B T (nI r))) (cK S))))) (aw_s I' L D)) : aw_m X (d + 4) y_M_failing [.ref 69, .int (nI r)] (aw_s I L D) Q :=
  aw_go rfl rfl (b_M_failing_0 (c_M_lay (d := d + 2) h (fun I1 m1 h1 l1 => b_M_failing_5 (l_M_ft (d := d) (I0 := I1) (fun k _ => rowNm_rg h.2.2.1.2.1 k) (fun I' fw => hQ I' (m1.tr fw.m)) (cK S) 0 I1 (by omega) h1 l1 FRW.rf))))
/-- whether all tests hold -/
def tAl (S : PT) (B : Nat) (nm : Nat → Int32) : Prop := ∀ t, t < cK S → tHo S B nm t = true
theorem l_M_hin2 {r : Nat} {nm : Nat → Int32} (hnr : ∀ k, k < 8 → rg B (nm k)) {I0 : Nat → Nat → Int32} (hQ1 : tAl S B nm → ∀ I', FRW I0 I' → Q (some (.int (nI r))) (aw_s I' L D)) (hK : ¬ tAl S B nm → ∀ I', FRW I0 I' → MIc S B T O I' → aw_z X (d + 4) y_M_holds Q 17 [some (.ref 69), some (.int (nI (r + 1))), none, none] [] (aw_s I' L D)) :
    ∀ (m t : Nat) (b : Bool) (I : Nat → Nat → Int32), t + m = cK S → MIc S B T O I → MLd nm I → FRW I0 I → (b = true ↔ ∀ i, i < t → tHo S B nm i = true) →
      aw_z X (d + 4) y_M_holds Q 34 [some (.ref 69), some (.int (nI r)), some (.int (p_b b)), some (.int (nI t))] [] (aw_s I L D) := by
  have bad : ∀ I, MIc S B T O I → FRW I0 I → ¬ tAl S B nm → aw_z X (d + 4) y_M_holds Q 58 [some (.ref 69), some (.int (nI r)), some (.int (p_b false)), none] [] (aw_s I L D) := fun I h f hn =>
    b_M_holds_58 (fun _ => by rw [nI_1]; exact hK hn I f h) (fun q => absurd rfl q)
  intro m
  induction m with
  | zero =>
    intro t b I e h hl f hb
    obtain ⟨hG, hC, hk, sz⟩ := id h
    have k20 := hG.2.1
    have et : t = cK S := by omega
    subst et
    have le : I 69 75 ≤ nI (cK S) := by rw [hC.1, nI_leI (by omega) (by omega)]; exact Nat.le_refl _
    refine b_M_holds_34 (fun _ => ?_) (fun q => absurd le q) (fun q => absurd le q)
    cases b with
    | false => exact bad I h f (fun x => by have := hb.mpr x; cases this)
    | true => exact b_M_holds_58 (fun q => absurd q (by decide)) (fun _ => hQ1 (hb.mp rfl) I f)
  | succ m ih =>
    intro t b I e h hl f hb
    obtain ⟨hG, hC, hk, sz⟩ := id h
    have k20 := hG.2.1
    have nle : ¬ I 69 75 ≤ nI t := by rw [hC.1, nI_leI (by omega) (by omega)]; omega
    refine b_M_holds_34 (fun q => absurd q nle) (fun _ q => ?_) (fun _ q => ?_)
    · cases b with
      | false => exact bad I h f (fun x => by have := hb.mpr (fun i hi => x i (by omega)); cases this)
      | true => exact absurd q (by decide)
    · cases b with
      | false => exact absurd rfl q
      | true =>
        refine c_M_holdsTest (d := d) (by omega) hnr h hl (fun I' fw => b_M_holds_51 ?_)
        rw [nI_1]
        refine ih (t + 1) _ I' (by omega) (h.fr (fw.m (L := L))) (hl.w fw) (f.tr fw) ⟨fun x i hi => ?_, fun x => x t (by omega)⟩
        by_cases g : i = t
        · subst g; exact x
        · exact hb.mp rfl i (by omega)
theorem l_M_holds {I0 : Nat → Nat → Int32} {P : Nat → Prop} (hP : P = fun r => tAl S B (rowNm B T (nI r))) (hQ : ∀ res, isFst P (2 ^ (B * (T + O))) res → ∀ I', MFr I0 I' L L → Q (some (.int res)) (aw_s I' L D)) :
    ∀ (m k : Nat) (I : Nat → Nat → Int32), k + m = 2 ^ (B * (T + O)) → MIc S B T O I → MFr I0 I L L → (∀ w, w < k → ¬ P w) →
      aw_z X (d + 4) y_M_holds Q 17 [some (.ref 69), some (.int (nI k)), none, none] [] (aw_s I L D) := by
  intro m
  induction m with
  | zero =>
    intro k I e h f hw
    have hR := rows_lt h.2.2.1
    refine b_M_holds_17 (c_M_rows h.2.2.1 h.2.2.2 (b_M_holds_22 (fun _ => hQ (-1) (Or.inr ⟨fun v hv => hw v (by omega), rfl⟩) I f) (fun q => absurd ?_ q)))
    rw [nI_leI (by omega) (by omega)]; omega
  | succ m ih =>
    intro k I e h f hw
    have hR := rows_lt h.2.2.1
    refine b_M_holds_17 (c_M_rows h.2.2.1 h.2.2.2 (b_M_holds_22 (fun q => ?_) (fun _ => c_M_lay (d := d + 2) h (fun I1 m1 h1 l1 => b_M_holds_30 ?_))))
    · rw [nI_leI (by omega) (by omega)] at q; omega
    · refine l_M_hin2 (d := d) (I0 := I1) (fun k _ => rowNm_rg h.2.2.1.2.1 k) (fun a I' fw => hQ (nI k) (Or.inl ⟨k, by omega, by rw [hP]; exact a, hw, rfl⟩) I' (f.tr (m1.tr fw.m))) (fun a I' fw h' => ih (k + 1) I' (by omega) h' (f.tr (m1.tr fw.m)) (fun w hw' => ?_)) (cK S) 0 true I1 (by omega) h1 l1 FRW.rf ⟨fun _ i hi => absurd hi (Nat.not_lt_zero i), fun _ => rfl⟩
      by_cases g : w = k
      · subst g; rw [hP]; exact a
      · exact hw w (by omega)
end MCLM
