/-! PART 9u: the class's claim; which of its tests do not hold of a row -/
/-- the class's code holds a claim -/
def KCl (S : PT) (c : Nat) (I : Nat → Nat → Int32) : Prop := CodeC (cP S) (cn S) c I ∧ I c 9 = nI (cK S) ∧ ∀ j, j < cK S → I (c + 4) j = nI (cL S j)
theorem KCl.fr {S : PT} {c : Nat} {I I' : Nat → Nat → Int32} (h : KCl S c I) (hI : ∀ o, c ≤ o → o ≤ c + 4 → I' o = I o) : KCl S c I' := by
  obtain ⟨a1, a2, a3⟩ := h
  have e := fun k hk => hI (c + k) (Nat.le_add_right _ _) (Nat.add_le_add_left (m := 4) hk c)
  have e0 : I' c = I c := e 0 (by decide)
  exact ⟨a1.fr (by rw [e0]) (e 1 (by decide)) (e 2 (by decide)), by rw [e0]; exact a2, fun j hj => by rw [e 4 (by decide)]; exact a3 j hj⟩
theorem CG.lt {S : PT} (h : CG S) {t : Nat} (ht : t < cK S) : cL S t < cX S t ∧ cX S t ≤ cn S ∧ cX S t ≤ 600 ∧ t ≤ cL S t := by
  obtain ⟨-, -, h6, -, h, -⟩ := h
  obtain ⟨a1, a2, a3, -⟩ := h t ht
  exact ⟨a2, a3, by omega, a1⟩
theorem KP.cl {c : Nat} {T : TD} {S : PT} {I : Nat → Nat → Int32} {L : Nat → Nat → Int64} (h : KP c T S I L) (g : CG S) : KCl S c I := by
  obtain ⟨-, a1, a2, a3, a4, a5, a6, a7, a8, a9, a10, -⟩ := h
  have h6 := g.2.2.1
  have em : min (cn S) 600 = cn S := by omega
  rw [em] at a1 a8
  refine ⟨CodeC.all a1 a8, a6, fun j hj => ?_⟩
  have := g.lt hj
  rw [a10 j hj]
  exact congrArg nI (by omega)
section KCLM
variable {X : aw_X} {d : Nat} {Q : Option Value → aw_H → Prop} {I : Nat → Nat → Int32} {L : Nat → Nat → Int64} {D : Nat → Nat} {S : PT} {c B T O : Nat}
theorem c_AW_claim {bt : Nat → Int32} {z : Nat} (hT : KTp I bt z) (h5 : D 5 ∈ aw_codes)
    (hok : ∀ T ps S I' L', isToks bt z T.1 ps (tK T) (tV T) (tP T) → tFul T → rdC T PT0 = .ok S → CG S → ti S ≤ T.1 → KCl S (D 5) I' → FRP (D 5) I I' L L' → I' 0 9 = 0 → Q (some (.int (nI (cK S)))) (aw_s I' L' (va_up (va_up (va_up D 6 (D 5)) 4 (D 5)) 5 (D 4))))
    (her : ∀ T ps e I' L', isToks bt z T.1 ps (tK T) (tV T) (tP T) → tFul T → rdC T PT0 = .error e → e.2 ≤ T.1 → FRP (D 5) I I' L L' → I' 0 9 = e.1 → Q (some (.int (-1 - nI (tP T e.2)))) (aw_s I' L' (va_up D 6 (D 5)))) :
    aw_m X (d + 203) y_AW_claim [.ref 0] (aw_s I L D) Q := by
  obtain ⟨b1, b2⟩ := codes_bd h5
  refine aw_go rfl rfl (b_AW_claim_0 rfl (k_restart (d := d + 189) h5 hT (fun I1 L1 T0 ps a1 a2 a3 a4 => b_AW_claim_11 ?_)))
  obtain ⟨T, hTe⟩ : ∃ T, T = fulT T0 := ⟨_, rfl⟩
  have tk : isToks bt z T.1 ps (tK T) (tV T) (tP T) := by rw [hTe]; exact fulT_toks a1
  have tf : tFul T := by rw [hTe]; exact fulT_ful a1
  have kp : KP (D 5) T PT0 I1 L1 := by rw [hTe]; exact a2.ful
  clear hTe a1 a2
  have dk : (va_up D 6 (D 5)) 6 = D 5 := up_s _ _ _
  have d4 : (va_up D 6 (D 5)) 4 = D 4 := up_n _ _ (by decide)
  have d5 : (va_up D 6 (D 5)) 5 = D 5 := up_n _ _ (by decide)
  have tz : ∀ I2 : Nat → Nat → Int32, I2 2 = I1 2 → I2 2 1 = nI z := fun I2 h => by rw [h, a3.1 2 (by omega) (by omega)]; exact hT.1
  have z31 : z < 2 ^ 31 := by have := hT.2.1; omega
  refine k_tests h5 tf.1 dk (d + 202) (by omega) PT0 I1 L1 _ kp (fun v I2 L2 r => ?_)
  cases hR : rdC T PT0 with
  | error e =>
    rw [hR] at r
    obtain ⟨f, rfl, r2, r3, r4, -⟩ := r
    refine b_AW_claim_18 (c_AW_noteReading (z := z) (tz I2 (f.1 2 (by omega) (by decide) (by decide) (by decide))) z31 (b_AW_claim_23 d4 d5 h5 (fun q => absurd rfl q) (fun _ => ?_)))
    rw [show aw_u (aw_u I2 0 9 (I2 60 3)) 2 1 0 60 4 = nI (tP T e.2) by rw [au_o (by decide), au_o (by decide)]; exact r3]
    exact her T ps e _ L2 tk tf hR r4 (FRP.mk1 h5 a3 f) (by rw [au_o (by decide), au_s]; exact r2)
  | ok S =>
    rw [hR] at r
    obtain ⟨f, rfl, kp2⟩ := r
    have hi : ti S ≤ T.1 := kp2.1.1
    have cg : CG S := CG_rdC tf hR hi
    have cl := kp2.cl cg
    have ne : ∀ o, D 5 ≤ o → o ≤ D 5 + 4 → aw_u (aw_u I2 0 9 (I2 60 3)) 2 1 0 o = I2 o := fun o h1 h2 => by rw [au_o (by omega), au_o (by omega)]
    have cl2 := cl.fr ne
    refine b_AW_claim_18 (c_AW_noteReading (z := z) (tz I2 (f.1 2 (by omega) (by decide) (by decide))) z31 (b_AW_claim_23 d4 d5 h5 (fun _ => ?_) (fun q => absurd q (by decide))))
    rw [cl2.2.1]
    refine hok T ps S _ L2 tk tf hR cg hi cl2 (FRP.mk1 h5 a3 f.e) ?_
    rw [au_o (by decide), au_s, f.1 60 (by omega) (by decide) (by decide)]
    exact a4
/-- what the working out of a test leaves -/
def KG (I I' : Nat → Nat → Int32) : Prop := (∀ o, o ≠ 4 → o ≠ 7 → I' o = I o) ∧ ∀ k, k ≠ 4 → k ≠ 15 → k ≠ 16 → I' 4 k = I 4 k
theorem KG.rf : KG I I := ⟨fun _ _ _ => rfl, fun _ _ _ _ => rfl⟩
theorem KF.g {I I' : Nat → Nat → Int32} (h : KF I I') : KG I I' := ⟨h.1, fun k a _ _ => h.2 k a⟩
theorem KG.tr {I I' I'' : Nat → Nat → Int32} (a : KG I I') (b : KG I' I'') : KG I I'' := ⟨fun o h1 h2 => (b.1 o h1 h2).trans (a.1 o h1 h2), fun k h1 h2 h3 => (b.2 k h1 h2 h3).trans (a.2 k h1 h2 h3)⟩
theorem l_K_ev {nm : Nat → Int32} {t : Nat} (hG : CG S) (hc : c ∈ aw_codes) (hC : KCl S c I) (ht : t < cK S) (h2 : 2 ≤ B) (h6 : B ≤ 6) (hnr : ∀ k, k < 8 → rg B (nm k)) (hg : I 4 7 = mk B) (hn : ∀ k, k < 8 → I 5 k = nm k) (hcl : ∀ k, k < 8 → I 6 k = 0)
    {res : Except Int32 (List Int32)}
    (hok : ∀ v I', res = .ok [v] → (v = 0 ∨ v = 1) → KG I I' → I' 4 15 = -1 → KS I' [v] → Q (some (.int (nI (cX S t - 1)))) (aw_s I' L D))
    (her : ∀ e I' u, res = .error e → KG I I' → I' 4 15 ≠ -1 → Q (some (.int u)) (aw_s I' L D)) :
    ∀ (m pc : Nat) (stk : List Int32) (I1 : Nat → Nat → Int32), pc + m = cX S t - 1 → cL S t ≤ pc → p_ty B (cT S pc) stk → KS I1 stk → KG I I1 → I1 4 15 = -1 → p_ev (cP S) (mk B) nm (fun _ => 0) m pc stk = res →
      aw_z X (d + 3) y_Mc_workOut Q 2 [some (.ref 4), some (.ref c), none, some (.int (nI pc)), none] [] (aw_s I1 L D) := by
  obtain ⟨b1, b2⟩ := codes_bd hc
  obtain ⟨x1, x2, x3, x4⟩ := hG.lt ht
  have hcd : ∀ I1, KG I I1 → CodeC (cP S) (cn S) c I1 := fun I1 f => (hC.fr (fun o h1 h2 => f.1 o (by omega) (by omega))).1
  intro m
  induction m with
  | zero =>
    intro pc stk I1 e hpc hty hs f h15 hr
    have epc : pc = cX S t - 1 := by omega
    obtain ⟨-, -, -, a4, -, a6, -⟩ := hG.2.2.2.2.1 t ht
    rw [← epc] at a4 a6
    rw [a6] at hty
    obtain ⟨v, st, rfl, hv, hty2⟩ := p_ty1 hty
    have := p_ty0 hty2
    subst this
    have hv : v = 0 ∨ v = 1 := by rwa [if_pos rfl] at hv
    obtain ⟨n, C1, hmn, hpm, C3, C4⟩ := (hcd I1 f).lt (j := pc) (by omega) (by rw [a4]; decide)
    have n600 : n ≤ 600 := Nat.le_trans hmn hG.2.2.1
    have nle : ¬ I1 c 4 ≤ nI pc := by rw [C1, nI_leI (by omega) (by omega)]; omega
    have c13 : ¬ nI (opC 33) ≤ (13 : Int32) := by decide
    refine b_Mc_workOut_2 hc (fun q => absurd q nle) (fun _ => c_Cd_opAt hc C1 (by omega) hpm ?_)
    rw [C3, a4]
    refine b_Mc_workOut_15 hc (fun q => absurd q c13) (fun q => absurd q c13) (fun q => absurd q c13) (fun q => absurd q c13) (fun _ => ?_)
    rw [epc]
    exact hok v I1 (by rw [← hr]; rfl) hv f h15 hs
  | succ m ih =>
    intro pc stk I1 e hpc hty hs f h15 hr
    obtain ⟨a1, a2, a3, a4, a5, a6, a7⟩ := hG.2.2.2.2.1 t ht
    have ho := a7 pc hpc (by omega)
    have hp := hG.2.2.2.2.2 t pc ht hpc (by omega)
    have hlen : stk.length ≤ 30 := by rw [p_ty_len hty]; exact hp.1
    have g7 : I1 4 7 = mk B := by rw [f.2 7 (by decide) (by decide) (by decide)]; exact hg
    have gn : ∀ k, k < 8 → I1 5 k = nm k := fun k hk => by rw [f.1 5 (by decide) (by decide)]; exact hn k hk
    have gc : ∀ k, k < 8 → I1 6 k = (fun _ => (0 : Int32)) k := fun k hk => by rw [f.1 6 (by decide) (by decide)]; exact hcl k hk
    have hgood := p_work_good (g := mk B) (nm := nm) (cl := fun _ => 0) h6 rfl hp ho.1 ho.2 hty hnr (fun _ _ => rg_0 B)
    refine l_Mc_work1 (nm := nm) (cl := fun _ => 0) hc (hcd I1 f) hG.2.2.1 (by omega) h6 g7 h15 hp ho hty gn gc hs hlen (fun st I2 hw k s => ?_) (fun e I2 he hw k => ?_)
    · rcases hgood with ⟨st', w1, w2, -⟩ | w | w
      · rw [hw] at w1
        cases w1
        refine ih (pc + 1) st I2 (by omega) (by omega) w2 s (f.tr k.g) (by rw [k.2 15 (by decide)]; exact h15) ?_
        rw [← hr, p_ev, hw]
      · rw [hw] at w; cases w
      · rw [hw] at w; cases w
    · refine her e _ (nI pc) (by rw [← hr, p_ev, hw]) ((f.tr k.g).tr ⟨fun o a _ => by rw [au_o a, au_o a], fun x a b c => by rw [au_k c, au_k b]⟩) ?_
      rw [au_k (by decide), au_s]
      rcases he with rfl | rfl <;> decide
/-- the class is ready to look at its claim -/
def KIc (S : PT) (c B T O : Nat) (I : Nat → Nat → Int32) : Prop := CG S ∧ c ∈ aw_codes ∧ KCl S c I ∧ SZok B T O ∧ I 1 0 = nI B ∧ I 1 1 = nI T ∧ I 1 2 = nI O
theorem KIc.fr {I I' : Nat → Nat → Int32} {L L' : Nat → Nat → Int64} (h : KIc S c B T O I) (f : KFr I I' L L') : KIc S c B T O I' := by
  obtain ⟨a, b, k, e, s1, s2, s3⟩ := h
  obtain ⟨b1, b2⟩ := codes_bd b
  have e1 := f.1 1 (by decide) (by decide) (by decide) (by decide) (by decide) (by decide)
  exact ⟨a, b, k.fr (fun o x y => f.1 o (by omega) (by omega) (by omega) (by omega) (by omega) (by omega)), e, by rw [e1]; exact s1, by rw [e1]; exact s2, by rw [e1]; exact s3⟩
theorem KG.k {L : Nat → Nat → Int64} {I I' : Nat → Nat → Int32} (h : KG I I') : KFr I I' L L := ⟨fun o a _ _ b _ _ => h.1 o a b, h.2 19 (by decide) (by decide) (by decide), fun _ _ _ => rfl⟩
theorem KLR.k {r : Nat} {I I' : Nat → Nat → Int32} {L : Nat → Nat → Int64} (h : KLR B T r I I') : KFr I I' L (aw_u L 4 14 0) :=
  ⟨fun o a b e _ _ _ => h.1 o a b e, h.2.1 19 (by decide) (by decide) (by decide) (by decide) (by decide) (by decide) (by decide) (by decide) (by decide), fun o a _ => au_o a⟩
theorem l_K_ft {r : Nat} (hr : r < 4096) {I0 : Nat → Nat → Int32} {L0 : Nat → Nat → Int64} (hQ : ∀ I' L', KFr I0 I' L0 L' → Q (some (.int (nI (fBt (tHo S B (rowNm B T (nI r))) (cK S))))) (aw_s I' L' D)) :
    ∀ (m t : Nat) (I : Nat → Nat → Int32) (L : Nat → Nat → Int64), t + m = cK S → KIc S c B T O I → KFr I0 I L0 L →
      aw_z X (d + 4) y_Mc_failingTests Q 5 [some (.ref 4), some (.ref c), some (.int (nI r)), some (.int (nI (fBt (tHo S B (rowNm B T (nI r))) t))), some (.int (nI t))] [] (aw_s I L D) := by
  intro m
  induction m with
  | zero =>
    intro t I L e h f
    obtain ⟨hG, hc, hC, hk, s1, s2, s3⟩ := id h
    have k20 := hG.2.1
    have et : t = cK S := by omega
    subst et
    exact b_Mc_failingTests_5 hc (fun _ => hQ I L f) (fun q => absurd (by rw [hC.2.1, nI_leI (by omega) (by omega)]; exact Nat.le_refl _) q)
  | succ m ih =>
    intro t I L e h f
    obtain ⟨hG, hc, hC, hk, s1, s2, s3⟩ := id h
    have k20 := hG.2.1
    have ht : t < cK S := by omega
    obtain ⟨x1, x2, x3, x4⟩ := hG.lt ht
    have nle : ¬ I c 9 ≤ nI t := by rw [hC.2.1, nI_leI (by omega) (by omega)]; omega
    refine b_Mc_failingTests_5 hc (fun q => absurd q nle) (fun _ => c_Mc_layRow (d := d + 2) hk hr s1 s2 (fun I1 hl => b_Mc_failingTests_19 hc ?_))
    have f1 : KFr I I1 L (aw_u L 4 14 0) := hl.k
    have h1 := h.fr f1
    obtain ⟨-, -, hC1, -, -, -, -⟩ := id h1
    obtain ⟨l1, l2, l3, l4, l5, l6, l7, l8, l9, l10, l11, l12⟩ := hl
    refine c_Cd_testPlace (d := d + 2) hc hC1.2.1 k20 ht ?_
    rw [hC1.2.2 t ht]
    refine b_Mc_failingTests_27 ?_
    have step1 : tHo S B (rowNm B T (nI r)) t = true → ∀ I2 L2, KFr I I2 L L2 → aw_z X (d + 4) y_Mc_failingTests Q 5 [some (.ref 4), some (.ref c), some (.int (nI r)), some (.int (nI (fBt (tHo S B (rowNm B T (nI r))) t))), some (.int (nI t + 1))] [] (aw_s I2 L2 D) := fun hH I2 L2 f2 => by
      have g := ih (t + 1) I2 L2 (by omega) (h.fr f2) (f.tr f2)
      rw [fBt, if_pos hH] at g
      rw [nI_1]; exact g
    have step0 : ¬ tHo S B (rowNm B T (nI r)) t = true → ∀ I2 L2, KFr I I2 L L2 → aw_z X (d + 4) y_Mc_failingTests Q 46 [some (.ref 4), some (.ref c), some (.int (nI r)), some (.int (nI (fBt (tHo S B (rowNm B T (nI r))) t))), some (.int (nI t))] [] (aw_s I2 L2 D) := fun hH I2 L2 f2 => by
      refine b_Mc_failingTests_46 ?_
      have g := ih (t + 1) I2 L2 (by omega) (h.fr f2) (f.tr f2)
      rw [fBt, if_neg hH] at g
      rw [nI_1, show (1 : Int32) = nI 1 from rfl, shl_nI (by omega), Nat.one_mul, nI_or, fBt_or]; exact g
    have hH : ∀ v, p_ev (cP S) (mk B) (rowNm B T (nI r)) (fun _ => 0) (cX S t - 1 - cL S t) (cL S t) [] = .ok [v] → tHo S B (rowNm B T (nI r)) t = decide (v = 1) := fun v hv => by
      unfold tHo; rw [hv]
    have hX : ∀ e, p_ev (cP S) (mk B) (rowNm B T (nI r)) (fun _ => 0) (cX S t - 1 - cL S t) (cL S t) [] = .error e → ¬ tHo S B (rowNm B T (nI r)) t = true := fun v hv => by
      unfold tHo; rw [hv]; exact Bool.false_ne_true
    have a5 := (hG.2.2.2.2.1 t ht).2.2.2.2.1
    refine aw_go rfl rfl (b_Mc_workOut_0 (l_K_ev (d := d) (B := B) (nm := rowNm B T (nI r)) hG hc hC1 ht hk.1 hk.2.1 (fun k _ => rowNm_rg hk.2.1 k) l3 l5 l6 (fun v I2 hv h01 f2 e15 s => b_Mc_failingTests_30 (fun q => absurd e15 q) (fun _ => c_Mc_pop s (fun I3 f3 _ => ?_))) (fun e I2 u hv f2 n15 => b_Mc_failingTests_30 (fun _ => step0 (hX e hv) I2 _ (f1.tr f2.k)) (fun q => absurd q n15)) (cX S t - 1 - cL S t) (cL S t) [] I1 (by omega) (Nat.le_refl _) (by rw [a5]; trivial) ⟨l7, trivial, Nat.zero_le _⟩ KG.rf l12 rfl))
    rcases h01 with rfl | rfl
    · exact b_Mc_failingTests_43 (fun q => absurd rfl q) (fun _ => step0 (by rw [hH _ hv]; decide) I3 _ (f1.tr (f2.k.tr f3.g.k)))
    · exact b_Mc_failingTests_43 (fun _ => step1 (by rw [hH _ hv]; decide) I3 _ (f1.tr (f2.k.tr f3.g.k))) (fun q => absurd q (by decide))
theorem c_Mc_failing {r : Nat} (hr : r < 4096) (h : KIc S c B T O I) (hQ : ∀ I' L', KFr I I' L L' → Q (some (.int (nI (fBt (tHo S B (rowNm B T (nI r))) (cK S))))) (aw_s I' L' D)) : aw_m X (d + 4) y_Mc_failingTests [.ref 4, .ref c, .int (nI r)] (aw_s I L D) Q :=
  aw_go rfl rfl (b_Mc_failingTests_0 (l_K_ft (d := d) (I0 := I) (L0 := L) hr hQ (cK S) 0 I L (by omega) h KFr.rf))
end KCLM
