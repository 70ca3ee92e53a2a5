/-! PART 53: the class's machine: its loop is the machine's -/
theorem opC_gt : ∀ o, o < 26 → ¬ (2 ≤ o ∧ o ≤ 14) → 14 ≤ opC o := by decide +kernel
theorem v_fall {t a b c M : Nat} (h1 : a < b) (h2 : b ≤ c) (h3 : t + c ≤ M) : t + 1 + a ≤ M := by omega
section KLOOP
variable {X : aw_X} {d : Nat} {Q : Option Value → aw_H → Prop} {D : Nat → Nat}
theorem l_workOut {P : Nat → Nat × Int32} {n st0 c : Nat} {ty : Nat → List Bool} {sg : Nat → Nat} {B T O F r : Nat} {rule : Int32} {I0 : Nat → Nat → Int32} {L0 : Nat → Nat → Int64} (hW : p_WF P n st0 ty sg) (hC : RunK P n c B T O F r rule I0) (han : ∀ k, rg B (ansF B T O (nI r) rule k)) {E : PE}
    (he : ∀ I' L' v, KRE I0 L0 I' L' E → Q (some (.int v)) (aw_s I' L' D)) :
    ∀ (N : Nat) (S : PS) (I : Nat → Nat → Int32) (L : Nat → Nat → Int64), p_run P (mk B) F (ansF B T O (nI r) rule) N S = some E → p_good P n ty sg B F S → KR B T r rule I0 L0 I L S →
      (∀ (N' : Nat) (S' : PS) (I' : Nat → Nat → Int32) (L' : Nat → Nat → Int64), p_run P (mk B) F (ansF B T O (nI r) rule) N' S' = some E → p_good P n ty sg B F S' → p_V P n S' ≤ p_V P n S → N' ≤ N → ¬ (2 ≤ (P S'.1).1 ∧ (P S'.1).1 ≤ 14) → KR B T r rule I0 L0 I' L' S' → Q (some (.int (nI S'.1))) (aw_s I' L' D)) →
      aw_z X (d + 3) y_Mc_workOut Q 2 [some (.ref 4), some (.ref c), none, some (.int (nI S.1)), none] [] (aw_s I L D) := by
  intro N
  induction N with
  | zero => intro S I L h; cases h
  | succ N ih =>
    intro S I L hrun hG hM hk
    obtain ⟨pc, stk, cs, nm, cl, sp, bg, ds, ak, ys, tr⟩ := S
    have hstep := p_step_good (g := mk B) hW hC.2.2.2.1.2.1 rfl han hG
    obtain ⟨hfr, hst, hS, t1, t2, t3, t4, t5⟩ := id hM
    obtain ⟨r1, r2, r3, r4, r5, r6, r7, r8, r9, r10⟩ := id hC
    obtain ⟨g1, g2, g3, g4, g5, g6, g7, g8, g9, g10, g11, g12⟩ := id hG
    have hok := hW.2.2.2.2.2.2.2 pc g1
    have hn6 := hW.1
    have hCI := r2.same r1 hfr.1
    have i7 : I 4 7 = mk B := by rw [hfr.2.1 7 (by decide) (by decide) (by decide) (by decide) (by decide) (by decide) (by decide) (by decide)]; exact r8
    by_cases hs : 2 ≤ (P pc).1 ∧ (P pc).1 ≤ 14
    · have hlen : stk.length ≤ 30 := by rw [p_ty_len g2]; exact hok.1
      refine l_Mc_work1 (nm := nm) (cl := cl) r1 hCI hn6 g1 r4.2.1 i7 t4 hok hs g2 hst.1 hst.2.1 hS hlen (fun st I' hw k s => ?_) (fun e I' _ hw k => ?_)
      · have h := p_st_w (g := mk B) (F := F) (an := ansF B T O (nI r) rule) (cs := cs) (sp := sp) (bg := bg) (ds := ds) (ak := ak) (ys := ys) (tr := tr) hs hw
        have hrun' : p_run P (mk B) F (ansF B T O (nI r) rule) N (pc + 1, st, cs, nm, cl, sp, bg, ds, ak, ys, tr) = some E := by unfold p_run at hrun; rw [h] at hrun; exact hrun
        rcases hstep with ⟨S'', e1, e2, e3⟩ | ⟨E', e1, -⟩
        · rw [h] at e1; cases e1
          rw [if_pos hs] at e3
          refine ih (pc + 1, st, cs, nm, cl, sp, bg, ds, ak, ys, tr) I' L hrun' e2 ⟨hfr.kf k, hst.kf k, s, KT.kf (B := B) (T := T) (r := r) (rule := rule) (ak := ak) ⟨t1, t2, t3, t4, t5⟩ k⟩ (fun N' S' I2 L2 a1 a2 a3 a4 a5 a6 => hk N' S' I2 L2 a1 a2 (Nat.le_trans a3 e3.2) (Nat.le_succ_of_le a4) a5 a6)
        · rw [h] at e1; cases e1
      · have h := p_st_wx (g := mk B) (F := F) (an := ansF B T O (nI r) rule) (cs := cs) (sp := sp) (bg := bg) (ds := ds) (ak := ak) (ys := ys) (tr := tr) hs hw
        have hE : E = (e, sp, (pc, stk, cs, nm, cl, sp, bg, ds, ak, ys, tr)) := by unfold p_run at hrun; rw [h] at hrun; exact (Option.some.inj hrun).symm
        refine he _ _ _ ?_
        rw [hE, t3]
        exact KRE_end (hfr.kf k) (hst.kf k)
    · have nle : I c 4 ≤ nI pc → I c 4 = nI pc := fun q => by
        obtain ⟨m, h1, h2, -⟩ := hCI
        have hm6 : m ≤ 600 := by rcases h2 with z | ⟨z, -⟩ <;> omega
        rw [h1, nI_leI (Nat.lt_of_le_of_lt hm6 (by decide)) (Nat.lt_of_lt_of_le g1 (Nat.le_trans hn6 (by decide)))] at q
        rw [h1]
        exact congrArg nI (by rcases h2 with z | ⟨z, -⟩ <;> omega)
      have hgt := opC_gt _ (Nat.lt_succ_of_le (p_op_lt hok)) hs
      have hlt := opC_lt _ (Nat.lt_succ_of_le (p_op_lt hok))
      have c13 : ¬ nI (opC (P pc).1) ≤ (13 : Int32) := by
        have : (nI (opC (P pc).1) ≤ (13 : Int32)) = (opC (P pc).1 ≤ 13) := nI_le' (b := 13) (Nat.lt_trans hlt (by decide)) (by decide)
        rw [this]
        exact Nat.not_le.mpr hgt
      refine b_Mc_workOut_2 r1 (fun q => by rw [nle q]; exact hk _ _ I L hrun hG (Nat.le_refl _) (Nat.le_refl _) hs hM) (fun _ => c_opC r1 hCI hn6 g1 ?_)
      exact b_Mc_workOut_15 r1 (fun q => absurd q c13) (fun q => absurd q c13) (fun q => absurd q c13) (fun q => absurd q c13) (fun _ => hk _ _ I L hrun hG (Nat.le_refl _) (Nat.le_refl _) hs hM)
theorem l_launch {P : Nat → Nat × Int32} {n st0 c : Nat} {ty : Nat → List Bool} {sg : Nat → Nat} {B T O F r : Nat} {rule : Int32} {I0 : Nat → Nat → Int32} {L0 : Nat → Nat → Int64} (hW : p_WF P n st0 ty sg) (hC : RunK P n c B T O F r rule I0) (han : ∀ k, rg B (ansF B T O (nI r) rule k)) {E : PE} (hE : ¬ E.1 = -1)
    (hQ : ∀ I' L', KRE I0 L0 I' L' E → Q (some (.int E.1)) (aw_s I' L' D)) :
    ∀ (K N : Nat) (S : PS) (I : Nat → Nat → Int32) (L : Nat → Nat → Int64) (t : Nat), N ≤ K → p_run P (mk B) F (ansF B T O (nI r) rule) N S = some E → p_good P n ty sg B F S → KR B T r rule I0 L0 I L S → t + p_V P n S ≤ 300000 →
      aw_z X (d + 4) y_Mc_launchAnswered Q 25 [some (.ref 4), some (.ref c), none, none, none, some (.int (nI S.1)), some (.int (nI t))] [] (aw_s I L D) := by
  have done : ∀ (I' : Nat → Nat → Int32) (L' : Nat → Nat → Int64) (s v : Int32), KRE I0 L0 I' L' E → aw_z X (d + 4) y_Mc_launchAnswered Q 25 [some (.ref 4), some (.ref c), none, none, none, some (.int s), some (.int v)] [] (aw_s I' L' D) := by
    intro I' L' s v h
    have h15 : I' 4 15 = E.1 := by
      obtain ⟨e, sp, pc, stk, cs, nm, cl, sp0, bg, ds, ak, ys, tr⟩ := E
      exact h.2.2.1
    have hq := hQ I' L' h
    rw [← h15] at hq hE
    exact b_Mc_launchAnswered_25 (fun _ => hq) (fun _ _ => hq) (fun _ q => absurd q hE)
  intro K
  induction K with
  | zero =>
    intro N S I L t hN h
    have : N = 0 := Nat.le_zero.mp hN
    subst this
    cases h
  | succ K ih =>
    intro N S I L t hN hrun hG hM hV
    have ht : t ≤ 300000 := Nat.le_trans (Nat.le_add_right _ _) hV
    have n6 : ¬ (1000000 : Int32) ≤ nI t := by
      have : ((1000000 : Int32) ≤ nI t) = (1000000 ≤ t) := nI_le' (a := 1000000) (by decide) (Nat.lt_of_le_of_lt ht (by decide))
      rw [this]
      exact Nat.not_le.mpr (Nat.lt_of_le_of_lt ht (by decide))
    have k15 : ∀ {S : PS} {I : Nat → Nat → Int32} {L : Nat → Nat → Int64}, KR B T r rule I0 L0 I L S → I 4 15 = -1 := by
      intro S I L h
      obtain ⟨pc, stk, cs, nm, cl, sp, bg, ds, ak, ys, tr⟩ := S
      exact h.2.2.2.2.2.2.1
    refine b_Mc_launchAnswered_25 (fun q => absurd q n6) (fun _ q => absurd (k15 hM) q) (fun _ _ => ?_)
    refine aw_go rfl rfl (b_Mc_workOut_0 (l_workOut hW hC han (fun I' L' v h => ?_) N S I L hrun hG hM (fun N' S' I' L' a1 a2 a3 a4 a5 a6 => ?_)))
    · have h15 : I' 4 15 = E.1 := by
        obtain ⟨e, sp, pc, stk, cs, nm, cl, sp0, bg, ds, ak, ys, tr⟩ := E
        exact h.2.2.1
      exact b_Mc_launchAnswered_47 (fun _ => done I' L' _ _ h) (fun q => absurd (h15.symm.trans q) hE)
    · refine b_Mc_launchAnswered_47 (fun q => absurd (k15 a6) q) (fun _ => ?_)
      obtain ⟨pc, stk, cs, nm, cl, sp, bg, ds, ak, ys, tr⟩ := S'
      cases N' with
      | zero => cases a1
      | succ N' =>
        have hstep := p_step_good (g := mk B) hW hC.2.2.2.1.2.1 rfl han a2
        refine c_Mc_act hW hC a2 a5 a6 (fun S2 I2 L2 h k => b_Mc_launchAnswered_64 ?_) (fun e sp' S2 I2 L2 v h k => b_Mc_launchAnswered_64 ?_)
        · have hrun' : p_run P (mk B) F (ansF B T O (nI r) rule) N' S2 = some E := by unfold p_run at a1; rw [h] at a1; exact a1
          rcases hstep with ⟨S'', e1, e2, e3⟩ | ⟨E', e1, -⟩
          · rw [h] at e1; cases e1
            rw [if_neg a5] at e3
            rw [nI_1]
            refine ih N' S2 I2 L2 (t + 1) ?_ hrun' e2 k ?_
            · exact Nat.le_of_succ_le_succ (Nat.le_trans a4 hN)
            · exact v_fall e3 a3 hV
          · rw [h] at e1; cases e1
        · have hE2 : E = (e, sp', S2) := by unfold p_run at a1; rw [h] at a1; exact (Option.some.inj a1).symm
          exact done I2 L2 _ _ (by rw [hE2]; exact k)
end KLOOP
