/-! PART 52: the class's machine: one act is one step of the machine -/
theorem opC_lt : ∀ o, o < 26 → opC o < 64 := by decide +kernel
section KACT2
variable {X : aw_X} {d : Nat} {Q : Option Value → aw_H → Prop} {I : Nat → Nat → Int32} {L : Nat → Nat → Int64} {D : Nat → Nat}
theorem c_Mc_act {P : Nat → Nat × Int32} {n st0 c : Nat} {ty : Nat → List Bool} {sg : Nat → Nat} {B T O F r : Nat} {rule : Int32} {I0 : Nat → Nat → Int32} {L0 : Nat → Nat → Int64} (hW : p_WF P n st0 ty sg) (hC : RunK P n c B T O F r rule I0)
    {pc : Nat} {stk : List Int32} {cs : List Nat} {nm cl : Nat → Int32} {sp : Int32} {bg : Nat} {ds : List Bool} {ak : Nat} {ys : Nat → Nat} {tr : List (Nat × (Nat → Int32))}
    (hG : p_good P n ty sg B F (pc, stk, cs, nm, cl, sp, bg, ds, ak, ys, tr)) (hs : ¬ (2 ≤ (P pc).1 ∧ (P pc).1 ≤ 14)) (hM : KR B T r rule I0 L0 I L (pc, stk, cs, nm, cl, sp, bg, ds, ak, ys, tr))
    (go : ∀ (S' : PS) I' L', p_step P (mk B) F (ansF B T O (nI r) rule) (pc, stk, cs, nm, cl, sp, bg, ds, ak, ys, tr) = .inl S' → KR B T r rule I0 L0 I' L' S' → Q (some (.int (nI S'.1))) (aw_s I' L' D))
    (fin : ∀ (e sp' : Int32) (S' : PS) I' L' (v : Int32), p_step P (mk B) F (ansF B T O (nI r) rule) (pc, stk, cs, nm, cl, sp, bg, ds, ak, ys, tr) = .inr (e, sp', S') → KRE I0 L0 I' L' (e, sp', S') → Q (some (.int v)) (aw_s I' L' D)) :
    aw_m X (d + 3) y_Mc_act [.ref 4, .ref c, .int (nI pc)] (aw_s I L D) Q := by
  obtain ⟨r1, r2, r3, r4, r5, r6, r7, r8, r9, r10⟩ := hC
  obtain ⟨hfr, hst, hS, hT⟩ := hM
  have hT : KT B T r rule cs sp ak I := hT
  obtain ⟨t1, t2, t3, t4, t5⟩ := id hT
  obtain ⟨g1, g2, g3, g4, g5, g6, g7, g8, g9, g10, g11, g12⟩ := id hG
  obtain ⟨w1, w2, w3, w4, w0, w5, w6, w7⟩ := id hW
  have hok := w7 pc g1
  have hop := p_op_lt hok
  have hcl : cs.length ≤ 4 := by have := chain_len g3; omega
  obtain ⟨f1, f2, f3, f4⟩ := id hfr
  obtain ⟨s1, s2, s3, s4, s5, s6, s7⟩ := id hst
  have hCI := r2.same r1 f1
  refine aw_go rfl rfl (b_Mc_act_0 r1 (c_argC r1 hCI w1 g1 (b_Mc_act_5 r1 (c_opC r1 hCI w1 g1 ?_))))
  have c0 := f2
  have i9 : I 4 9 = rule := by rw [f2 9 (by decide) (by decide) (by decide) (by decide) (by decide) (by decide) (by decide) (by decide)]; exact r9
  have i7 : I 4 7 = mk B := by rw [f2 7 (by decide) (by decide) (by decide) (by decide) (by decide) (by decide) (by decide) (by decide)]; exact r8
  have i10 : I 4 10 = nI F := by rw [f2 10 (by decide) (by decide) (by decide) (by decide) (by decide) (by decide) (by decide) (by decide)]; exact r10
  have i19 : I 4 19 = I0 4 19 := f2 19 (by decide) (by decide) (by decide) (by decide) (by decide) (by decide) (by decide) (by decide)
  have i1 : I 1 0 = nI B := by rw [f1 1 (by decide) (by decide) (by decide) (by decide) (by decide) (by decide)]; exact r3
  have hw64 : opC (P pc).1 < 64 := opC_lt _ (Nat.lt_succ_of_le hop)
  have B0 := @b_Mc_act_11 X (d + 2) Q I L D (nI pc) (P pc).2 (nI (opC (P pc).1))
  obtain ⟨w, hw⟩ : ∃ w, w = opC (P pc).1 := ⟨_, rfl⟩
  rw [← hw] at B0 hw64 ⊢
  have e20 : (nI w = (20 : Int32)) = (w = 20) := eqI (k := 20) hw64 (by decide)
  have e21 : (nI w = (21 : Int32)) = (w = 21) := eqI (k := 21) hw64 (by decide)
  have e22 : (nI w = (22 : Int32)) = (w = 22) := eqI (k := 22) hw64 (by decide)
  have e23 : (nI w = (23 : Int32)) = (w = 23) := eqI (k := 23) hw64 (by decide)
  have e24 : (nI w = (24 : Int32)) = (w = 24) := eqI (k := 24) hw64 (by decide)
  have e25 : (nI w = (25 : Int32)) = (w = 25) := eqI (k := 25) hw64 (by decide)
  have e26 : (nI w = (26 : Int32)) = (w = 26) := eqI (k := 26) hw64 (by decide)
  have e27 : (nI w = (27 : Int32)) = (w = 27) := eqI (k := 27) hw64 (by decide)
  have e28 : (nI w = (28 : Int32)) = (w = 28) := eqI (k := 28) hw64 (by decide)
  have e29 : (nI w = (29 : Int32)) = (w = 29) := eqI (k := 29) hw64 (by decide)
  have e30 : (nI w = (30 : Int32)) = (w = 30) := eqI (k := 30) hw64 (by decide)
  have e31 : (nI w = (31 : Int32)) = (w = 31) := eqI (k := 31) hw64 (by decide)
  simp only [e20, e21, e22, e23, e24, e25, e26, e27, e28, e29, e30, e31] at B0
  clear e20 e21 e22 e23 e24 e25 e26 e27 e28 e29 e30 e31
  have hL := hok.2.2.2
  have cons1 : ∀ {b : Bool} {t : List Bool}, ty pc = b :: t → ∃ v st, stk = v :: st ∧ (if b = true then (v = 0 ∨ v = 1) else rg B v) ∧ p_ty B t st := fun e => p_ty1 (by rw [e] at g2; exact g2)
  -- a step begins
  have beg : ∀ (j : Nat) (v2 : Int32), j < 60 → (P pc).2 = nI j → ((P pc).1 = 0 ∧ v2 = 0 ∨ (P pc).1 = 1 ∧ v2 = 1) →
      ∀ Q2 : Option Value → aw_H → Prop, (∀ I' L', Q (some (.int (nI (pc + 1)))) (aw_s I' L' D) → Q2 none (aw_s I' L' D)) → (∀ I' L', (∀ v, Q (some (.int v)) (aw_s I' L' D)) → Q2 none (aw_s I' L' D)) → aw_m X (d + 2) y_Mc_beginStep [.ref 4, .int (P pc).2, .int v2] (aw_s I L D) Q2 := by
    intro j v2 hj hj2 ho Q2 hq1 hq2
    have frI : KRfr I0 (aw_u (aw_u I 4 11 (nI j)) 4 12 (nI (bg + 1))) L0 (if I 4 19 = 0 then L else aw_u L 9 bg (wdS j nm)) := by
      have a := (hfr.au (o := 4) (k := 11) (v := nI j) (Or.inl ⟨rfl, by decide⟩)).au (o := 4) (k := 12) (v := nI (bg + 1)) (Or.inl ⟨rfl, by decide⟩)
      split
      · exact a
      · exact a.al (Or.inr rfl)
    have stI : KRst I0 L0 nm cl (bg + 1) ds ys (tr ++ [(j, nm)]) (aw_u (aw_u I 4 11 (nI j)) 4 12 (nI (bg + 1))) (if I 4 19 = 0 then L else aw_u L 9 bg (wdS j nm)) := by
      refine ⟨fun k hk => by rw [au_o (by decide), au_o (by decide)]; exact s1 k hk, fun k hk => by rw [au_o (by decide), au_o (by decide)]; exact s2 k hk, au_s _ _ _ _, by rw [au_k (by decide), au_k (by decide)]; exact s4, ?_, fun k hk => by rw [au_o (by decide), au_o (by decide)]; exact s6 k hk, ?_⟩
      · split
        · exact s5
        · rw [au_o (by decide)]; exact s5
      · rw [i19]
        split
        · next h => rw [if_pos h] at s7; exact s7
        · next h => rw [if_neg h] at s7; rw [aw_u_eq, s7, trL_s, g10]
    have c2 : (nI ds.length < nI F) = (ds.length < F) := nI_lt' (by omega) (by omega)
    have h5 : ∀ S', p_step P (mk B) F (ansF B T O (nI r) rule) (pc, stk, cs, nm, cl, sp, bg, ds, ak, ys, tr) = .inr (5, (P pc).2, S') → S' = (pc, stk, cs, nm, cl, (P pc).2, bg + 1, ds, ak, ys, tr ++ [((P pc).2.toNatClampNeg, nm)]) → Q2 none (aw_s (aw_u (aw_u (aw_u (aw_u I 4 11 (nI j)) 4 12 (nI (bg + 1))) 4 15 5) 4 16 (nI j)) (if I 4 19 = 0 then L else aw_u L 9 bg (wdS j nm)) D) := by
      intro S' h e
      refine hq2 _ _ (fun v => fin _ _ _ _ _ v h ?_)
      rw [e, hj2, nI_clamp (show j < 2 ^ 31 by omega)]
      exact KRE_end frI stI
    have h1 : ∀ S', p_step P (mk B) F (ansF B T O (nI r) rule) (pc, stk, cs, nm, cl, sp, bg, ds, ak, ys, tr) = .inl S' → S' = (pc + 1, stk, cs, nm, cl, (P pc).2, bg + 1, ds, ak, ys, tr ++ [((P pc).2.toNatClampNeg, nm)]) → Q2 none (aw_s (aw_u (aw_u I 4 11 (nI j)) 4 12 (nI (bg + 1))) (if I 4 19 = 0 then L else aw_u L 9 bg (wdS j nm)) D) := by
      intro S' h e
      have := go S' (aw_u (aw_u I 4 11 (nI j)) 4 12 (nI (bg + 1))) (if I 4 19 = 0 then L else aw_u L 9 bg (wdS j nm)) h
      rw [e, hj2, nI_clamp (show j < 2 ^ 31 by omega)] at this
      exact hq1 _ _ (this ⟨frI, stI, KS_as hS (by rw [au_k (by decide), au_k (by decide)]) (by rw [au_o (by decide), au_o (by decide)]), by rw [au_o (by decide), au_o (by decide)]; exact t1, by rw [au_k (by decide), au_k (by decide)]; exact t2, by rw [au_k (by decide), au_s], by rw [au_k (by decide), au_k (by decide)]; exact t4, fun q => by rw [au_k (by decide), au_k (by decide)]; exact t5 q⟩)
    rw [hj2]
    refine c_Mc_beginStep (nm := nm) g6 s3 s1 (fun q q2 => ?_) (fun q => ?_)
    · rw [s4, i10, c2] at q2
      rcases ho with ⟨ho, rfl⟩ | ⟨ho, rfl⟩
      · exact h1 _ (p_st_0 ho q) rfl
      · have : ds.length < F := by rcases q2 with h | h; exact absurd h (by decide); exact h
        exact h1 _ (p_st_1 ho (by omega)) rfl
    · rw [s4, i10, c2] at q
      rcases ho with ⟨ho, rfl⟩ | ⟨ho, rfl⟩
      · have : 1000 < bg + 1 := by rcases q with h | h; exact h; exact absurd rfl h.1
        exact h5 _ (p_st_0x ho this) rfl
      · exact h5 _ (p_st_1x ho (by rcases q with h | h; exact Or.inl h; exact Or.inr (by omega))) rfl
  have fw : ∀ {o : Nat}, (P pc).1 = o → w = opC o := fun e => by rw [hw, e]
  have red : nI pc + 1 = nI (pc + 1) := nI_1 pc
  -- an end
  have stp : ∀ (h sp' : Int32) (S' : PS) (I' : Nat → Nat → Int32) (v : Int32), p_step P (mk B) F (ansF B T O (nI r) rule) (pc, stk, cs, nm, cl, sp, bg, ds, ak, ys, tr) = .inr (h, sp', S') → KF I I' → (S' = (pc, stk, cs, nm, cl, sp, bg, ds, ak, ys, tr)) → Q (some (.int v)) (aw_s (aw_u (aw_u I' 4 15 h) 4 16 sp') L D) := by
    intro h sp' S' I' v hp k e
    refine fin h sp' S' _ _ v hp ?_
    rw [e]
    exact KRE_end (hfr.kf k) (hst.kf k)
  split at hL
  · -- 0
    next e =>
    obtain ⟨h1, h2, j, hj, hj2⟩ := hL
    simp only [show w = 20 from fw e, Nat.reduceEqDiff, not_false_eq_true, not_true_eq_false, true_implies, false_implies, implies_true] at B0 ⊢
    exact B0 (beg j 0 hj hj2 (Or.inl ⟨e, rfl⟩) _ (fun I' L' h => b_Mc_act_78 (by rw [red]; exact h)) (fun I' L' h => b_Mc_act_78 (h _)))
  · -- 1
    next e =>
    obtain ⟨h1, h2, j, hj, hj2⟩ := hL
    simp only [show w = 21 from fw e, Nat.reduceEqDiff, not_false_eq_true, not_true_eq_false, true_implies, false_implies, implies_true] at B0 ⊢
    exact B0 (beg j 1 hj hj2 (Or.inr ⟨e, rfl⟩) _ (fun I' L' h => b_Mc_act_88 (by rw [red]; exact h)) (fun I' L' h => b_Mc_act_88 (h _)))
  · next e => exact absurd ⟨by rw [e] <;> decide, by rw [e] <;> decide⟩ hs
  · next e => exact absurd ⟨by rw [e] <;> decide, by rw [e] <;> decide⟩ hs
  · next e => exact absurd ⟨by rw [e] <;> decide, by rw [e] <;> decide⟩ hs
  · next e => exact absurd ⟨by rw [e] <;> decide, by rw [e] <;> decide⟩ hs
  · next e => exact absurd ⟨by rw [e] <;> decide, by rw [e] <;> decide⟩ hs
  · next e => exact absurd ⟨by rw [e] <;> decide, by rw [e] <;> decide⟩ hs
  · next e => exact absurd ⟨by rw [e] <;> decide, by rw [e] <;> decide⟩ hs
  · next e => exact absurd ⟨by rw [e] <;> decide, by rw [e] <;> decide⟩ hs
  · next e => exact absurd ⟨by rw [e] <;> decide, by rw [e] <;> decide⟩ hs
  · next e => exact absurd ⟨by rw [e] <;> decide, by rw [e] <;> decide⟩ hs
  · next e => exact absurd ⟨by rw [e] <;> decide, by rw [e] <;> decide⟩ hs
  · next e => exact absurd ⟨by rw [e] <;> decide, by rw [e] <;> decide⟩ hs
  · next e => exact absurd ⟨by rw [e] <;> decide, by rw [e] <;> decide⟩ hs
  · -- 15
    next e =>
    obtain ⟨h1, h2, j, hj, hj2⟩ := hL
    obtain ⟨v, st, rfl, h3, h4⟩ := cons1 h1
    simp only [show w = 23 from fw e, Nat.reduceEqDiff, not_false_eq_true, not_true_eq_false, true_implies, false_implies, implies_true] at B0 ⊢
    refine B0 (c_Mc_pop hS (fun I' k s => b_Mc_act_113 ?_))
    rw [hj2]
    refine c_Mc_setName hj (b_Mc_act_116 ?_)
    rw [red]
    have hgo := go _ (aw_u I' 5 j v) L (p_st_15 e)
    rw [hj2, nI_clamp (show j < 2 ^ 31 by omega)] at hgo
    obtain ⟨u1, u2, u3, u4, u5, u6, u7⟩ := hst.kf k
    refine hgo ⟨(hfr.kf k).au (Or.inr (Or.inl rfl)), ⟨fun x hx => ?_, fun x hx => by rw [au_o (by decide)]; exact u2 x hx, by rw [au_o (by decide)]; exact u3, by rw [au_o (by decide)]; exact u4, u5, fun x hx => by rw [au_o (by decide)]; exact u6 x hx, u7⟩, KS_as s (by rw [au_o (by decide)]) (by rw [au_o (by decide)]), (hT.kf k).o (by decide) (by decide)⟩
    rw [aw_u_eq]
    unfold va_up
    split
    · rfl
    · exact u1 x hx
  · -- 16
    next e =>
    obtain ⟨h1, h2⟩ := hL
    obtain ⟨v, st1, rfl, h3, h4⟩ := cons1 h1
    obtain ⟨i, st, rfl, h5, h6⟩ := p_ty1 h4
    simp only [show w = 24 from fw e, Nat.reduceEqDiff, not_false_eq_true, not_true_eq_false, true_implies, false_implies, implies_true] at B0 ⊢
    refine B0 (c_Mc_setCell r4.2.1 h5 hS (fun I' q k s => b_Mc_act_124 ?_) (fun I' q k => b_Mc_act_124 ?_))
    · rw [red]
      obtain ⟨u1, u2, u3, u4, u5, u6, u7⟩ := hst.kf k
      refine go _ _ _ (p_st_16 e q) ⟨(hfr.kf k).au (Or.inr (Or.inr (Or.inl rfl))), ⟨fun x hx => by rw [au_o (by decide)]; exact u1 x hx, fun x hx => ?_, by rw [au_o (by decide)]; exact u3, by rw [au_o (by decide)]; exact u4, u5, fun x hx => by rw [au_o (by decide)]; exact u6 x hx, u7⟩, KS_as s (by rw [au_o (by decide)]) (by rw [au_o (by decide)]), (hT.kf k).o (by decide) (by decide)⟩
      rw [aw_u_eq]
      unfold va_up
      split
      · rfl
      · exact u2 x hx
    · rw [t3]
      exact stp 3 sp _ I' _ (p_st_16x e q) k rfl
  · -- 17
    next e =>
    obtain ⟨h1, h2⟩ := hL
    obtain ⟨v, st, rfl, h3, h4⟩ := cons1 h1
    simp only [show w = 25 from fw e, Nat.reduceEqDiff, not_false_eq_true, not_true_eq_false, true_implies, false_implies, implies_true] at B0 ⊢
    refine B0 (c_Mc_pop hS (fun I' k s => b_Mc_act_133 (fun q => ?_) (fun q => ?_)))
    · refine b_Mc_act_141 (c_Mc_goOnIf (fun q => absurd rfl q) (fun _ => b_Mc_act_145 ?_))
      rw [k.2 11 (by decide), t3]
      exact stp 1 sp _ I' _ (p_st_17x e q) k rfl
    · refine b_Mc_act_141 (c_Mc_goOnIf (fun _ => b_Mc_act_145 ?_) (fun q => absurd q (by decide)))
      rw [red]
      exact go _ _ _ (p_st_17 e q) ⟨hfr.kf k, hst.kf k, s, hT.kf k⟩
  · -- 18
    next e =>
    obtain ⟨h1, h2⟩ := hL
    obtain ⟨v, st, rfl, h3, h4⟩ := cons1 h1
    simp only [show w = 26 from fw e, Nat.reduceEqDiff, not_false_eq_true, not_true_eq_false, true_implies, false_implies, implies_true] at B0 ⊢
    refine B0 (c_Mc_pop hS (fun I' k s => b_Mc_act_154 (fun q => ?_) (fun q => ?_)))
    · refine b_Mc_act_162 (c_Mc_goOnIf (fun q => absurd rfl q) (fun _ => b_Mc_act_166 ?_))
      rw [k.2 11 (by decide), t3]
      exact stp 4 sp _ I' _ (p_st_18x e q) k rfl
    · refine b_Mc_act_162 (c_Mc_goOnIf (fun _ => b_Mc_act_166 ?_) (fun q => absurd q (by decide)))
      rw [red]
      exact go _ _ _ (p_st_18 e q) ⟨hfr.kf k, hst.kf k, s, hT.kf k⟩
  · -- 19
    next e =>
    obtain ⟨h1, h2, j, hj, hj2⟩ := hL
    simp only [show w = 27 from fw e, Nat.reduceEqDiff, not_false_eq_true, not_true_eq_false, true_implies, false_implies, implies_true] at B0 ⊢
    refine B0 (c_Mc_nextAnswer (F := F) (n := n) (c := c) (P := P) (I0 := I0) r4 r7 r6 i7 i9 i1 t5 (fun I' hI h8 => b_Mc_act_176 ?_))
    rw [hj2]
    refine c_Mc_setName hj (b_Mc_act_179 ?_)
    rw [red]
    have hgo := go _ (aw_u I' 5 j (ansF B T O (nI r) rule ak)) L (p_st_19 e)
    rw [hj2, nI_clamp (show j < 2 ^ 31 by omega)] at hgo
    have fr' : KRfr I0 I' L0 L := by
      rcases hI with rfl | ⟨v, rfl⟩
      · exact hfr
      · exact hfr.au (Or.inl ⟨rfl, by decide⟩)
    have st' : KRst I0 L0 nm cl bg ds ys tr I' L := by
      rcases hI with rfl | ⟨v, rfl⟩
      · exact hst
      · exact hst.a4 (by decide) (by decide)
    have ho : ∀ o, o ≠ 4 → I' o = I o := by
      intro o h
      rcases hI with rfl | ⟨v, rfl⟩
      · rfl
      · exact au_o h
    have hk4 : ∀ x, x ≠ 8 → I' 4 x = I 4 x := by
      intro x h
      rcases hI with rfl | ⟨v, rfl⟩
      · rfl
      · exact au_k h
    obtain ⟨u1, u2, u3, u4, u5, u6, u7⟩ := st'
    refine hgo ⟨fr'.au (Or.inr (Or.inl rfl)), ⟨fun x hx => ?_, fun x hx => by rw [au_o (by decide)]; exact u2 x hx, by rw [au_o (by decide)]; exact u3, by rw [au_o (by decide)]; exact u4, u5, fun x hx => by rw [au_o (by decide)]; exact u6 x hx, u7⟩, KS_as hS (by rw [au_o (by decide), hk4 4 (by decide)]) (by rw [au_o (by decide), ho 7 (by decide)]), by rw [au_o (by decide), ho 8 (by decide)]; exact t1, by rw [au_o (by decide), hk4 6 (by decide)]; exact t2, by rw [au_o (by decide), hk4 11 (by decide)]; exact t3, by rw [au_o (by decide), hk4 15 (by decide)]; exact t4, fun q => by rw [au_o (by decide)]; exact h8 q⟩
    rw [aw_u_eq]
    unfold va_up
    split
    · rfl
    · exact u1 x hx
  · -- 20
    next e =>
    simp only [show w = 28 from fw e, Nat.reduceEqDiff, not_false_eq_true, not_true_eq_false, true_implies, false_implies, implies_true] at B0 ⊢
    refine B0 (c_Mc_finish (b_Mc_act_192 ?_))
    rw [t3]
    exact stp 0 sp _ I _ (p_st_20 e) KF.rfl rfl
  · -- 21
    next e =>
    obtain ⟨h1, h2, hdc, t, ht, ht1, ht2, ht3, ht4, ht5, ht6⟩ := hL
    obtain ⟨v, st, rfl, h3, h4⟩ := cons1 h1
    have hz : ¬ bg = 0 := fun h => by rcases g8 h with h | h | h <;> omega
    obtain ⟨m, hm, hsp⟩ := g9 (by omega)
    simp only [show w = 22 from fw e, Nat.reduceEqDiff, not_false_eq_true, not_true_eq_false, true_implies, false_implies, implies_true] at B0 ⊢
    refine B0 (c_Mc_decide (B := B) h3 hm (t3.trans hsp) hS (fun I' q k s => b_Mc_act_96 (fun _ => ?_) (fun q => absurd rfl q)) (fun I' q k s => b_Mc_act_96 (fun q => absurd q (by decide)) (fun _ => ?_)))
    · have hq : ¬ v = 1 := by rw [q]; decide
      have hgo := go _ (aw_u I' 4 13 (I 4 13 + 1)) (aw_u L 4 14 (L 4 14 ||| ((1 : Int64) <<< (((40 : Int32) - (I 4 13 + 1)).toInt64 &&& 63)))) (p_st_21n e hq)
      rw [ht, nI_clamp (show t < 2 ^ 31 by omega)] at hgo
      rw [ht]
      obtain ⟨u1, u2, u3, u4, u5, u6, u7⟩ := hst.kf k
      exact hgo ⟨((hfr.kf k).au (Or.inl ⟨rfl, by decide⟩)).al (Or.inl ⟨rfl, rfl⟩), ⟨fun x hx => by rw [au_o (by decide)]; exact u1 x hx, fun x hx => by rw [au_o (by decide)]; exact u2 x hx, by rw [au_k (by decide)]; exact u3, by rw [au_s, s4, nI_1]; simp, by rw [au_s, s5, s4, nI_1, pathL_s]; simp, fun x hx => by rw [au_o (by decide)]; exact u6 x hx, by rw [au_o (by decide)]; exact u7⟩, KS_as s (by rw [au_k (by decide)]) (by rw [au_o (by decide)]), (hT.kf k).k (by decide) (by decide) (by decide) (by decide)⟩
    · have hgo := go _ (aw_u (aw_u I' 4 13 (I 4 13 + 1)) 10 m (I 10 m + 1)) L (p_st_21 e q)
      rw [red]
      obtain ⟨u1, u2, u3, u4, u5, u6, u7⟩ := hst.kf k
      refine hgo ⟨((hfr.kf k).au (Or.inl ⟨rfl, by decide⟩)).au (Or.inr (Or.inr (Or.inr (Or.inr (Or.inr rfl))))), ⟨fun x hx => by rw [au_o (by decide), au_o (by decide)]; exact u1 x hx, fun x hx => by rw [au_o (by decide), au_o (by decide)]; exact u2 x hx, by rw [au_o (by decide), au_k (by decide)]; exact u3, by rw [au_o (by decide), au_s, s4, nI_1]; simp, by rw [pathL_s]; exact u5, fun x hx => ?_, u7⟩, KS_as s (by rw [au_o (by decide), au_k (by decide)]) (by rw [au_o (by decide), au_o (by decide)]), ((hT.kf k).k (by decide) (by decide) (by decide) (by decide)).o (by decide) (by decide)⟩
      rw [aw_u_eq, au_o (by decide), hsp, nI_clamp (show m < 2 ^ 31 by omega)]
      unfold va_up
      split
      · rw [s6 m hm, ← nI_1]
        next hxm => rw [Int32.add_assoc, hxm]
      · exact u6 x hx
  · -- 22
    next e =>
    obtain ⟨h1, t, ht, ht2, ht3, ht4, ht5, ht7, ht6⟩ := hL
    simp only [show w = 31 from fw e, Nat.reduceEqDiff, not_false_eq_true, not_true_eq_false, true_implies, false_implies, implies_true] at B0 ⊢
    have hgo := go _ I L (p_st_22 e) ⟨hfr, hst, hS, hT⟩
    rw [ht, nI_clamp (show t < 2 ^ 31 by omega)] at hgo
    rw [ht] at B0 ⊢
    exact B0 hgo
  · -- 23
    next e =>
    obtain ⟨h1, h2, t, ht, ht2, ht3, ht4, ht5, ht6⟩ := hL
    have hc4 : cs.length < 4 := by have := chain_len g3; omega
    simp only [show w = 29 from fw e, Nat.reduceEqDiff, not_false_eq_true, not_true_eq_false, true_implies, false_implies, implies_true] at B0 ⊢
    have hgo := go _ (aw_u (aw_u I 8 cs.length (nI (pc + 1))) 4 6 (nI (cs.length + 1))) L (p_st_23 e)
    rw [ht, nI_clamp (show t < 2 ^ 31 by omega)] at hgo
    rw [ht, red] at B0
    rw [ht]
    refine B0 (c_Mc_enter hc4 t2 (b_Mc_act_202 (hgo ⟨(hfr.au (Or.inr (Or.inr (Or.inr (Or.inr (Or.inl rfl)))))).au (Or.inl ⟨rfl, by decide⟩), KRst.a4 ⟨fun x hx => by rw [au_o (by decide)]; exact s1 x hx, fun x hx => by rw [au_o (by decide)]; exact s2 x hx, by rw [au_o (by decide)]; exact s3, by rw [au_o (by decide)]; exact s4, s5, fun x hx => by rw [au_o (by decide)]; exact s6 x hx, s7⟩ (by decide) (by decide), KS_as hS (by rw [au_k (by decide), au_o (by decide)]) (by rw [au_o (by decide), au_o (by decide)]), ⟨by rw [au_o (by decide), au_s], ?_⟩, by rw [au_s]; rfl, by rw [au_k (by decide), au_o (by decide)]; exact t3, by rw [au_k (by decide), au_o (by decide)]; exact t4, fun q => by rw [au_k (by decide), au_o (by decide)]; exact t5 q⟩)))
    rw [au_o (by decide), aw_u_eq]
    exact CRf_up (Nat.le_refl _) t1
  · -- 24
    next e =>
    obtain ⟨h1, h2⟩ := hL
    simp only [show w = 30 from fw e, Nat.reduceEqDiff, not_false_eq_true, not_true_eq_false, true_implies, false_implies, implies_true] at B0 ⊢
    cases cs with
    | nil => have : sg pc = 4 := g3; omega
    | cons x rs =>
      refine B0 (c_Mc_leave (x := rs.length) (by simp at hcl; omega) t2 (b_Mc_act_207 ?_))
      rw [t1.1]
      exact go _ (aw_u I 4 6 (nI rs.length)) L (p_st_24 e) ⟨hfr.au (Or.inl ⟨rfl, by decide⟩), hst.a4 (by decide) (by decide), KS_as hS (by rw [au_k (by decide)]) (by rw [au_o (by decide)]), by rw [au_o (by decide)]; exact t1.2, by rw [au_s], by rw [au_k (by decide)]; exact t3, by rw [au_k (by decide)]; exact t4, fun q => by rw [au_k (by decide)]; exact t5 q⟩
  · -- 25
    next e =>
    simp only [show w = 33 from fw e, Nat.reduceEqDiff, not_false_eq_true, not_true_eq_false, true_implies, false_implies, implies_true] at B0 ⊢
    refine B0 (c_Mc_finish (b_Mc_act_216 ?_))
    exact stp 0 (-1) _ I _ (p_st_25 e) KF.rfl rfl
  · exact hL.elim
end KACT2
