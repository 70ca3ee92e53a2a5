/-! PART 52: the class's machine: one act is one step of the machine -/
section KACT2
variable {X : aw_X} {d : Nat} {Q : Option Value → aw_H → Prop} {I : Nat → Nat → Int32} {L : Nat → Nat → Int64} {D : Nat → Nat}
theorem c_Mc_act {P : Nat → Nat × Int32} {n st0 c : Nat} {ty : Nat → List Bool} {sg : Nat → Nat} {B T O F r : Nat} {rule : Int32} {I0 : Nat → Nat → Int32} {L0 : Nat → Nat → Int64} (hW : p_WF P n st0 ty sg) (hC : RunK P n c B T O F r rule I0)
    {pc : Nat} {stk : List Int32} {cs : List Nat} {nm cl : Nat → Int32} {sp : Int32} {bg : Nat} {ds : List Bool} {ak : Nat} {ys : Nat → Nat} {tr : List (Nat × (Nat → Int32))}
    (hG : p_good P n ty sg B F (pc, stk, cs, nm, cl, sp, bg, ds, ak, ys, tr)) (hs : ¬ (2 ≤ (P pc).1 ∧ (P pc).1 ≤ 14)) (hM : KR B T r rule I0 L0 I L (pc, stk, cs, nm, cl, sp, bg, ds, ak, ys, tr))
    (go : ∀ (S' : PS) I' L', p_step P (mk B) F (ansF B T O (nI r) rule) (pc, stk, cs, nm, cl, sp, bg, ds, ak, ys, tr) = .inl S' → KR B T r rule I0 L0 I' L' S' → Q (some (.int (nI S'.1))) (aw_s I' L' D))
    (fin : ∀ (e sp' : Int32) (S' : PS) I' L' (v : Int32), p_step P (mk B) F (ansF B T O (nI r) rule) (pc, stk, cs, nm, cl, sp, bg, ds, ak, ys, tr) = .inr (e, sp', S') → KRE I0 L0 I' L' (e, sp', S') → Q (some (.int v)) (aw_s I' L' D)) :
    aw_m X (d + 3) y_Mc_act [.ref 4, .ref c, .int (nI pc)] (aw_s I L D) Q := by
  obtain ⟨r1, r2, r3, r4, r5, r6, r7, r8, r9, r10⟩ := hC
  obtain ⟨hfr, hst, hS, hT⟩ := hM
  have hT : KT B T r rule cs sp ak I := hT
  obtain ⟨t1, t2, t3, t4, t5⟩ := id hT
  obtain ⟨g1, g2, g3, g4, g5, g6, g7, g8, g9, g10, g11, g12⟩ := id hG
  obtain ⟨w1, w2, w3, w4, w0, w5, w6, w7⟩ := id hW
  have hok := w7 pc g1
  have hop := p_op_lt hok
  have hcl : cs.length ≤ 4 := by have := chain_len g3; omega
  obtain ⟨f1, f2, f3, f4⟩ := id hfr
  obtain ⟨s1, s2, s3, s4, s5, s6, s7⟩ := id hst
  have hCI := r2.same r1 f1
  refine aw_go rfl rfl (b_Mc_act_0 r1 (c_Cd_argAt r1 hCI.1 w1 g1 (b_Mc_act_5 r1 (c_Cd_opAt r1 hCI.1 w1 g1 ?_))))
  rw [(hCI.2 pc g1).1, (hCI.2 pc g1).2]
  have c0 := f2
  have i9 : I 4 9 = rule := by rw [f2 9 (by decide) (by decide) (by decide) (by decide) (by decide) (by decide) (by decide) (by decide)]; exact r9
  have i7 : I 4 7 = mk B := by rw [f2 7 (by decide) (by decide) (by decide) (by decide) (by decide) (by decide) (by decide) (by decide)]; exact r8
  have i10 : I 4 10 = nI F := by rw [f2 10 (by decide) (by decide) (by decide) (by decide) (by decide) (by decide) (by decide) (by decide)]; exact r10
  have i19 : I 4 19 = I0 4 19 := f2 19 (by decide) (by decide) (by decide) (by decide) (by decide) (by decide) (by decide) (by decide)
  have i1 : I 1 0 = nI B := by rw [f1 1 (by decide) (by decide) (by decide) (by decide) (by decide) (by decide)]; exact r3
  have hw64 : opC (P pc).1 < 64 := by
    rcases (show (P pc).1 = 0 ∨ (P pc).1 = 1 ∨ (P pc).1 = 15 ∨ (P pc).1 = 16 ∨ (P pc).1 = 17 ∨ (P pc).1 = 18 ∨ (P pc).1 = 19 ∨ (P pc).1 = 20 ∨ (P pc).1 = 21 ∨ (P pc).1 = 22 ∨ (P pc).1 = 23 ∨ (P pc).1 = 24 ∨ (P pc).1 = 25 by omega) with h | h | h | h | h | h | h | h | h | h | h | h | h <;> rw [h] <;> decide
  have B0 := @b_Mc_act_11 X (d + 2) Q I L D (nI pc) (P pc).2 (nI (opC (P pc).1))
  obtain ⟨w, hw⟩ : ∃ w, w = opC (P pc).1 := ⟨_, rfl⟩
  rw [← hw] at B0 hw64 ⊢
  have e20 : (nI w = (20 : Int32)) = (w = 20) := eqI (k := 20) hw64 (by decide)
  have e21 : (nI w = (21 : Int32)) = (w = 21) := eqI (k := 21) hw64 (by decide)
  have e22 : (nI w = (22 : Int32)) = (w = 22) := eqI (k := 22) hw64 (by decide)
  have e23 : (nI w = (23 : Int32)) = (w = 23) := eqI (k := 23) hw64 (by decide)
  have e24 : (nI w = (24 : Int32)) = (w = 24) := eqI (k := 24) hw64 (by decide)
  have e25 : (nI w = (25 : Int32)) = (w = 25) := eqI (k := 25) hw64 (by decide)
  have e26 : (nI w = (26 : Int32)) = (w = 26) := eqI (k := 26) hw64 (by decide)
  have e27 : (nI w = (27 : Int32)) = (w = 27) := eqI (k := 27) hw64 (by decide)
  have e28 : (nI w = (28 : Int32)) = (w = 28) := eqI (k := 28) hw64 (by decide)
  have e29 : (nI w = (29 : Int32)) = (w = 29) := eqI (k := 29) hw64 (by decide)
  have e30 : (nI w = (30 : Int32)) = (w = 30) := eqI (k := 30) hw64 (by decide)
  have e31 : (nI w = (31 : Int32)) = (w = 31) := eqI (k := 31) hw64 (by decide)
  simp only [e20, e21, e22, e23, e24, e25, e26, e27, e28, e29, e30, e31] at B0
  clear e20 e21 e22 e23 e24 e25 e26 e27 e28 e29 e30 e31
  have hL := hok.2.2.2
  have cons1 : ∀ {b : Bool} {t : List Bool}, ty pc = b :: t → ∃ v st, stk = v :: st ∧ (if b = true then (v = 0 ∨ v = 1) else rg B v) ∧ p_ty B t st := fun e => p_ty1 (by rw [e] at g2; exact g2)
  -- a step begins
  have beg : ∀ (j : Nat) (v2 : Int32), j < 60 → (P pc).2 = nI j → ((P pc).1 = 0 ∧ v2 = 0 ∨ (P pc).1 = 1 ∧ v2 = 1) →
      ∀ Q2 : Option Value → aw_H → Prop, (∀ A, Q (some (.int (nI (pc + 1)))) A → Q2 none A) → (∀ A, (∀ v, Q (some (.int v)) A) → Q2 none A) → aw_m X (d + 2) y_Mc_beginStep [.ref 4, .int (P pc).2, .int v2] (aw_s I L D) Q2 := by
    intro j v2 hj hj2 ho Q2 hq1 hq2
    have frI : KRfr I0 (aw_u (aw_u I 4 11 (nI j)) 4 12 (nI (bg + 1))) L0 (if I 4 19 = 0 then L else aw_u L 9 bg (wdS j nm)) := by
      have a := (hfr.au (o := 4) (k := 11) (v := nI j) (Or.inl ⟨rfl, by decide⟩)).au (o := 4) (k := 12) (v := nI (bg + 1)) (Or.inl ⟨rfl, by decide⟩)
      split
      · exact a
      · exact a.al (Or.inr rfl)
    have stI : KRst I0 L0 nm cl (bg + 1) ds ys (tr ++ [(j, nm)]) (aw_u (aw_u I 4 11 (nI j)) 4 12 (nI (bg + 1))) (if I 4 19 = 0 then L else aw_u L 9 bg (wdS j nm)) := by
      refine ⟨fun k hk => by rw [au_o (by decide), au_o (by decide)]; exact s1 k hk, fun k hk => by rw [au_o (by decide), au_o (by decide)]; exact s2 k hk, au_s _ _ _ _, by rw [au_k (by decide), au_k (by decide)]; exact s4, ?_, fun k hk => by rw [au_o (by decide), au_o (by decide)]; exact s6 k hk, ?_⟩
      · split
        · exact s5
        · rw [au_o (by decide)]; exact s5
      · rw [i19]
        split
        · next h => rw [if_pos h] at s7; exact s7
        · next h => rw [if_neg h] at s7; rw [aw_u_eq, s7, trL_s, g10]
    have c2 : (nI ds.length < nI F) = (ds.length < F) := nI_lt' (by omega) (by omega)
    have h5 : ∀ S', p_step P (mk B) F (ansF B T O (nI r) rule) (pc, stk, cs, nm, cl, sp, bg, ds, ak, ys, tr) = .inr (5, (P pc).2, S') → S' = (pc, stk, cs, nm, cl, (P pc).2, bg + 1, ds, ak, ys, tr ++ [((P pc).2.toNatClampNeg, nm)]) → Q2 none (aw_s (aw_u (aw_u (aw_u (aw_u I 4 11 (nI j)) 4 12 (nI (bg + 1))) 4 15 5) 4 16 (nI j)) (if I 4 19 = 0 then L else aw_u L 9 bg (wdS j nm)) D) := by
      intro S' h e
      refine hq2 _ (fun v => fin _ _ _ _ _ v h ?_)
      rw [e, hj2, nI_clamp (show j < 2 ^ 31 by omega)]
      exact KRE_end frI stI
    have h1 : ∀ S', p_step P (mk B) F (ansF B T O (nI r) rule) (pc, stk, cs, nm, cl, sp, bg, ds, ak, ys, tr) = .inl S' → S' = (pc + 1, stk, cs, nm, cl, (P pc).2, bg + 1, ds, ak, ys, tr ++ [((P pc).2.toNatClampNeg, nm)]) → Q2 none (aw_s (aw_u (aw_u I 4 11 (nI j)) 4 12 (nI (bg + 1))) (if I 4 19 = 0 then L else aw_u L 9 bg (wdS j nm)) D) := by
      intro S' h e
      have := go S' (aw_u (aw_u I 4 11 (nI j)) 4 12 (nI (bg + 1))) (if I 4 19 = 0 then L else aw_u L 9 bg (wdS j nm)) h
      rw [e, hj2, nI_clamp (show j < 2 ^ 31 by omega)] at this
      exact hq1 _ (this ⟨frI, stI, KS_as hS (by rw [au_k (by decide), au_k (by decide)]) (by rw [au_o (by decide), au_o (by decide)]), by rw [au_o (by decide), au_o (by decide)]; exact t1, by rw [au_k (by decide), au_k (by decide)]; exact t2, by rw [au_k (by decide), au_s], by rw [au_k (by decide), au_k (by decide)]; exact t4, fun q => by rw [au_k (by decide), au_k (by decide)]; exact t5 q⟩)
    rw [hj2]
    refine c_Mc_beginStep (nm := nm) g6 s3 s1 (fun q q2 => ?_) (fun q => ?_)
    · rw [s4, i10, c2] at q2
      rcases ho with ⟨ho, rfl⟩ | ⟨ho, rfl⟩
      · exact h1 _ (p_st_0 ho q) rfl
      · have : ds.length < F := by rcases q2 with h | h; exact absurd h (by decide); exact h
        exact h1 _ (p_st_1 ho (by omega)) rfl
    · rw [s4, i10, c2] at q
      rcases ho with ⟨ho, rfl⟩ | ⟨ho, rfl⟩
      · have : 1000 < bg + 1 := by rcases q with h | h; exact h; exact absurd rfl h.1
        exact h5 _ (p_st_0x ho this) rfl
      · exact h5 _ (p_st_1x ho (by rcases q with h | h; exact Or.inl h; exact Or.inr (by omega))) rfl
  have fw : ∀ {o : Nat}, (P pc).1 = o → w = opC o := fun e => by rw [hw, e]
  split at hL
  · next e =>
    obtain ⟨h1, h2, j, hj, hj2⟩ := hL
    simp only [show w = 20 from fw e, Nat.reduceEqDiff, not_false_eq_true, not_true_eq_false, true_implies, false_implies, implies_true] at B0 ⊢
    exact B0 (beg j 0 hj hj2 (Or.inl ⟨e, rfl⟩) _ (fun A h => b_Mc_act_78 (by sorry)) (by sorry))
  all_goals sorry
end KACT2
