/-! PART 81: the reference's reading: blocks and steps are the grammar's -/
def TPp (X : aw_X) (d : Nat) (D : Nat → Nat) (C : MC) (Q : Option Value → aw_H → Prop) (S : PT) (bs : List (Nat × Nat × Nat)) (k : Nat) (pf : Bool) : Prop :=
  ∀ I L, MP C S [] k bs I L → aw_z X (d + 10) y_M_readProgram Q 14 [some (.ref 69), some (.int (p_b pf))] [] (aw_s I L D)
def STp (X : aw_X) (d : Nat) (D : Nat → Nat) (C : MC) (Q : Option Value → aw_H → Prop) (k : Nat) : Prop :=
  ∀ (S : PT) (bs : List (Nat × Nat × Nat)) (pf : Bool), (bs = [] → pf = false) → bs.length + k = 10 → cn S ≤ ti S → (∀ S', bkI (mTd C) (k + 1) S = .ok S' → TPp X d D C Q S' bs k pf) → (∀ e, bkI (mTd C) (k + 1) S = .error e → FLp D C Q e) →
    ∀ I L, MP C S [] k bs I L → aw_z X (d + 10) y_M_readProgram Q 125 [some (.ref 69), some (.int (p_b pf))] [] (aw_s I L D)
section MPG
variable {X : aw_X} {d : Nat} {Q : Option Value → aw_H → Prop} {I : Nat → Nat → Int32} {L : Nat → Nat → Int64} {D : Nat → Nat} {C : MC} {S : PT} {k : Nat} {bs : List (Nat × Nat × Nat)}
theorem q48 {pf : Bool} (h : MP C S [] k bs I L) (hpf : bs = [] → pf = false) (ht : TPp X d D C Q S bs k pf) : aw_z X (d + 10) y_M_readProgram Q 48 [some (.ref 69), some (.int (p_b pf))] [.int 1] (aw_s I L D) := by
  have z := ht I L h
  refine b_M_readProgram_48 (fun _ _ => z) (fun _ _ _ => z) (fun _ x y => ?_) (fun x => absurd x (by decide))
  rw [h.bl.1] at x
  have : (nI bs.length = 0) = (bs.length = 0) := nI_eq' (b := 0) (by have := h.bl.2.2; omega) (by decide)
  rw [this] at x
  have e := hpf (List.length_eq_zero_iff.mp x)
  rw [e] at y
  exact absurd rfl y
theorem blen {b : Nat × Nat × Nat} (h : MP C S [] k (b :: bs) I L) : ¬ I 69 26 ≤ 0 ∧ ¬ I 69 26 = 0 := by
  have hb := h.bl
  simp only [List.length_cons] at hb
  rw [hb.1]
  have a : (nI (bs.length + 1) ≤ 0) = (bs.length + 1 ≤ 0) := nI_le' (b := 0) (by omega) (by decide)
  have c : (nI (bs.length + 1) = 0) = (bs.length + 1 = 0) := nI_eq' (b := 0) (by omega) (by decide)
  rw [a, c]
  omega
/-- inside a block: steps, until it is closed -/
theorem l_mblp (hC : mOK C) (hst : STp X d D C Q k) : ∀ (f : Nat) (S : PT) (b : Nat × Nat × Nat) (bs : List (Nat × Nat × Nat)) (pf : Bool), bs.length + (k + 1) = 10 → (mTd C).1 < ti S + f → cn S ≤ ti S →
    (∀ S', blp (mTd C) (bkI (mTd C) (k + 1)) f S = .ok S' → tK (mTd C) (ti S') = 125 → cn S ≤ cn S' → cn S' ≤ ti S' → ∀ I L, MP C S' [] k (b :: bs) I L → aw_m X (d + 9) y_M_close [.ref 69] (aw_s I L D) (fun r A => aw_z X (d + 10) y_M_readProgram Q 48 [some (.ref 69), some (.int (p_b pf))] (r.toList ++ []) A)) →
    (∀ e, blp (mTd C) (bkI (mTd C) (k + 1)) f S = .error e → FLp D C Q e) → TPp X d D C Q S (b :: bs) k pf
  | 0, S, b, bs, pf, _, hfu, _, _, _ => fun I L h => absurd h.2.2.1.1 (by omega)
  | f + 1, S, b, bs, pf, hl, hfu, hG, hcl, her => fun I L h => by
    obtain ⟨n1, n2⟩ := blen h
    have k28 : aw_z X (d + 10) y_M_readProgram Q 28 [some (.ref 69), some (.int (p_b pf))] [] (aw_s I L D) := by
      refine b_M_readProgram_28 (fun x => absurd x n1) (fun _ => m_isSign h (by decide) (fun q => b_M_readProgram_41 (fun x => absurd x (by decide)) (fun _ => hcl S (by rw [blp, if_pos q]) q (Nat.le_refl _) hG I L h)) (fun q => b_M_readProgram_41 (fun _ => ?_) (fun x => absurd rfl x)))
      rw [blp, if_neg q] at hcl her
      have k125 : aw_z X (d + 10) y_M_readProgram Q 125 [some (.ref 69), some (.int (p_b pf))] [] (aw_s I L D) := by
        refine hst S (b :: bs) pf (fun x => by cases x) (by simp; omega) hG (fun S' e' => ?_) (fun e he => her e (by rw [he]; rfl)) I L h
        have hmo := (Mo_bkI (mTd C) k).2 _ _ e'
        have hmc := Mc_bkI (mTd C) (k + 1) _ _ e'
        rw [e', pb_ok] at hcl her
        exact l_mblp hC hst f S' b bs pf hl (by omega) (by omega) (fun S2 a1 a2 a3 a4 => hcl S2 a1 a2 (by omega) a4) her
      exact b_M_readProgram_77 (fun _ => b_M_readProgram_116 (fun _ => k125) (fun x => absurd x n2)) (fun _ _ => b_M_readProgram_116 (fun _ => k125) (fun x => absurd x n2)) (fun _ x => absurd x n2)
    exact b_M_readProgram_14 (fun _ => k28) (fun _ x => absurd x n1) (fun _ _ => k28)
theorem m_step (hC : mOK C) (h0 : mDl C = 0) (h0' : mLo C = 0) (hk : k ≤ 10) (hin : 0 < k → STp X d D C Q (k - 1)) : STp X d D C Q k := by
  intro S bs pf hpf hbl hG hok her I L h
  have h501 := hC.1.2.2.2.2
  have hti := h.2.2.1.1
  have er : bkI (mTd C) (k + 1) S = stF (mTd C) k (blo (mTd C) k (bkI (mTd C) k)) S := rfl
  rw [er] at hok her
  have z0 : ∀ e, stF (mTd C) k (blo (mTd C) k (bkI (mTd C) k)) S = .error e → FLp D C (fun r A => aw_z X (d + 10) y_M_readProgram Q 129 [some (.ref 69), some (.int (p_b pf))] (r.toList ++ []) A) e := fun e he I1 L1 h1 => b_M_readProgram_129 (fun x => absurd rfl x) (fun _ => her e he I1 L1 h1)
  have er48 : ∀ e, stF (mTd C) k (blo (mTd C) k (bkI (mTd C) k)) S = .error e → FLp D C (fun r A => aw_z X (d + 10) y_M_readProgram Q 48 [some (.ref 69), some (.int (p_b pf))] (r.toList ++ []) A) e := fun e he I1 L1 h1 => b_M_readProgram_48 (fun x => absurd rfl x) (fun x => absurd rfl x) (fun x => absurd rfl x) (fun _ => her e he I1 L1 h1)
  refine b_M_readProgram_125 (m_readStep (b := blo (mTd C) k (bkI (mTd C) k)) hC h0 h (fun _ => by omega) hG (fun S' e' I1 L1 h1 => b_M_readProgram_129 (fun _ => hok S' e' I1 L1 h1) (fun x => absurd x (by decide))) (fun S1 hk0 e1 g1 g2 g3 I1 L1 h1 => ?_) (fun S1 hk0 e1 g1 g2 g3 I1 L1 h1 => ?_) (fun S1 e he => by rw [blo, he]; rfl) z0)
  · -- if
    obtain ⟨k', rfl⟩ : ∃ k', k = k' + 1 := ⟨k - 1, by omega⟩
    have hin : STp X d D C Q k' := hin (by omega)
    have eb : blo (mTd C) (k' + 1) (bkI (mTd C) (k' + 1)) (em 21 0 S1) = pb (blp (mTd C) (bkI (mTd C) (k' + 1)) 501 (adv (em 21 0 S1))) (sgn (mTd C) 125) := by
      rw [blo, opn, if_pos (show tK (mTd C) (ti (em 21 0 S1)) = 123 from g3), if_neg (by omega)]; rfl
    rw [e1, brs, eb] at hok er48
    rw [e1, brs, eb] at her
    have c1 : cn (adv (em 21 0 S1)) = cn S1 + 1 := rfl
    have c2 : ti (adv (em 21 0 S1)) = ti S1 + 1 := rfl
    refine b_M_readProgram_129 (fun _ => l_mblp (k := k') hC hin 501 (adv (em 21 0 S1)) (1, cn S1, cn S) bs pf (by omega) (by rw [c2]; omega) (by rw [c1, c2]; omega) (fun S2 a1 a2 a3 a4 I2 L2 h2 => ?_) (fun e he => her e (by rw [he]; rfl)) I1 L1 h1) (fun x => absurd x (by decide))
    have es : sgn (mTd C) 125 S2 = .ok (adv S2) := by rw [sgn, if_pos a2]
    rw [a1, pb_ok, es, pb_ok] at hok er48
    have et : ti (adv S2) = ti S2 + 1 := rfl
    rw [et] at hok er48
    rw [c1] at a3
    refine m_close1 hC h0 h0' h2 (by omega) a2 (by omega) a4 (fun q I3 L3 h3 => ?_) (fun q q2 I3 L3 h3 => ?_) (fun e q he => ?_)
    · rw [if_neg q] at hok
      exact q48 h3 hpf (hok _ rfl)
    · rw [if_pos q] at hok er48
      have eb2 : blo (mTd C) (k' + 1) (bkI (mTd C) (k' + 1)) (pat (cn S1) (em 22 0 (adv (adv S2)))) = pb (blp (mTd C) (bkI (mTd C) (k' + 1)) 501 (adv (pat (cn S1) (em 22 0 (adv (adv S2)))))) (sgn (mTd C) 125) := by
        rw [blo, opn, if_pos (show tK (mTd C) (ti (pat (cn S1) (em 22 0 (adv (adv S2))))) = 123 from q2), if_neg (by omega)]; rfl
      rw [eb2] at hok er48
      have c3 : cn (adv (pat (cn S1) (em 22 0 (adv (adv S2))))) = cn S2 + 1 := rfl
      have c4 : ti (adv (pat (cn S1) (em 22 0 (adv (adv S2))))) = ti S2 + 3 := rfl
      have h2ti := h2.2.2.1.1
      have z48 : ∀ I4 L4, MP C (adv (pat (cn S1) (em 22 0 (adv (adv S2))))) [] k' ((2, cn S2, 0) :: bs) I4 L4 → TPp X d D C Q (adv (pat (cn S1) (em 22 0 (adv (adv S2))))) ((2, cn S2, 0) :: bs) k' pf → aw_z X (d + 10) y_M_readProgram Q 48 [some (.ref 69), some (.int (p_b pf))] [.int 1] (aw_s I4 L4 D) := fun I4 L4 h4 ht => q48 h4 (fun x => by cases x) ht
      refine z48 I3 L3 h3 (l_mblp (k := k') hC hin 501 _ (2, cn S2, 0) bs pf (by omega) (by rw [c4]; omega) (by rw [c3, c4]; omega) (fun S4 b1 b2 b3 b4 I4 L4 h4 => ?_) (fun e he I4 L4 h4 => ?_))
      · have es4 : sgn (mTd C) 125 S4 = .ok (adv S4) := by rw [sgn, if_pos b2]
        rw [b1, pb_ok, es4, pb_ok] at hok
        rw [c3] at b3
        have h4ti := h4.2.2.1.1
        exact m_close2 hC h0 h0' h4 (by omega) b2 (by omega) (by omega) (fun I5 L5 h5 => q48 h5 hpf (hok _ rfl))
      · have := er48 e (by rw [he]; rfl) I4 L4 h4
        have z : aw_z X (d + 10) y_M_readProgram Q 48 [some (.ref 69), some (.int (p_b pf))] [.int 0] (aw_s I4 L4 D) := this
        exact her e (by rw [a1, pb_ok, es, pb_ok, et, if_pos q, eb2, he]; rfl) I4 L4 h4
    · rw [if_pos q] at er48
      exact er48 e (by rw [blo, he]; rfl)
  · -- while
    obtain ⟨k', rfl⟩ : ∃ k', k = k' + 1 := ⟨k - 1, by omega⟩
    have hin : STp X d D C Q k' := hin (by omega)
    have eb : blo (mTd C) (k' + 1) (bkI (mTd C) (k' + 1)) (em 21 0 S1) = pb (blp (mTd C) (bkI (mTd C) (k' + 1)) 501 (adv (em 21 0 S1))) (sgn (mTd C) 125) := by
      rw [blo, opn, if_pos (show tK (mTd C) (ti (em 21 0 S1)) = 123 from g3), if_neg (by omega)]; rfl
    rw [e1, lop, eb, Nat.min_eq_left (show cn S ≤ 600 by omega)] at hok
    rw [e1, lop, eb] at her
    have c1 : cn (adv (em 21 0 S1)) = cn S1 + 1 := rfl
    have c2 : ti (adv (em 21 0 S1)) = ti S1 + 1 := rfl
    refine b_M_readProgram_129 (fun _ => l_mblp (k := k') hC hin 501 (adv (em 21 0 S1)) (3, cn S1, cn S) bs pf (by omega) (by rw [c2]; omega) (by rw [c1, c2]; omega) (fun S2 a1 a2 a3 a4 I2 L2 h2 => ?_) (fun e he => her e (by rw [he]; rfl)) I1 L1 h1) (fun x => absurd x (by decide))
    have es : sgn (mTd C) 125 S2 = .ok (adv S2) := by rw [sgn, if_pos a2]
    rw [a1, pb_ok, es, pb_ok] at hok
    rw [c1] at a3
    exact m_close3 hC h0 h0' h2 (by omega) a2 (by omega) a4 (fun I3 L3 h3 => q48 h3 hpf (hok _ rfl))
theorem m_stepsAll (hC : mOK C) (h0 : mDl C = 0) (h0' : mLo C = 0) : ∀ k, k ≤ 10 → STp X d D C Q k
  | 0, hk => m_step hC h0 h0' hk (fun h => absurd h (Nat.lt_irrefl 0))
  | k + 1, hk => m_step hC h0 h0' hk (fun _ => m_stepsAll hC h0 h0' k (by omega))
/-- the program's own steps -/
theorem l_mstl (hC : mOK C) (h0 : mDl C = 0) (h0' : mLo C = 0) : ∀ (f : Nat) (S : PT) (pf : Bool), (pf = true → ¬ tK (mTd C) (ti S) = 5) → (mTd C).1 < ti S + f → cn S ≤ ti S →
    (∀ S', stl (mTd C) f S = .ok S' → cn S' ≤ ti S' → ∀ I L, MP C (em 25 0 S') [] 10 [] I L → Q (some (.int 1)) (aw_s (aw_u I 73 5 (nI (cn S' + 1))) L D)) → (∀ e, stl (mTd C) f S = .error e → FLp D C Q e) → TPp X d D C Q S [] 10 pf
  | 0, S, pf, _, hfu, _, _, _ => fun I L h => absurd h.2.2.1.1 (by omega)
  | f + 1, S, pf, hpf, hfu, hG, hok, her => fun I L h => by
    have hz : I 69 26 = 0 := h.bl.1
    have b0 : I 69 26 ≤ 0 := by rw [hz]; decide
    have k125 : ¬ tK (mTd C) (ti S) = 1 → aw_z X (d + 10) y_M_readProgram Q 125 [some (.ref 69), some (.int 0)] [] (aw_s I L D) := fun n1 => by
      rw [stl, if_neg n1] at hok her
      refine m_stepsAll hC h0 h0' 10 (by decide) S [] false (fun _ => rfl) rfl hG (fun S' e' => ?_) (fun e he => her e (by rw [he]; rfl)) I L h
      have hmo := (Mo_bkI (mTd C) 10).2 _ _ e'
      rw [e', pb_ok] at hok her
      exact l_mstl hC h0 h0' f S' false (fun x => by cases x) (by omega) (by omega) hok her
    have k28 : ¬ tK (mTd C) (ti S) = 1 → aw_z X (d + 10) y_M_readProgram Q 28 [some (.ref 69), some (.int (p_b pf))] [] (aw_s I L D) := fun n1 => by
      have k116 : aw_z X (d + 10) y_M_readProgram Q 116 [some (.ref 69), some (.int (p_b pf))] [] (aw_s I L D) := b_M_readProgram_116 (fun x => absurd hz x) (fun _ => k125 n1)
      refine b_M_readProgram_28 (fun _ => b_M_readProgram_77 (fun _ => k116) (fun _ _ => k116) (fun x _ => c_M_spelt (v := lN (kyC 0)) (by decide +kernel) (b_M_readProgram_101 (m_isKey h (w := 0) (by decide) (fun q => ?_) (fun q => b_M_readProgram_104 (fun _ => k116) (fun y => absurd rfl y)))))) (fun x => absurd b0 x)
      have e : pf = true := by
        cases pf with
        | true => rfl
        | false => exact absurd rfl x
      exact absurd q (hpf e)
    refine b_M_readProgram_14 (fun x => k28 (fun q => x (h.num.2.2.1.mpr q))) (fun x _ => ?_) (fun _ x => absurd b0 x)
    have q1 := h.num.2.2.1.mp x
    rw [stl, if_pos q1] at hok
    refine m_emit (o := 25) hC h (by omega) (fun I2 h2 => b_M_readProgram_141 ?_)
    have e30 : I2 69 30 = nI (cn S + 1) := by
      have := h2.2.2.2.2.2.2.2.2.2.2.1
      rw [h0, Nat.sub_zero] at this
      exact this
    rw [e30]
    exact hok S rfl hG I2 L h2
end MPG
