/-! PART 77: the reference's reading: tests and conditions -/
section MCO
variable {X : aw_X} {d : Nat} {Q : Option Value → aw_H → Prop} {I : Nat → Nat → Int32} {L : Nat → Nat → Int64} {D : Nat → Nat} {C : MC} {S : PT} {k : Nat} {bs : List (Nat × Nat × Nat)}
theorem MP.sg (h : MP C S [] k bs I L) {ch : Int32} (hK : tK (mTd C) (ti S) = ch) (hc : ch ∈ mks) : I 69 8 = ch := ((mT_sign h.2.2.1.2.2.1 hc).mpr hK).2
theorem m_readTest (hC : mOK C) (h : MP C S [] k bs I L) (hG : cn S ≤ ti S + mDl C)
    (hok : ∀ S', tst (mTd C) k S = .ok S' → ∀ I' L', MP C S' [] k bs I' L' → Q (some (.int 1)) (aw_s I' L' D)) (her : ∀ e, tst (mTd C) k S = .error e → FLp D C Q e) : aw_m X (d + 5) y_M_readTest [.ref 69] (aw_s I L D) Q := by
  refine aw_go rfl rfl (b_M_readTest_0 (m_readSum hC h hG (fun S1 e1 I1 L1 h1 => ?_) (fun e he I1 L1 h1 => b_M_readTest_4 (fun x => absurd rfl x) (fun _ => her e (by rw [tst, he]; rfl) I1 L1 h1))))
  have hmo := Mo_rdI1 (mTd C) k _ _ e1
  rw [tst, e1, pb_ok] at hok her
  refine b_M_readTest_4 (fun _ => ?_) (fun x => absurd x (by decide))
  have go : ∀ (K : Int32) (o : Nat), tK (mTd C) (ti S1) = K → K ∈ mks → (K = 60 ∨ K = 61 ∨ K = 62 ∨ K = 35) → rlo (mTd C) (ti S1) = o → aw_z X (d + 5) y_M_readTest Q 95 [some (.ref 69), none] [.int (nI o)] (aw_s I1 L1 D) := by
    intro K o hK hmk hor ho
    obtain ⟨m0, m1, m2, m3, m4, m7⟩ := mks_ne hmk
    rw [hK, if_pos hor, ho] at hok her
    refine b_M_readTest_95 (m_go hC h1 (by rw [hK]; exact m0) (by rw [hK]; exact m1) (fun I2 L2 h2 => b_M_readTest_100 (m_readSum hC h2 (by show cn S1 ≤ ti S1 + 1 + mDl C; omega) (fun S3 e3 I3 L3 h3 => ?_) (fun e he I3 L3 h3 => b_M_readTest_104 (fun x => absurd rfl x) (fun _ => her e (by rw [he]; rfl) I3 L3 h3)))))
    have hmo3 := Mo_rdI1 (mTd C) k _ _ e3
    have c1 : cn (adv S1) = cn S1 := rfl
    have c2 : ti (adv S1) = ti S1 + 1 := rfl
    rw [c1, c2] at hmo3
    rw [e3] at hok
    exact b_M_readTest_104 (fun _ => m_emit hC h3 (by omega) (fun I4 h4 => b_M_readTest_115 (hok _ rfl I4 L3 h4))) (fun x => absurd x (by decide))
  have k51 : ∀ (K : Int32), tK (mTd C) (ti S1) = K → (K = 60 ∨ K = 61 ∨ K = 62 ∨ K = 35) → aw_z X (d + 5) y_M_readTest Q 51 [some (.ref 69), none] [] (aw_s I1 L1 D) := by
    intro K hK hor
    have B0 := @b_M_readTest_51 X (d + 4) Q I1 L1 D
    have hmk : K ∈ mks := by rcases hor with rfl | rfl | rfl | rfl <;> decide
    rw [h1.sg hK hmk] at B0
    refine B0 (fun a b c => go K 12 hK hmk hor ?_) (fun a b c => go K 11 hK hmk hor ?_) (fun a b => go K 10 hK hmk hor ?_) (fun a => go K 9 hK hmk hor ?_)
    · rw [rlo, hK, if_neg a, if_neg b, if_neg c]
    · rw [rlo, hK, if_neg a, if_neg b, if_pos c]
    · rw [rlo, hK, if_neg a, if_pos b]
    · rw [rlo, hK, if_pos a]
  refine m_isSign h1 (by decide) (fun q => b_M_readTest_15 (fun _ => k51 60 q (Or.inl rfl)) (fun x => absurd x (by decide))) (fun n60 => b_M_readTest_15 (fun x => absurd rfl x) (fun _ => m_isSign h1 (by decide) (fun q => b_M_readTest_24 (fun _ => k51 61 q (Or.inr (Or.inl rfl))) (fun x => absurd x (by decide))) (fun n61 => b_M_readTest_24 (fun x => absurd rfl x) (fun _ => m_isSign h1 (by decide) (fun q => b_M_readTest_33 (fun _ => k51 62 q (Or.inr (Or.inr (Or.inl rfl)))) (fun x => absurd x (by decide))) (fun n62 => b_M_readTest_33 (fun x => absurd rfl x) (fun _ => m_isSign h1 (by decide) (fun q => b_M_readTest_42 (fun _ => k51 35 q (Or.inr (Or.inr (Or.inr rfl)))) (fun x => absurd x (by decide))) (fun n35 => b_M_readTest_42 (fun x => absurd rfl x) (fun _ => m_bad h1 (fun _ => rfl) (fun I' h' => b_M_readTest_50 (Or.inl rfl) (her _ ?_ I' L1 h'))))))))))
  rw [if_neg (fun x => x.elim n60 (fun x => x.elim n61 (fun x => x.elim n62 n35)))]
/-- further tests joined by 'and' -/
theorem l_andLoop (hC : mOK C) {w : Bool} : ∀ (f : Nat) (S : PT), (mTd C).1 < ti S + f → cn S + (if w = true then 1 else 0) ≤ ti S + mDl C →
    (∀ f1 S1, clp (mTd C) k f w S = clp (mTd C) k f1 w S1 → ¬ tK (mTd C) (ti S1) = 16 → (mTd C).1 < ti S1 + f1 → f1 ≤ f → cn S1 + (if w = true then 1 else 0) ≤ ti S1 + mDl C → ∀ I L, MP C S1 [] k bs I L → Q (some (.int 1)) (aw_s I L D)) →
    (∀ e, clp (mTd C) k f w S = .error e → FLp D C Q e) → ∀ I L, MP C S [] k bs I L → aw_z X (d + 6) y_M_readAll Q 9 [some (.ref 69)] [] (aw_s I L D)
  | 0, S, hfu, _, _, _ => fun I L h => absurd h.2.2.1.1 (by omega)
  | f + 1, S, hfu, hG, hret, her => fun I L h => by
    refine b_M_readAll_9 (c_M_spelt (v := lN (kyC 11)) (by decide +kernel) (b_M_readAll_21 (m_isKey h (by decide) (fun q => b_M_readAll_24 (fun x => absurd x (by decide)) (fun _ => ?_)) (fun q => b_M_readAll_24 (fun _ => hret (f + 1) S rfl q hfu (Nat.le_refl _) hG I L h) (fun x => absurd rfl x)))))
    have q : tK (mTd C) (ti S) = 16 := q
    have e : clp (mTd C) k (f + 1) w S = pb (tst (mTd C) k (adv S)) (fun S' => clp (mTd C) k f w (em 13 0 S')) := by rw [clp, if_neg (by rw [q]; decide), if_pos q]
    rw [e] at hret her
    refine m_go hC h (by rw [q]; decide) (by rw [q]; decide) (fun I1 L1 h1 => b_M_readAll_31 (m_readTest hC h1 (by show cn S ≤ ti S + 1 + mDl C; omega) (fun S2 e2 I2 L2 h2 => ?_) (fun e he I2 L2 h2 => b_M_readAll_35 (fun x => absurd rfl x) (fun _ => her e (by rw [he]; rfl) I2 L2 h2))))
    have hmo := Mo_tst (mTd C) k _ _ e2
    have c1 : cn (adv S) = cn S := rfl
    have c2 : ti (adv S) = ti S + 1 := rfl
    rw [c1, c2] at hmo
    rw [e2, pb_ok] at hret her
    refine b_M_readAll_35 (fun _ => m_emit (o := 13) hC h2 (by omega) (fun I3 h3 => b_M_readAll_47 ?_)) (fun x => absurd x (by decide))
    exact l_andLoop hC f (em 13 0 S2) (by show (mTd C).1 < ti S2 + f; omega) (by show cn S2 + 1 + _ ≤ ti S2 + mDl C; omega) (fun f1 S1 a1 a2 a3 a4 a5 => hret f1 S1 a1 a2 a3 (by omega) a5) her I3 L2 h3
/-- all that is joined by 'and', from its call -/
theorem m_readAll (hC : mOK C) {w : Bool} {f : Nat} (h : MP C S [] k bs I L) (hfu : (mTd C).1 < ti S + f) (hG : cn S + (if w = true then 1 else 0) ≤ ti S + mDl C)
    (hret : ∀ f1 S1, pb (tst (mTd C) k S) (clp (mTd C) k f w) = clp (mTd C) k f1 w S1 → ¬ tK (mTd C) (ti S1) = 16 → (mTd C).1 < ti S1 + f1 → f1 ≤ f → cn S1 + (if w = true then 1 else 0) ≤ ti S1 + mDl C → ∀ I L, MP C S1 [] k bs I L → Q (some (.int 1)) (aw_s I L D))
    (her : ∀ e, pb (tst (mTd C) k S) (clp (mTd C) k f w) = .error e → FLp D C Q e) : aw_m X (d + 6) y_M_readAll [.ref 69] (aw_s I L D) Q := by
  refine aw_go rfl rfl (b_M_readAll_0 (m_readTest hC h (by omega) (fun S2 e2 I2 L2 h2 => ?_) (fun e he I2 L2 h2 => b_M_readAll_4 (fun x => absurd rfl x) (fun _ => her e (by rw [he]; rfl) I2 L2 h2))))
  have hmo := Mo_tst (mTd C) k _ _ e2
  rw [e2, pb_ok] at hret her
  exact b_M_readAll_4 (fun _ => l_andLoop hC f S2 (by omega) (by omega) hret her I2 L2 h2) (fun x => absurd x (by decide))
/-- further ones joined by 'or'; w: one waits -/
theorem l_orLoop (hC : mOK C) : ∀ (F f : Nat) (w : Bool) (S : PT), f ≤ F → ¬ tK (mTd C) (ti S) = 16 → (mTd C).1 < ti S + f → cn S + (if w = true then 1 else 0) ≤ ti S + mDl C →
    (∀ S', clp (mTd C) k f w S = .ok S' → ∀ I L, MP C S' [] k bs I L → Q (some (.int 1)) (aw_s I L D)) → (∀ e, clp (mTd C) k f w S = .error e → FLp D C Q e) →
    ∀ I L, MP C (if w = true then em 14 0 S else S) [] k bs I L → aw_z X (d + 7) y_M_readCond Q 9 [some (.ref 69)] [] (aw_s I L D)
  | F, 0, w, S, _, _, hfu, _, _, _ => fun I L h => absurd h.2.2.1.1 (by
      have : ti (if w = true then em 14 0 S else S) = ti S := by cases w <;> rfl
      rw [this]; omega)
  | 0, f + 1, _, _, hF, _, _, _, _, _ => absurd hF (by omega)
  | F + 1, f + 1, w, S, hF, n16, hfu, hG, hok, her => fun I L h => by
    have et : ti (if w = true then em 14 0 S else S) = ti S := by cases w <;> rfl
    have ec : cn (if w = true then em 14 0 S else S) = cn S + (if w = true then 1 else 0) := by cases w <;> rfl
    refine b_M_readCond_9 (c_M_spelt (v := lN (kyC 10)) (by decide +kernel) (b_M_readCond_20 (m_isKey h (by decide) (fun q => b_M_readCond_23 (fun x => absurd x (by decide)) (fun _ => ?_)) (fun q => b_M_readCond_23 (fun _ => ?_) (fun x => absurd rfl x)))))
    · have q : tK (mTd C) (ti S) = 15 := by rw [et] at q; exact q
      have e : clp (mTd C) k (f + 1) w S = pb (tst (mTd C) k (adv (if w = true then em 14 0 S else S))) (clp (mTd C) k f true) := by rw [clp, if_pos q]
      rw [e] at hok her
      refine m_go hC h (by rw [et, q]; decide) (by rw [et, q]; decide) (fun I1 L1 h1 => b_M_readCond_30 (m_readAll (w := true) (f := f) hC h1 ?_ ?_ (fun f1 S1 a1 a2 a3 a4 a5 I2 L2 h2 => ?_) (fun e he I2 L2 h2 => b_M_readCond_34 (fun x => absurd rfl x) (fun _ => her e he I2 L2 h2))))
      · show (mTd C).1 < ti (if w = true then em 14 0 S else S) + 1 + f
        rw [et]; omega
      · show cn (if w = true then em 14 0 S else S) + _ ≤ ti (if w = true then em 14 0 S else S) + 1 + mDl C
        rw [et, ec, if_pos rfl]; omega
      · rw [a1] at hok her
        rw [if_pos rfl] at a5
        refine b_M_readCond_34 (fun _ => m_emit (o := 14) hC h2 (by omega) (fun I3 h3 => b_M_readCond_46 ?_)) (fun x => absurd x (by decide))
        exact l_orLoop hC F f1 true S1 (by omega) a2 a3 (by rw [if_pos rfl]; exact a5) hok her I3 L2 h3
    · have q : ¬ tK (mTd C) (ti S) = 15 := by rw [et] at q; exact q
      refine hok _ ?_ I L h
      rw [clp, if_neg q, if_neg n16]
theorem m_readCond (hC : mOK C) (h : MP C S [] k bs I L) (hG : cn S ≤ ti S + mDl C)
    (hok : ∀ S', cnd (mTd C) k S = .ok S' → ∀ I' L', MP C S' [] k bs I' L' → Q (some (.int 1)) (aw_s I' L' D)) (her : ∀ e, cnd (mTd C) k S = .error e → FLp D C Q e) : aw_m X (d + 7) y_M_readCond [.ref 69] (aw_s I L D) Q := by
  have h501 := hC.1.2.2.2.2
  unfold cnd at hok her
  refine aw_go rfl rfl (b_M_readCond_0 (m_readAll (w := false) (f := 501) hC h (by omega) (by simp; exact hG) (fun f1 S1 a1 a2 a3 a4 a5 I2 L2 h2 => ?_) (fun e he I2 L2 h2 => b_M_readCond_4 (fun x => absurd rfl x) (fun _ => her e he I2 L2 h2))))
  rw [a1] at hok her
  exact b_M_readCond_4 (fun _ => l_orLoop hC f1 f1 false S1 (Nat.le_refl _) a2 a3 a5 hok her I2 L2 h2) (fun x => absurd x (by decide))
end MCO
