/-! PART 79: the reference's reading: a step of each kind -/
theorem bst_0 (S : PT) : bst 0 S = em 0 (nI (cS S)) (stU false S) := by
  unfold bst; rw [if_neg (by decide), decide_eq_false (by decide)]; rfl
theorem bst_8 (S : PT) : bst 8 S = em 1 (nI (cS S)) (stU false S) := by
  unfold bst; rw [if_pos (by decide), decide_eq_false (by decide)]; rfl
theorem bst_10 (S : PT) : bst 10 S = em 1 (nI (cS S)) (stU true S) := by
  unfold bst; rw [if_pos (by decide), decide_eq_true (by decide)]; rfl
section MS3
variable {X : aw_X} {d : Nat} {Q : Option Value → aw_H → Prop} {I : Nat → Nat → Int32} {L : Nat → Nat → Int64} {D : Nat → Nat} {C : MC} {S : PT} {k : Nat} {bs : List (Nat × Nat × Nat)}
theorem FL_sgn {ch : Int32} {S : PT} {f : PT → PR} (her : ∀ e, pb (sgn (mTd C) ch S) f = .error e → FLp D C Q e) : ∀ e, sgn (mTd C) ch S = .error e → FLp D C Q e := fun e he => her e (by rw [he]; rfl)
theorem m_readCell (hC : mOK C) (h : MP C S [] k bs I L) (n0 : tK (mTd C) (ti S) ≠ 0) (n1 : tK (mTd C) (ti S) ≠ 1) (hG : cn S ≤ ti S + mDl C + 1)
    (hok : ∀ S', pb (plc (mTd C) k (rdI (mTd C) k) (adv S)) (fun S' => pb (sgn (mTd C) 61 S') (fun S' => pb (rdI (mTd C) (k + 1) S') (cls (mTd C) 16 0))) = .ok S' → ∀ I' L', MP C S' [] k bs I' L' → Q (some (.int 1)) (aw_s I' L' D))
    (her : ∀ e, pb (plc (mTd C) k (rdI (mTd C) k) (adv S)) (fun S' => pb (sgn (mTd C) 61 S') (fun S' => pb (rdI (mTd C) (k + 1) S') (cls (mTd C) 16 0))) = .error e → FLp D C Q e) : aw_m X (d + 6) y_M_readCell [.ref 69] (aw_s I L D) Q := by
  have hk := h.opens.2
  have c10 : (nI (10 - k) = (10 : Int32)) = (k = 0) := by
    have : (nI (10 - k) = (10 : Int32)) = (10 - k = 10) := nI_eq' (b := 10) (by omega) (by decide)
    rw [this]; apply propext; omega
  refine aw_go rfl rfl (b_M_readCell_0 (m_go hC h n0 n1 (fun I1 L1 h1 => b_M_readCell_4 (m_isSign h1 (by decide) (fun q => ?_) (fun q => b_M_readCell_10 (fun x => absurd rfl x) (fun x => absurd rfl x) (fun _ => m_bad h1 (fun _ => rfl) (fun I' h' => b_M_readCell_18 (Or.inl rfl) (her _ (by rw [plc, opn, if_neg q]; rfl) I' L1 h'))))))))
  have B0 := @b_M_readCell_10 X (d + 5) Q I1 L1 D 1
  rw [h1.opens.1, c10] at B0
  refine B0 (fun _ hk0 => ?_) (fun _ hk0 => m_bad h1 (fun x => by rw [q] at x; exact absurd x (by decide)) (fun I' h' => b_M_readCell_33 (Or.inl rfl) (her _ (by rw [plc, opn, if_pos q, if_pos hk0]; rfl) I' L1 h'))) (fun x => absurd x (by decide))
  obtain ⟨k', rfl⟩ : ∃ k', k = k' + 1 := ⟨k - 1, by omega⟩
  have eo : opn (mTd C) 91 (k' + 1) (adv S) = .ok (adv (adv S)) := by rw [opn, if_pos q, if_neg hk0]
  rw [plc, eo, pb_ok] at hok her
  rw [lvl (by omega) hk]
  refine m_go hC (h1.opn (k' := k') (by omega)) (by rw [q]; decide) (by rw [q]; decide) (fun I2 L2 h2 => b_M_readCell_48 (m_readSum hC h2 (by show cn S ≤ ti S + 1 + 1 + mDl C; omega) (fun S3 e3 I3 L3 h3 => ?_) (fun e he I3 L3 h3 => b_M_readCell_52 (fun x => absurd rfl x) (fun _ => her e (by rw [he]; rfl) I3 L3 h3))))
  have hmo := Mo_rdI (mTd C) (k' + 1) _ _ e3
  have c1 : cn (adv (adv S)) = cn S := rfl
  have c2 : ti (adv (adv S)) = ti S + 2 := rfl
  rw [c1, c2] at hmo
  rw [e3, pb_ok] at hok her
  refine b_M_readCell_52 (fun _ => m_isSign h3 (by decide) (fun q93 => b_M_readCell_63 (fun _ => ?_) (fun x => absurd x (by decide))) (fun q93 => b_M_readCell_63 (fun x => absurd rfl x) (fun _ => m_bad h3 (fun _ => rfl) (fun I' h' => b_M_readCell_71 (Or.inl rfl) (her _ (by rw [sgn, if_neg q93]; rfl) I' L3 h'))))) (fun x => absurd x (by decide))
  have e27 : I3 69 27 - 1 = nI (10 - (k' + 1)) := by rw [h3.opens.1, show 10 - k' = (10 - (k' + 1)) + 1 by omega, nI_pred]
  rw [e27]
  have es : sgn (mTd C) 93 S3 = .ok (adv S3) := by rw [sgn, if_pos q93]
  rw [es, pb_ok] at hok her
  refine m_go hC (h3.opn (k' := k' + 1) (by omega)) (by rw [q93]; decide) (by rw [q93]; decide) (fun I4 L4 h4 => b_M_readCell_86 (m_readSign hC h4 (by decide) (fun S5 e5 I5 L5 h5 => ?_) (fun e he I5 h5 => b_M_readCell_92 (fun _ => FL_sgn her e he I5 L4 h5) (fun x => absurd rfl x))))
  have hm5 := Mo_sgn (mTd C) 61 _ _ e5
  have c3 : cn (adv S3) = cn S3 := rfl
  have c4 : ti (adv S3) = ti S3 + 1 := rfl
  rw [c3, c4] at hm5
  rw [e5, pb_ok] at hok her
  refine b_M_readCell_92 (fun x => absurd x (by decide)) (fun _ => m_readSum hC h5 (by omega) (fun S6 e6 I6 L6 h6 => ?_) (fun e he I6 L6 h6 => b_M_readCell_99 (fun x => absurd rfl x) (fun _ => her e (by rw [he]; rfl) I6 L6 h6)))
  have hm6 := Mo_rdI (mTd C) (k' + 1 + 1) _ _ e6
  rw [e6, pb_ok] at hok her
  exact b_M_readCell_99 (fun _ => m_emit (o := 16) hC h6 (by omega) (fun I7 h7 => b_M_readCell_111 (m_readSign hC h7 (by decide) (fun S8 e8 I8 L8 h8 => b_M_readCell_118 (Or.inr rfl) (hok S8 e8 I8 L8 h8)) (fun e he I8 h8 => b_M_readCell_118 (Or.inl rfl) (her e he I8 L6 h8))))) (fun x => absurd x (by decide))
theorem m_readCall (hC : mOK C) (h : MP C S [] k bs I L) (n0 : tK (mTd C) (ti S) ≠ 0) (n1 : tK (mTd C) (ti S) ≠ 1) (hG : cn S ≤ ti S + mDl C + 1)
    (hok : ∀ S', cld (mTd C) (adv S) = .ok S' → ∀ I' L', MP C S' [] k bs I' L' → Q (some (.int 1)) (aw_s I' L' D))
    (her : ∀ e, cld (mTd C) (adv S) = .error e → FLp D C Q e) : aw_m X (d + 3) y_M_readCall [.ref 69] (aw_s I L D) Q := by
  refine aw_go rfl rfl (b_M_readCall_0 (m_go hC h n0 n1 (fun I1 L1 h1 => b_M_readCall_4 (m_isProc h1 (fun q => ?_) (fun q => b_M_readCall_8 (fun x => absurd rfl x) (fun x => absurd rfl x) (fun x => absurd rfl x) (fun x => absurd rfl x) (fun _ => m_bad h1 (fun _ => rfl) (fun I' h' => b_M_readCall_16 (Or.inl rfl) (her _ (by rw [cld, if_neg q]) I' L1 h'))))))))
  obtain ⟨v, hv, e1, e2⟩ := h1.let.2 q
  have B0 := @b_M_readCall_8 X (d + 2) Q I1 L1 D 1
  have e83 : I1 83 v = cR (adv S) v := h1.2.2.2.2.2.2.2.2.2.2.2.2.2.2.2.2.1 v hv
  rw [e2, nI_clamp (show v < 2 ^ 31 by omega), e83] at B0
  rw [cld, if_pos q, e1, nI_clamp (show v < 2 ^ 31 by omega)] at hok her
  refine B0 (fun _ => aw_in_nI hv (by decide)) (fun _ _ => aw_in_nI hv (by decide)) (fun _ hn => ?_) (fun _ hn => m_bad h1 (fun x => by rw [q] at x; exact absurd x (by decide)) (fun I' h' => b_M_readCall_39 (Or.inl rfl) (her _ (by rw [if_pos hn]) I' L1 h'))) (fun x => absurd x (by decide))
  rw [if_neg hn] at hok her
  exact m_emit (o := 23) hC h1 (by show cn S ≤ ti S + 1 + mDl C + 1; omega) (fun I2 h2 => b_M_readCall_59 (m_go hC h2 (by rw [show ti (em 23 (cR (adv S) v) (adv S)) = ti (adv S) from rfl, q]; decide) (by rw [show ti (em 23 (cR (adv S) v) (adv S)) = ti (adv S) from rfl, q]; decide) (fun I3 L3 h3 => b_M_readCall_64 (m_readSign hC h3 (by decide) (fun S8 e8 I8 L8 h8 => b_M_readCall_70 (Or.inr rfl) (hok S8 e8 I8 L8 h8)) (fun e he I8 h8 => b_M_readCall_70 (Or.inl rfl) (her e he I8 L3 h8))))))
/-- a step with a block: its cond, then the block is opened -/
theorem m_readDecision {w : Bool} {b : PT → PR} (hC : mOK C) (h0 : mDl C = 0) (h : MP C S [] k bs I L) (hbl : 0 < k → bs.length ≤ 9) {K : Int32} {s : Nat} (hK : tK (mTd C) (ti S) = K) (hw : (K = 8 ∧ w = false) ∨ (K = 10 ∧ w = true)) (hG : cn S ≤ ti S)
    (hok : ∀ S1, 0 < k → cnd (mTd C) k (adv (em 1 (nI s) S)) = .ok S1 → tK (mTd C) (ti S1) = 123 → ∀ I' L', MP C (adv (em 21 0 S1)) [] (k - 1) (((if w = true then 3 else 1), cn S1, cn S) :: bs) I' L' → Q (some (.int 1)) (aw_s I' L' D))
    (her : ∀ e, (cnd (mTd C) k (adv (em 1 (nI s) S)) = .error e ∨ ∃ S1, cnd (mTd C) k (adv (em 1 (nI s) S)) = .ok S1 ∧ opn (mTd C) 123 k (em 21 0 S1) = .error e) → FLp D C Q e) : aw_m X (d + 8) y_M_readDecision [.ref 69, .int (nI s)] (aw_s I L D) Q := by
  have n0 : tK (mTd C) (ti S) ≠ 0 := by rw [hK]; rcases hw with ⟨rfl, -⟩ | ⟨rfl, -⟩ <;> decide
  have n1 : tK (mTd C) (ti S) ≠ 1 := by rw [hK]; rcases hw with ⟨rfl, -⟩ | ⟨rfl, -⟩ <;> decide
  have k4 : aw_z X (d + 8) y_M_readDecision Q 4 [some (.ref 69), some (.int (nI s)), none, none, none] [.int (p_b w)] (aw_s I L D) := by
    refine b_M_readDecision_4 (m_emit (o := 1) hC h (by omega) (fun I1 h1 => b_M_readDecision_11 (m_go hC h1 n0 n1 (fun I2 L2 h2 => b_M_readDecision_16 (m_readCond hC h2 (by show cn S + 1 ≤ ti S + 1 + mDl C; omega) (fun S3 e3 I3 L3 h3 => ?_) (fun e he I3 L3 h3 => b_M_readDecision_20 (fun x => absurd rfl x) (fun _ => her e (Or.inl he) I3 L3 h3)))))))
    have hm3 := Mo_cnd (mTd C) k _ _ e3
    have c1 : cn (adv (em 1 (nI s) S)) = cn S + 1 := rfl
    have c2 : ti (adv (em 1 (nI s) S)) = ti S + 1 := rfl
    rw [c1, c2] at hm3
    refine b_M_readDecision_20 (fun _ => m_emit (o := 21) hC h3 (by omega) (fun I4 h4 => ?_)) (fun x => absurd x (by decide))
    have fin : ∀ x : Nat, (if w = true then 3 else 1) = x → aw_z X (d + 8) y_M_readDecision Q 44 [none, none, none, some (.int (nI (cn S - mDl C))), some (.int (nI (cn S3 - mDl C)))] [.int (nI x), .ref 69] (aw_s I4 L3 D) := by
      intro x hx
      refine b_M_readDecision_44 (m_open (a := x) (b := cn S3 - mDl C) (c := cn S - mDl C) hC h4 hbl (fun hk q I5 L5 h5 => b_M_readDecision_50 (Or.inr rfl) (hok S3 hk e3 q I5 L5 ?_)) (fun e he I5 L5 h5 => b_M_readDecision_50 (Or.inl rfl) (her e (Or.inr ⟨S3, e3, he⟩) I5 L5 h5)))
      rw [hx]
      rw [h0, Nat.sub_zero, Nat.sub_zero] at h5
      exact h5
    cases w with
    | false => exact b_M_readDecision_32 (fun _ => fin 1 rfl) (fun x => absurd rfl x)
    | true => exact b_M_readDecision_32 (fun x => absurd x (by decide)) (fun _ => fin 3 rfl)
  refine aw_go rfl rfl (b_M_readDecision_0 (t_isLoop h.mt (fun q => ?_) (fun q => ?_)))
  · rcases hw with ⟨rfl, -⟩ | ⟨rfl, rfl⟩
    · rw [hK] at q; exact absurd q (by decide)
    · exact k4
  · rcases hw with ⟨rfl, rfl⟩ | ⟨rfl, -⟩
    · exact k4
    · exact absurd hK q
theorem stF_neg {T : TD} {b : PT → PR} (h : ¬ isSt (tK T (ti S))) : stF T k b S = .error (1, ti S) := by
  unfold stF; exact if_neg h
theorem stF_60 {T : TD} {b : PT → PR} (h : isSt (tK T (ti S))) (h2 : 60 ≤ cS S) : stF T k b S = .error (3, ti S) := by
  unfold stF; exact (if_pos h).trans (if_pos h2)
theorem stF_pos {T : TD} {b : PT → PR} (h : isSt (tK T (ti S))) (h2 : ¬ 60 ≤ cS S) : stF T k b S = (if tK T (ti S) = 8 then pb (cnd T k (adv (bst 8 S))) (brs T b)
    else if tK T (ti S) = 10 then pb (cnd T k (adv (bst 10 S))) (lop b (cn S))
    else if tK T (ti S) = 11 then pb (cnd T k (adv (bst 0 S))) (cls T 17 0)
    else if tK T (ti S) = 12 then pb (cnd T k (adv (bst 0 S))) (cls T 18 0)
    else if tK T (ti S) = 2 then pb (sgn T 61 (adv (bst 0 S))) (fun S' => pb (rdI T (k + 1) S') (cls T 15 (tV T (ti S))))
    else if tK T (ti S) = 7 then pb (plc T k (rdI T k) (adv (bst 0 S))) (fun S' => pb (sgn T 61 S') (fun S' => pb (rdI T (k + 1) S') (cls T 16 0)))
    else if tK T (ti S) = 6 then cld T (adv (bst 0 S))
    else if tK T (ti S) = 13 then ask T (adv (bst 0 S))
    else cls T 20 0 (adv (bst 0 S))) := by
  unfold stF; exact (if_pos h).trans (if_neg h2)
/-- a step; one with a block leaves it open -/
theorem m_readStep {b : PT → PR} (hC : mOK C) (h0 : mDl C = 0) (h : MP C S [] k bs I L) (hbl : 0 < k → bs.length ≤ 9) (hG : cn S ≤ ti S)
    (hok : ∀ S', stF (mTd C) k b S = .ok S' → ∀ I' L', MP C S' [] k bs I' L' → Q (some (.int 1)) (aw_s I' L' D))
    (hif : ∀ S1, 0 < k → stF (mTd C) k b S = brs (mTd C) b S1 → cn S1 ≤ ti S1 → ti S < ti S1 → tK (mTd C) (ti S1) = 123 → ∀ I' L', MP C (adv (em 21 0 S1)) [] (k - 1) ((1, cn S1, cn S) :: bs) I' L' → Q (some (.int 1)) (aw_s I' L' D))
    (hwh : ∀ S1, 0 < k → stF (mTd C) k b S = lop b (cn S) S1 → cn S1 ≤ ti S1 → ti S < ti S1 → tK (mTd C) (ti S1) = 123 → ∀ I' L', MP C (adv (em 21 0 S1)) [] (k - 1) ((3, cn S1, cn S) :: bs) I' L' → Q (some (.int 1)) (aw_s I' L' D))
    (hbo : ∀ S1 e, opn (mTd C) 123 k S1 = .error e → b S1 = .error e)
    (her : ∀ e, stF (mTd C) k b S = .error e → FLp D C Q e) : aw_m X (d + 9) y_M_readStep [.ref 69] (aw_s I L D) Q := by
  have h501 := hC.1.2.2.2.2
  have hti := h.2.2.1.1
  have hcs : I 75 5 = nI (cS S) := h.2.2.2.2.2.2.2.2.2.2.2.1
  have hcs60 : cS S ≤ 60 := h.2.2.2.2.2.2.2.2.2.2.2.2.2.2.2.2.2.2.1
  have e29 : I 69 29 = 5 := h.2.2.2.2.2.2.2.2.2.1
  have c60 : (nI (cS S) = (60 : Int32)) = (cS S = 60) := nI_eq' (b := 60) (by omega) (by decide)
  have e5 : (5 : Int32).toNatClampNeg = 5 := rfl
  have e300 : (60 : Int32) * 5 + nI (cS S) = nI (300 + cS S) := by rw [show (60 : Int32) * 5 = nI 300 from rfl, nI_add]
  refine aw_go rfl rfl (b_M_readStep_0 (t_beginsStep h.mt (fun hs => ?_) (fun hs => b_M_readStep_4 (fun x => absurd rfl x) (fun x => absurd rfl x) (fun x => absurd rfl x) (fun x => absurd rfl x) (fun x => absurd rfl x) (fun _ => m_bad h (fun _ => rfl) (fun I' h' => b_M_readStep_12 (Or.inl rfl) (her _ (stF_neg hs) I' L h'))))))
  have n0 : tK (mTd C) (ti S) ≠ 0 := by intro g; rw [g] at hs; exact absurd hs (by unfold isSt; decide)
  have n1 : tK (mTd C) (ti S) ≠ 1 := by intro g; rw [g] at hs; exact absurd hs (by unfold isSt; decide)
  have B0 := @b_M_readStep_4 X (d + 8) Q I L D 1
  rw [e29, e5, hcs, c60, e300, nI_1] at B0
  refine B0 (fun _ => aw_in_nI (n := 5) (by decide) (by decide)) (fun _ _ => aw_in_nI (n := 5) (by decide) (by decide)) (fun _ _ => aw_in_nI (n := 5) (by decide) (by decide)) (fun _ q60 => ?_) (fun _ q60 => m_bad h (fun x => absurd x n0) (fun I' h' => b_M_readStep_34 (Or.inl rfl) (her _ (stF_60 hs (by omega)) I' L h'))) (fun x => absurd x (by decide))
  have es := stF_pos (k := k) (b := b) hs (by omega)
  have hs60 : cS S < 60 := by omega
  have hG0 : cn S ≤ ti S + mDl C := by omega
  -- with a block
  have k80 : ∀ (w : Bool) (K : Int32), tK (mTd C) (ti S) = K → ((K = 8 ∧ w = false) ∨ (K = 10 ∧ w = true)) → ∀ I1, MP C (stU w S) [] k bs I1 L → aw_z X (d + 9) y_M_readStep Q 80 [some (.ref 69), some (.int (nI (cS S))), none] [] (aw_s I1 L D) := by
    intro w K hK hw I1 h1
    refine b_M_readStep_80 (m_readDecision (w := w) (b := b) (s := cS S) hC h0 h1 hbl hK hw hG (fun S1 hk e1 q I2 L2 h2 => b_M_readStep_85 (Or.inr rfl) ?_) (fun e he I2 L2 h2 => b_M_readStep_85 (Or.inl rfl) (her e ?_ I2 L2 h2)))
    · have hm := Mo_cnd (mTd C) k _ _ e1
      have c1 : cn (adv (em 1 (nI (cS S)) (stU w S))) = cn S + 1 := rfl
      have c2 : ti (adv (em 1 (nI (cS S)) (stU w S))) = ti S + 1 := rfl
      rw [c1, c2] at hm
      rcases hw with ⟨rfl, rfl⟩ | ⟨rfl, rfl⟩
      · rw [← bst_8] at e1
        refine hif S1 hk ?_ (by omega) (by omega) q I2 L2 h2
        rw [es, if_pos hK, e1]; rfl
      · rw [← bst_10] at e1
        refine hwh S1 hk ?_ (by omega) (by omega) q I2 L2 h2
        rw [es, if_neg (by rw [hK]; decide), if_pos hK, e1]; rfl
    · rcases hw with ⟨rfl, rfl⟩ | ⟨rfl, rfl⟩
      · rw [← bst_8] at he
        rw [es, if_pos hK]
        rcases he with he | ⟨S1, he, ho⟩
        · rw [he]; rfl
        · rw [he, pb_ok, brs, hbo _ _ ho]; rfl
      · rw [← bst_10] at he
        rw [es, if_neg (by rw [hK]; decide), if_pos hK]
        rcases he with he | ⟨S1, he, ho⟩
        · rw [he]; rfl
        · rw [he, pb_ok, lop, hbo _ _ ho]; rfl
  -- without
  have k92 : ¬ tK (mTd C) (ti S) = 8 → ¬ tK (mTd C) (ti S) = 10 → ∀ I1, MP C (bst 0 S) [] k bs I1 L → ∀ x : Int32, aw_z X (d + 9) y_M_readStep Q 92 [some (.ref 69), none, none] [.int x] (aw_s I1 L D) := by
    intro n8 n10 I1 h1 x
    rw [if_neg n8, if_neg n10] at es
    have tb : ti (bst 0 S) = ti S := rfl
    have hb1 : cn (bst 0 S) ≤ ti (bst 0 S) + mDl C + 1 := by show cn S + 1 ≤ ti S + mDl C + 1; omega
    have ca : cn (adv (bst 0 S)) = cn S + 1 := rfl
    have ta : ti (adv (bst 0 S)) = ti S + 1 := rfl
    refine b_M_readStep_92 (m_isName h1 (fun q => b_M_readStep_97 (fun y => absurd y (by decide)) (fun _ => ?_)) (fun n2 => b_M_readStep_97 (fun _ => c_M_spelt (v := lN (kyC 2)) (by decide +kernel) (b_M_readStep_158 (m_isKey h1 (w := 2) (by decide) (fun q => b_M_readStep_161 (fun y => absurd y (by decide)) (fun _ => ?_)) (fun n7 => b_M_readStep_161 (fun _ => c_M_spelt (v := lN (kyC 1)) (by decide +kernel) (b_M_readStep_182 (m_isKey h1 (w := 1) (by decide) (fun q => b_M_readStep_185 (fun y => absurd y (by decide)) (fun _ => ?_)) (fun n6 => b_M_readStep_185 (fun _ => c_M_spelt (v := lN (kyC 8)) (by decide +kernel) (b_M_readStep_205 (m_isKey h1 (w := 8) (by decide) (fun q => b_M_readStep_208 (fun y => absurd y (by decide)) (fun _ => ?_)) (fun n13 => b_M_readStep_208 (fun _ => c_M_spelt (v := lN (kyC 9)) (by decide +kernel) (b_M_readStep_265 (m_isKey h1 (w := 9) (by decide) (fun q => b_M_readStep_268 (fun y => absurd y (by decide)) (fun _ => ?_)) (fun n14 => b_M_readStep_268 (fun _ => c_M_spelt (v := lN (kyC 6)) (by decide +kernel) (b_M_readStep_303 (m_isKey h1 (w := 6) (by decide) (fun q => b_M_readStep_306 ?_) (fun n11 => b_M_readStep_306 ?_)))) (fun y => absurd rfl y))))) (fun y => absurd rfl y))))) (fun y => absurd rfl y))))) (fun y => absurd rfl y))))) (fun y => absurd rfl y)))
    · -- NAME
      have q : tK (mTd C) (ti S) = 2 := q
      rw [if_neg (by rw [q]; decide), if_neg (by rw [q]; decide), if_pos q] at es
      have ev : (L 69 11).toInt32 - 1 = tV (mTd C) (ti S) := h1.let.1 q
      rw [ev]
      refine m_go hC h1 (by rw [tb, q]; decide) (by rw [tb, q]; decide) (fun I2 L2 h2 => b_M_readStep_112 (m_readSign hC h2 (by decide) (fun S3 e3 I3 L3 h3 => ?_) (fun e he I3 h3 => b_M_readStep_118 (fun _ => her e (by rw [es, he]; rfl) I3 L2 h3) (fun y => absurd rfl y))))
      have hm3 := Mo_sgn (mTd C) 61 _ _ e3
      rw [ca, ta] at hm3
      rw [e3, pb_ok] at es
      refine b_M_readStep_118 (fun y => absurd y (by decide)) (fun _ => m_readSum hC h3 (by omega) (fun S4 e4 I4 L4 h4 => ?_) (fun e he I4 L4 h4 => b_M_readStep_125 (fun y => absurd rfl y) (fun _ => her e (by rw [es, he]; rfl) I4 L4 h4)))
      have hm4 := Mo_rdI (mTd C) (k + 1) _ _ e4
      rw [e4, pb_ok] at es
      exact b_M_readStep_125 (fun _ => m_emit (o := 15) hC h4 (by omega) (fun I5 h5 => b_M_readStep_137 (m_readSign hC h5 (by decide) (fun S6 e6 I6 L6 h6 => b_M_readStep_144 (Or.inr rfl) (hok S6 (by rw [es]; exact e6) I6 L6 h6)) (fun e he I6 h6 => b_M_readStep_144 (Or.inl rfl) (her e (by rw [es]; exact he) I6 L4 h6))))) (fun y => absurd y (by decide))
    · -- cell
      have q : tK (mTd C) (ti S) = 7 := q
      rw [if_neg (by rw [q]; decide), if_neg (by rw [q]; decide), if_neg (by rw [q]; decide), if_pos q] at es
      exact m_readCell hC h1 (by rw [tb, q]; decide) (by rw [tb, q]; decide) hb1 (fun S' e' I' L' h' => b_M_readStep_168 (Or.inr rfl) (hok S' (by rw [es]; exact e') I' L' h')) (fun e he I' L' h' => b_M_readStep_168 (Or.inl rfl) (her e (by rw [es]; exact he) I' L' h'))
    · -- call
      have q : tK (mTd C) (ti S) = 6 := q
      rw [if_neg (by rw [q]; decide), if_neg (by rw [q]; decide), if_neg (by rw [q]; decide), if_neg (by rw [q]; decide), if_pos q] at es
      exact m_readCall hC h1 (by rw [tb, q]; decide) (by rw [tb, q]; decide) hb1 (fun S' e' I' L' h' => b_M_readStep_192 (Or.inr rfl) (hok S' (by rw [es]; exact e') I' L' h')) (fun e he I' L' h' => b_M_readStep_192 (Or.inl rfl) (her e (by rw [es]; exact he) I' L' h'))
    · -- ask
      have q : tK (mTd C) (ti S) = 13 := q
      rw [if_neg (by rw [q]; decide), if_neg (by rw [q]; decide), if_neg (by rw [q]; decide), if_neg (by rw [q]; decide), if_neg (by rw [q]; decide), if_pos q, ask] at es
      refine m_go hC h1 (by rw [tb, q]; decide) (by rw [tb, q]; decide) (fun I2 L2 h2 => b_M_readStep_215 (m_isName h2 (fun q2 => b_M_readStep_219 (fun _ => ?_) (fun y => absurd y (by decide))) (fun q2 => b_M_readStep_219 (fun y => absurd rfl y) (fun _ => m_bad h2 (fun _ => rfl) (fun I' h' => b_M_readStep_227 (Or.inl rfl) (her _ (by rw [es, sgn, if_neg q2]; rfl) I' L2 h'))))))
      have ev : (L2 69 11).toInt32 - 1 = tV (mTd C) (ti (adv (bst 0 S))) := h2.let.1 q2
      rw [ev]
      rw [sgn, if_pos q2, pb_ok] at es
      refine m_emit (o := 19) hC h2 (by rw [ca, ta]; omega) (fun I3 h3 => b_M_readStep_241 (m_go hC h3 (by rw [show ti (em 19 (tV (mTd C) (ti (adv (bst 0 S)))) (adv (bst 0 S))) = ti (adv (bst 0 S)) from rfl, q2]; decide) (by rw [show ti (em 19 (tV (mTd C) (ti (adv (bst 0 S)))) (adv (bst 0 S))) = ti (adv (bst 0 S)) from rfl, q2]; decide) (fun I4 L4 h4 => b_M_readStep_246 (m_readSign hC h4 (by decide) (fun S6 e6 I6 L6 h6 => b_M_readStep_252 (Or.inr rfl) (hok S6 (by rw [es]; exact e6) I6 L6 h6)) (fun e he I6 h6 => b_M_readStep_252 (Or.inl rfl) (her e (by rw [es]; exact he) I6 L4 h6))))))
    · -- end
      have q : tK (mTd C) (ti S) = 14 := q
      rw [if_neg (by rw [q]; decide), if_neg (by rw [q]; decide), if_neg (by rw [q]; decide), if_neg (by rw [q]; decide), if_neg (by rw [q]; decide), if_neg (by rw [q]; decide)] at es
      refine m_emit (o := 20) hC h1 hb1 (fun I3 h3 => b_M_readStep_278 (m_go hC h3 (by rw [show ti (em 20 0 (bst 0 S)) = ti S from rfl, q]; decide) (by rw [show ti (em 20 0 (bst 0 S)) = ti S from rfl, q]; decide) (fun I4 L4 h4 => b_M_readStep_283 (m_readSign hC h4 (by decide) (fun S6 e6 I6 L6 h6 => b_M_readStep_289 (Or.inr rfl) (hok S6 (by rw [es]; exact e6) I6 L6 h6)) (fun e he I6 h6 => b_M_readStep_289 (Or.inl rfl) (her e (by rw [es]; exact he) I6 L4 h6))))))
    · -- must
      have q : tK (mTd C) (ti S) = 11 := q
      rw [if_pos q] at es
      refine m_go hC h1 (by rw [tb, q]; decide) (by rw [tb, q]; decide) (fun I2 L2 h2 => b_M_readStep_311 (m_readCond hC h2 (by rw [ca, ta]; omega) (fun S3 e3 I3 L3 h3 => ?_) (fun e he I3 L3 h3 => b_M_readStep_315 (fun y => absurd rfl y) (fun y => absurd rfl y) (fun _ => her e (by rw [es, he]; rfl) I3 L3 h3))))
      have hm3 := Mo_cnd (mTd C) k _ _ e3
      rw [ca, ta] at hm3
      rw [e3, pb_ok] at es
      exact b_M_readStep_315 (fun _ y => absurd y (by decide)) (fun _ _ => b_M_readStep_332 (m_emit (o := 17) hC h3 (by omega) (fun I5 h5 => b_M_readStep_336 (m_readSign hC h5 (by decide) (fun S6 e6 I6 L6 h6 => b_M_readStep_343 (Or.inr rfl) (hok S6 (by rw [es]; exact e6) I6 L6 h6)) (fun e he I6 h6 => b_M_readStep_343 (Or.inl rfl) (her e (by rw [es]; exact he) I6 L3 h6)))))) (fun y => absurd y (by decide))
    · -- let
      have n11 : ¬ tK (mTd C) (ti S) = 11 := n11
      have q : tK (mTd C) (ti S) = 12 := by
        rcases hs with g | g | g | g | g | g | g | g | g
        · exact absurd g n2
        · exact absurd g n6
        · exact absurd g n7
        · exact absurd g n8
        · exact absurd g n10
        · exact absurd g n11
        · exact g
        · exact absurd g n13
        · exact absurd g n14
      rw [if_neg n11, if_pos q] at es
      refine m_go hC h1 (by rw [tb, q]; decide) (by rw [tb, q]; decide) (fun I2 L2 h2 => b_M_readStep_311 (m_readCond hC h2 (by rw [ca, ta]; omega) (fun S3 e3 I3 L3 h3 => ?_) (fun e he I3 L3 h3 => b_M_readStep_315 (fun y => absurd rfl y) (fun y => absurd rfl y) (fun _ => her e (by rw [es, he]; rfl) I3 L3 h3))))
      have hm3 := Mo_cnd (mTd C) k _ _ e3
      rw [ca, ta] at hm3
      rw [e3, pb_ok] at es
      exact b_M_readStep_315 (fun _ _ => b_M_readStep_332 (m_emit (o := 18) hC h3 (by omega) (fun I5 h5 => b_M_readStep_336 (m_readSign hC h5 (by decide) (fun S6 e6 I6 L6 h6 => b_M_readStep_343 (Or.inr rfl) (hok S6 (by rw [es]; exact e6) I6 L6 h6)) (fun e he I6 h6 => b_M_readStep_343 (Or.inl rfl) (her e (by rw [es]; exact he) I6 L3 h6)))))) (fun _ y => absurd rfl y) (fun y => absurd y (by decide))
  have hm1 : ∀ v, mT (tK (mTd C) (ti S)) (tV (mTd C) (ti S)) (aw_u I 75 5 v 69 6) (aw_u I 75 5 v 69 7) (aw_u I 75 5 v 69 8) (L 69 11) := fun v => by rw [au_o (by decide)]; exact h.mt
  have k65 : ∀ w : Bool, (w = true ↔ tK (mTd C) (ti S) = 10) → aw_z X (d + 9) y_M_readStep Q 65 [some (.ref 69), some (.int (nI (cS S))), none] [.int (p_b w), .int (nI (300 + cS S)), .ref 77] (aw_s (aw_u I 75 5 (nI (cS S + 1))) L D) := by
    intro w hw
    have h1 := h.stU (w := w) hs60
    have B1 := @b_M_readStep_65 X (d + 8) Q (aw_u I 75 5 (nI (cS S + 1))) L D (nI (cS S)) (p_b w) (nI (300 + cS S))
    rw [nI_clamp (show 300 + cS S < 2 ^ 31 by omega)] at B1
    have hm2 : mT (tK (mTd C) (ti S)) (tV (mTd C) (ti S)) (aw_u (aw_u I 75 5 (nI (cS S + 1))) 77 (300 + cS S) (p_b w) 69 6) (aw_u (aw_u I 75 5 (nI (cS S + 1))) 77 (300 + cS S) (p_b w) 69 7) (aw_u (aw_u I 75 5 (nI (cS S + 1))) 77 (300 + cS S) (p_b w) 69 8) (L 69 11) := h1.mt
    refine B1 (aw_in_nI (by omega) (by decide)) (p_b_01 w) (t_isIf hm2 (fun q => b_M_readStep_70 (fun _ => k80 w 8 q (Or.inl ⟨rfl, ?_⟩) _ h1) (fun y => absurd y (by decide))) (fun n8 => b_M_readStep_70 (fun y => absurd rfl y) (fun _ => t_isLoop hm2 (fun q => b_M_readStep_77 (fun y => absurd y (by decide)) (fun _ => k80 w 10 q (Or.inr ⟨rfl, hw.mpr q⟩) _ h1)) (fun n10 => b_M_readStep_77 (fun _ => m_emit (o := 0) hC h1 (by show cn S ≤ ti S + mDl C + 1; omega) (fun I2 h2 => k92 n8 n10 I2 ?_ _)) (fun y => absurd rfl y)))))
    · cases w with
      | false => rfl
      | true => rw [hw.mp rfl] at q; exact absurd q (by decide)
    · have ew : w = false := by
        cases w with
        | false => rfl
        | true => exact absurd (hw.mp rfl) n10
      subst ew
      rw [bst_0]; exact h2
  exact t_isLoop (hm1 _) (fun q => k65 true ⟨fun _ => q, fun _ => rfl⟩) (fun q => k65 false ⟨fun y => (by cases y), fun y => absurd y q⟩)
end MS3
