/-! PART 80: the reference's reading: blocks are closed -/
section MPR
variable {X : aw_X} {d : Nat} {Q : Option Value → aw_H → Prop} {I : Nat → Nat → Int32} {L : Nat → Nat → Int64} {D : Nat → Nat} {C : MC} {S : PT} {k : Nat} {bs : List (Nat × Nat × Nat)}
theorem MP.popB {b : Nat × Nat × Nat} (h : MP C S [] k (b :: bs) I L) (hk : k < 10) : MP C S [] (k + 1) bs (aw_u (aw_u I 69 26 (nI bs.length)) 69 27 (nI (10 - (k + 1)))) L ∧ I 69 26 - 1 = nI bs.length ∧ I 69 27 - 1 = nI (10 - (k + 1)) ∧ I 80 bs.length = nI b.1 ∧ I 81 bs.length = nI b.2.1 ∧ I 82 bs.length = nI b.2.2 ∧ bs.length ≤ 9 := by
  obtain ⟨fr, tp, ⟨t1, t2, t3, t4⟩, c1, c2, c3, c4, c5, c6, c7, c8, c9, c10, c11, c12, c13, c14, c15, c16, c17, c18, c19, c20⟩ := h
  simp only [List.length_cons] at c3 c20
  generalize eI : aw_u (aw_u I 69 26 (nI bs.length)) 69 27 (nI (10 - (k + 1))) = I1
  have f : ∀ o, o ≠ 69 → I1 o = I o := fun o x => by rw [← eI, au_o x, au_o x]
  have g : ∀ x, x ≠ 26 → x ≠ 27 → I1 69 x = I 69 x := fun x y z => by rw [← eI, au_k z, au_k y]
  have fr' : FRM C I1 L := by rw [← eI]; exact (fr.u (by omega)).u (by omega)
  refine ⟨⟨fr', ⟨by rw [g 3 (by decide) (by decide)]; exact tp.1, tp.2.1, fun j hj => by rw [f 70 (by decide)]; exact tp.2.2 j hj⟩, ⟨t1, by rw [g 5 (by decide) (by decide)]; exact t2, by rw [g 6 (by decide) (by decide), g 7 (by decide) (by decide), g 8 (by decide) (by decide)]; exact t3, by rw [g 4 (by decide) (by decide)]; exact t4⟩, by rw [g 25 (by decide) (by decide)]; exact c1, trivial, ?_, ?_, ?_, by rw [g 28 (by decide) (by decide)]; exact c6, by rw [g 29 (by decide) (by decide)]; exact c7, by rw [g 30 (by decide) (by decide)]; exact c8, by rw [f 75 (by decide)]; exact c9, by rw [f 76 (by decide)]; exact c10, fun j a b => by rw [f 71 (by decide), f 72 (by decide)]; exact c11 j a b, fun a j b c => by rw [f 78 (by decide)]; exact c12 a j b c, fun s a => by rw [f 77 (by decide)]; exact c13 s a, fun j a => by rw [f 83 (by decide)]; exact c14 j a, c15, c16, c17, c18, by omega, by omega⟩, by rw [c3, nI_pred], ?_, c4.1, c4.2.1, c4.2.2.1, by omega⟩
  · rw [← eI, au_k (by decide), au_s]
  · rw [f 80 (by decide), f 81 (by decide), f 82 (by decide)]; exact c4.2.2.2
  · rw [← eI, au_s]
  · rw [c5, show 10 - k = (10 - (k + 1)) + 1 by omega, nI_pred]
/-- from the call to where the kind of the block is looked at -/
theorem m_close {a j st : Nat} (hC : mOK C) (h : MP C S [] k ((a, j, st) :: bs) I L) (hk : k < 10) (hK : tK (mTd C) (ti S) = 125)
    (hgo : ∀ I' L', MP C (adv S) [] (k + 1) bs I' L' → I' 81 bs.length = nI j → I' 82 bs.length = nI st → aw_z X (d + 3) y_M_close Q 34 [some (.ref 69), some (.int (nI a)), none, none] [] (aw_s I' L' D)) : aw_m X (d + 3) y_M_close [.ref 69] (aw_s I L D) Q := by
  obtain ⟨h1, e1, e2, e3, e4, e5, e6⟩ := h.popB hk
  have B0 := @b_M_close_0 X (d + 2) Q I L D
  rw [e1, e2, nI_clamp (show bs.length < 2 ^ 31 by omega), e3] at B0
  exact aw_go rfl rfl (B0 (aw_in_nI (by omega) (by decide)) (m_go2 hC h1 (by rw [hK]; decide) (by rw [hK]; decide) (fun I' L' h' f => hgo I' L' h' (by rw [f 81 (by decide), au_o (by decide), au_o (by decide)]; exact e4) (by rw [f 82 (by decide), au_o (by decide), au_o (by decide)]; exact e5))))
/-- the end of 'else' -/
theorem m_close2 {j st : Nat} (hC : mOK C) (h0 : mDl C = 0) (h0' : mLo C = 0) (h : MP C S [] k ((2, j, st) :: bs) I L) (hk : k < 10) (hK : tK (mTd C) (ti S) = 125) (hj : j < cn S) (hcn : cn S ≤ 600)
    (hQ : ∀ I' L', MP C (pat j (adv S)) [] (k + 1) bs I' L' → Q (some (.int 1)) (aw_s I' L' D)) : aw_m X (d + 3) y_M_close [.ref 69] (aw_s I L D) Q := by
  refine m_close hC h hk hK (fun I1 L1 h1 e1 e2 => ?_)
  have B0 := @b_M_close_34 X (d + 2) Q I1 L1 D 2
  rw [h1.bl.1, nI_clamp (show bs.length < 2 ^ 31 by have := h1.bl.2.2; omega), e1] at B0
  exact B0 (fun _ _ x => absurd rfl x) (fun _ _ _ => aw_in_nI (by have := h1.bl.2.2; omega) (by decide)) (fun _ _ _ => m_patch hC h0 h0' h1 hj hcn (fun I2 h2 => b_M_close_122 (b_M_close_192 (hQ I2 L1 h2)))) (fun _ x => absurd x (by decide)) (fun _ x => absurd x (by decide)) (fun x => absurd x (by decide))
/-- the end of 'while' -/
theorem m_close3 {j st : Nat} (hC : mOK C) (h0 : mDl C = 0) (h0' : mLo C = 0) (h : MP C S [] k ((3, j, st) :: bs) I L) (hk : k < 10) (hK : tK (mTd C) (ti S) = 125) (hj : j < cn S) (hG : cn S ≤ ti S)
    (hQ : ∀ I' L', MP C (pat j (em 22 (nI st) (adv S))) [] (k + 1) bs I' L' → Q (some (.int 1)) (aw_s I' L' D)) : aw_m X (d + 3) y_M_close [.ref 69] (aw_s I L D) Q := by
  have h501 := hC.1.2.2.2.2
  have hti := h.2.2.1.1
  refine m_close hC h hk hK (fun I1 L1 h1 e1 e2 => ?_)
  have B0 := @b_M_close_34 X (d + 2) Q I1 L1 D 3
  have hb := h1.bl.2.2
  rw [h1.bl.1, nI_clamp (show bs.length < 2 ^ 31 by omega), e2] at B0
  refine B0 (fun _ x => absurd rfl x) (fun _ x => absurd rfl x) (fun _ x => absurd rfl x) (fun _ _ => aw_in_nI (by omega) (by decide)) (fun _ _ => m_emit2 (o := 22) hC h1 (by show cn S ≤ ti S + 1 + mDl C + 1; omega) (fun I2 h2 f => ?_)) (fun x => absurd x (by decide))
  have B1 := @b_M_close_87 X (d + 2) Q I2 L1 D (nI (cn (adv S) - mDl C))
  rw [h2.bl.1, nI_clamp (show bs.length < 2 ^ 31 by omega), f 81 (by decide) (by decide) (by decide), e1] at B1
  exact B1 (aw_in_nI (by omega) (by decide)) (m_patch hC h0 h0' h2 (Nat.lt_succ_of_lt hj) (by show cn S + 1 ≤ 600; omega) (fun I3 h3 => b_M_close_101 (b_M_close_192 (hQ I3 L1 h3))))
/-- the end of 'if': with or without 'else' -/
theorem m_close1 {j st : Nat} (hC : mOK C) (h0 : mDl C = 0) (h0' : mLo C = 0) (h : MP C S [] k ((1, j, st) :: bs) I L) (hk : k < 10) (hK : tK (mTd C) (ti S) = 125) (hj : j < cn S) (hG : cn S ≤ ti S)
    (hno : ¬ tK (mTd C) (ti S + 1) = 9 → ∀ I' L', MP C (pat j (adv S)) [] (k + 1) bs I' L' → Q (some (.int 1)) (aw_s I' L' D))
    (hyes : tK (mTd C) (ti S + 1) = 9 → tK (mTd C) (ti S + 2) = 123 → ∀ I' L', MP C (adv (pat j (em 22 0 (adv (adv S))))) [] k ((2, cn S, 0) :: bs) I' L' → Q (some (.int 1)) (aw_s I' L' D))
    (her : ∀ e, tK (mTd C) (ti S + 1) = 9 → opn (mTd C) 123 (k + 1) (pat j (em 22 0 (adv (adv S)))) = .error e → FLp D C Q e) : aw_m X (d + 3) y_M_close [.ref 69] (aw_s I L D) Q := by
  have h501 := hC.1.2.2.2.2
  have hti := h.2.2.1.1
  have hb9 := (h.popB hk).2.2.2.2.2.2
  refine m_close hC h hk hK (fun I1 L1 h1 e1 e2 => ?_)
  have et : ti (adv S) = ti S + 1 := rfl
  refine b_M_close_34 (fun _ _ _ => c_M_spelt (v := lN (kyC 4)) (by decide +kernel) (b_M_close_138 (m_isKey h1 (w := 4) (by decide) (fun q => ?_) (fun q => ?_)))) (fun _ _ x => absurd x (by decide)) (fun _ _ x => absurd x (by decide)) (fun _ x => absurd x (by decide)) (fun _ x => absurd x (by decide)) (fun x => absurd x (by decide))
  · have q : tK (mTd C) (ti S + 1) = 9 := q
    have B0 := @b_M_close_141 X (d + 2) Q I1 L1 D 1
    rw [h1.bl.1, nI_clamp (show bs.length < 2 ^ 31 by omega), e1] at B0
    refine B0 (fun x => absurd x (by decide)) (fun x => absurd x (by decide)) (fun _ => aw_in_nI (by omega) (by decide)) (fun _ => m_go hC h1 (by rw [et, q]; decide) (by rw [et, q]; decide) (fun I2 L2 h2 => b_M_close_158 (m_emit (o := 22) hC h2 (by show cn S ≤ ti S + 1 + 1 + mDl C + 1; omega) (fun I3 h3 => b_M_close_165 (m_patch hC h0 h0' h3 (Nat.lt_succ_of_lt hj) (by show cn S + 1 ≤ 600; omega) (fun I4 h4 => b_M_close_171 ?_))))))
    refine m_open (a := 2) (b := cn (adv (adv S)) - mDl C) (c := 0) hC h4 (fun _ => hb9) (fun hk2 q2 I5 L5 h5 => b_M_close_178 (Or.inr rfl) (hyes q q2 I5 L5 ?_)) (fun e he I5 L5 h5 => b_M_close_178 (Or.inl rfl) (her e q he I5 L5 h5))
    rw [h0, Nat.sub_zero] at h5
    exact h5
  · have q : ¬ tK (mTd C) (ti S + 1) = 9 := q
    have B0 := @b_M_close_141 X (d + 2) Q I1 L1 D 0
    rw [h1.bl.1, nI_clamp (show bs.length < 2 ^ 31 by omega), e1] at B0
    exact B0 (fun _ => aw_in_nI (by omega) (by decide)) (fun _ => m_patch hC h0 h0' h1 hj (by show cn S ≤ 600; omega) (fun I2 h2 => b_M_close_192 (hno q I2 L1 h2))) (fun x => absurd rfl x) (fun x => absurd rfl x)
/-- the end of a proc -/
theorem m_close0 {v st : Nat} (hC : mOK C) (h : MP C S [] k ((0, 0, st) :: bs) I L) (hk : k < 10) (hK : tK (mTd C) (ti S) = 125) (hG : cn S ≤ ti S + mDl C) (hv : v < 4) (hpv : mI0 C 69 31 = nI v)
    (hQ : ∀ I' L', MP C (seR v (nI st) (em 24 0 (adv S))) [] (k + 1) bs I' L' → Q (some (.int 1)) (aw_s I' L' D)) : aw_m X (d + 3) y_M_close [.ref 69] (aw_s I L D) Q := by
  refine m_close hC h hk hK (fun I1 L1 h1 e1 e2 => ?_)
  have hb := h1.bl.2.2
  refine b_M_close_34 (fun x => absurd rfl x) (fun x => absurd rfl x) (fun x => absurd rfl x) (fun x => absurd rfl x) (fun x => absurd rfl x) (fun _ => m_emit2 (o := 24) hC h1 (by show cn S ≤ ti S + 1 + mDl C + 1; omega) (fun I2 h2 f => ?_))
  have B1 := @b_M_close_45 X (d + 2) Q I2 L1 D (nI (cn (adv S) - mDl C))
  have e31 : I2 69 31 = nI v := by rw [h2.1.2.1 31 (by decide) (by decide) (by decide)]; exact hpv
  rw [h2.bl.1, nI_clamp (show bs.length < 2 ^ 31 by omega), f 82 (by decide) (by decide) (by decide), e2, e31, nI_clamp (show v < 2 ^ 31 by omega)] at B1
  refine B1 (aw_in_nI (by omega) (by decide)) (aw_in_nI hv (by decide)) (b_M_close_192 (hQ _ L1 ?_))
  obtain ⟨fr, tp, ⟨t1, t2, t3, t4⟩, c1, c2, c3, c4, c5, c6, c7, c8, c9, c10, c11, c12, c13, c14, c15, c16, c17, c18, c19, c20⟩ := h2
  have f : ∀ o, o ≠ 83 → aw_u I2 83 v (nI st) o = I2 o := fun o a => au_o a
  refine ⟨fr.u (by omega), ⟨by rw [f 69 (by decide)]; exact tp.1, tp.2.1, fun j hj => by rw [f 70 (by decide)]; exact tp.2.2 j hj⟩, ⟨t1, by rw [f 69 (by decide)]; exact t2, by rw [f 69 (by decide)]; exact t3, by rw [f 69 (by decide)]; exact t4⟩, by rw [f 69 (by decide)]; exact c1, trivial, by rw [f 69 (by decide)]; exact c3, by rw [f 80 (by decide), f 81 (by decide), f 82 (by decide)]; exact c4, by rw [f 69 (by decide)]; exact c5, by rw [f 69 (by decide)]; exact c6, by rw [f 69 (by decide)]; exact c7, by rw [f 69 (by decide)]; exact c8, by rw [f 75 (by decide)]; exact c9, by rw [f 76 (by decide)]; exact c10, fun i a b => by rw [f 71 (by decide), f 72 (by decide)]; exact c11 i a b, fun a j b c => by rw [f 78 (by decide)]; exact c12 a j b c, fun s a => by rw [f 77 (by decide)]; exact c13 s a, fun j a => ?_, c15, c16, c17, c18, c19, c20⟩
  show aw_u I2 83 v (nI st) 83 j = va_up (cR (em 24 0 (adv S))) v (nI st) j
  by_cases q : j = v
  · subst q; rw [up_s, au_s]
  · rw [up_n _ _ q, au_k q]; exact c14 j a
end MPR
