/-! PART 82: the reference's reading: procs, a whole program -/
abbrev rb (C : MC) (J : Nat → Nat → Int32) : MC := (mTd C, mBt C, mZ C, mPs C, mLo C, mDl C, J, mL0 C)
def JR (J0 J : Nat → Nat → Int32) : Prop := (∀ o, o ≠ 69 → o ≠ 74 → J o = J0 o) ∧ (∀ x, x ≠ 31 → J 69 x = J0 69 x) ∧ (∀ j, j ≠ 5 → J 74 j = J0 74 j)
theorem JR.rf {J : Nat → Nat → Int32} : JR J J := ⟨fun _ _ _ => rfl, fun _ _ => rfl, fun _ _ => rfl⟩
theorem JR.tr {J0 J1 J2 : Nat → Nat → Int32} (a : JR J0 J1) (b : JR J1 J2) : JR J0 J2 := ⟨fun o h1 h2 => (b.1 o h1 h2).trans (a.1 o h1 h2), fun x h => (b.2.1 x h).trans (a.2.1 x h), fun j h => (b.2.2 j h).trans (a.2.2 j h)⟩
theorem JR.u31 {J : Nat → Nat → Int32} {v : Int32} : JR J (aw_u J 69 31 v) := ⟨fun o h1 h2 => au_o h1, fun x h => au_k h, fun j h => by rw [au_o (by decide)]⟩
theorem JR.u74 {J : Nat → Nat → Int32} {v : Int32} : JR J (aw_u J 74 5 v) := ⟨fun o h1 h2 => au_o h2, fun x h => by rw [au_o (by decide)], fun j h => au_k h⟩
section MPH
variable {X : aw_X} {d : Nat} {Q : Option Value → aw_H → Prop} {I : Nat → Nat → Int32} {L : Nat → Nat → Int64} {D : Nat → Nat} {C : MC} {S : PT} {k : Nat} {bs : List (Nat × Nat × Nat)}
theorem MP.r31 {v : Int32} (h : MP C S [] k bs I L) : MP (rb C (aw_u (mI0 C) 69 31 v)) S [] k bs (aw_u I 69 31 v) L := by
  obtain ⟨⟨f1, f2, f3, f4, f5, f6, f7⟩, tp, ⟨t1, t2, t3, t4⟩, c1, c2, c3, c4, c5, c6, c7, c8, c9, c10, c11, c12, c13, c14, c15, c16, c17, c18, c19, c20⟩ := h
  have f : ∀ o, o ≠ 69 → aw_u I 69 31 v o = I o := fun o a => au_o a
  have g : ∀ x, x ≠ 31 → aw_u I 69 31 v 69 x = I 69 x := fun x a => au_k a
  refine ⟨⟨fun o a1 a2 a3 a4 a5 a6 a7 a8 a9 a10 a11 a12 => ?_, fun x a b c => ?_, fun j a => ?_, fun j a => ?_, fun j a => ?_, fun j a => ?_, f7⟩, ⟨by rw [g 3 (by decide)]; exact tp.1, tp.2.1, fun j hj => by rw [f 70 (by decide)]; exact tp.2.2 j hj⟩, ⟨t1, by rw [g 5 (by decide)]; exact t2, by rw [g 6 (by decide), g 7 (by decide), g 8 (by decide)]; exact t3, by rw [g 4 (by decide)]; exact t4⟩, by rw [g 25 (by decide)]; exact c1, trivial, by rw [g 26 (by decide)]; exact c3, by rw [f 80 (by decide), f 81 (by decide), f 82 (by decide)]; exact c4, by rw [g 27 (by decide)]; exact c5, by rw [g 28 (by decide)]; exact c6, by rw [g 29 (by decide)]; exact c7, by rw [g 30 (by decide)]; exact c8, by rw [f 75 (by decide)]; exact c9, by rw [f 76 (by decide)]; exact c10, fun j a b => by rw [f 71 (by decide), f 72 (by decide)]; exact c11 j a b, fun a j b c => by rw [f 78 (by decide)]; exact c12 a j b c, fun s a => by rw [f 77 (by decide)]; exact c13 s a, fun j a => by rw [f 83 (by decide)]; exact c14 j a, c15, c16, c17, c18, c19, c20⟩
  · show aw_u I 69 31 v o = aw_u (mI0 C) 69 31 v o
    rw [au_o a1, au_o a1]; exact f1 o a1 a2 a3 a4 a5 a6 a7 a8 a9 a10 a11 a12
  · show aw_u I 69 31 v 69 x = aw_u (mI0 C) 69 31 v 69 x
    by_cases q : x = 31
    · subst q; rw [au_s, au_s]
    · rw [au_k q, au_k q]; exact f2 x a b c
  · show aw_u I 69 31 v 71 j = aw_u (mI0 C) 69 31 v 71 j ∧ aw_u I 69 31 v 72 j = aw_u (mI0 C) 69 31 v 72 j
    rw [au_o (by decide), au_o (by decide), au_o (by decide), au_o (by decide)]; exact f3 j a
  · show aw_u I 69 31 v 75 j = aw_u (mI0 C) 69 31 v 75 j ∧ aw_u I 69 31 v 76 j = aw_u (mI0 C) 69 31 v 76 j
    rw [au_o (by decide), au_o (by decide), au_o (by decide), au_o (by decide)]; exact f4 j a
  · show aw_u I 69 31 v 77 j = aw_u (mI0 C) 69 31 v 77 j
    rw [f 77 (by decide)] at a ⊢
    rw [au_o (by decide)]; exact f5 j a
  · show aw_u I 69 31 v 78 j = aw_u (mI0 C) 69 31 v 78 j
    rw [au_o (by decide), au_o (by decide)]; exact f6 j a
theorem MP.r74 {v : Int32} (h : MP C S [] k bs I L) : MP (rb C (aw_u (mI0 C) 74 5 v)) S [] k bs (aw_u I 74 5 v) L := by
  obtain ⟨⟨f1, f2, f3, f4, f5, f6, f7⟩, tp, ⟨t1, t2, t3, t4⟩, c1, c2, c3, c4, c5, c6, c7, c8, c9, c10, c11, c12, c13, c14, c15, c16, c17, c18, c19, c20⟩ := h
  have f : ∀ o, o ≠ 74 → aw_u I 74 5 v o = I o := fun o a => au_o a
  have f' : ∀ o, o ≠ 74 → aw_u (mI0 C) 74 5 v o = mI0 C o := fun o a => au_o a
  have g := f 69 (by decide)
  refine ⟨⟨fun o a1 a2 a3 a4 a5 a6 a7 a8 a9 a10 a11 a12 => ?_, fun x a b c => ?_, fun j a => ?_, fun j a => ?_, fun j a => ?_, fun j a => ?_, f7⟩, ⟨by rw [g]; exact tp.1, tp.2.1, fun j hj => by rw [f 70 (by decide)]; exact tp.2.2 j hj⟩, ⟨t1, by rw [g]; exact t2, by rw [g]; exact t3, by rw [g]; exact t4⟩, by rw [g]; exact c1, trivial, by rw [g]; exact c3, by rw [f 80 (by decide), f 81 (by decide), f 82 (by decide)]; exact c4, by rw [g]; exact c5, by rw [g]; exact c6, by rw [g]; exact c7, by rw [g]; exact c8, by rw [f 75 (by decide)]; exact c9, by rw [f 76 (by decide)]; exact c10, fun j a b => by rw [f 71 (by decide), f 72 (by decide)]; exact c11 j a b, fun a j b c => by rw [f 78 (by decide)]; exact c12 a j b c, fun s a => by rw [f 77 (by decide)]; exact c13 s a, fun j a => by rw [f 83 (by decide)]; exact c14 j a, c15, c16, c17, c18, c19, c20⟩
  · show aw_u I 74 5 v o = aw_u (mI0 C) 74 5 v o
    by_cases q : o = 74
    · subst q
      rw [aw_u_same, aw_u_same, f1 74 a1 a2 a3 a4 a5 a6 a7 a8 a9 a10 a11 a12]
    · rw [f o q, f' o q]; exact f1 o a1 a2 a3 a4 a5 a6 a7 a8 a9 a10 a11 a12
  · show aw_u I 74 5 v 69 x = aw_u (mI0 C) 74 5 v 69 x
    rw [g, f' 69 (by decide)]; exact f2 x a b c
  · show aw_u I 74 5 v 71 j = aw_u (mI0 C) 74 5 v 71 j ∧ aw_u I 74 5 v 72 j = aw_u (mI0 C) 74 5 v 72 j
    rw [f 71 (by decide), f 72 (by decide), f' 71 (by decide), f' 72 (by decide)]; exact f3 j a
  · show aw_u I 74 5 v 75 j = aw_u (mI0 C) 74 5 v 75 j ∧ aw_u I 74 5 v 76 j = aw_u (mI0 C) 74 5 v 76 j
    rw [f 75 (by decide), f 76 (by decide), f' 75 (by decide), f' 76 (by decide)]; exact f4 j a
  · show aw_u I 74 5 v 77 j = aw_u (mI0 C) 74 5 v 77 j
    rw [f 77 (by decide)] at a ⊢
    rw [f' 77 (by decide)]; exact f5 j a
  · show aw_u I 74 5 v 78 j = aw_u (mI0 C) 74 5 v 78 j
    rw [f 78 (by decide), f' 78 (by decide)]; exact f6 j a
theorem m_readProc (hC : mOK C) (h0 : mDl C = 0) (h : MP C S [] 10 [] I L) (hK : tK (mTd C) (ti S) = 5)
    (hok : ∀ v, v < 4 → tK (mTd C) (ti S + 1) = 3 → tV (mTd C) (ti S + 1) = nI v → cR S v = -1 → tK (mTd C) (ti S + 2) = 123 → ∀ I' L', MP (rb C (aw_u (mI0 C) 69 31 (nI v))) (adv (adv (adv S))) [] 9 [(0, 0, cn S)] I' L' → Q (some (.int 1)) (aw_s I' L' D))
    (her1 : ¬ tK (mTd C) (ti S + 1) = 3 → FLp D C Q (1, ti S + 1)) (her4 : ∀ v, tK (mTd C) (ti S + 1) = 3 → tV (mTd C) (ti S + 1) = nI v → v < 4 → ¬ cR S v = -1 → FLp D (rb C (aw_u (mI0 C) 69 31 (nI v))) Q (4, ti S + 1))
    (hero : ∀ v e, tK (mTd C) (ti S + 1) = 3 → tV (mTd C) (ti S + 1) = nI v → v < 4 → cR S v = -1 → opn (mTd C) 123 10 (adv (adv S)) = .error e → FLp D (rb C (aw_u (mI0 C) 69 31 (nI v))) Q e) : aw_m X (d + 3) y_M_readProc [.ref 69] (aw_s I L D) Q := by
  refine aw_go rfl rfl (b_M_readProc_0 (m_go hC h (by rw [hK]; decide) (by rw [hK]; decide) (fun I1 L1 h1 => b_M_readProc_4 (m_isProc h1 (fun q => ?_) (fun q => b_M_readProc_8 (fun x => absurd rfl x) (fun x => absurd rfl x) (fun x => absurd rfl x) (fun _ => m_bad h1 (fun _ => rfl) (fun I' h' => b_M_readProc_16 (Or.inl rfl) (her1 q I' L1 h'))))))))
  have q : tK (mTd C) (ti S + 1) = 3 := q
  obtain ⟨v, hv, e1, e2⟩ := h1.let.2 q
  have e1 : tV (mTd C) (ti S + 1) = nI v := e1
  have B0 := @b_M_readProc_8 X (d + 2) Q I1 L1 D 1
  have e83 : I1 83 v = cR S v := h1.2.2.2.2.2.2.2.2.2.2.2.2.2.2.2.2.1 v hv
  rw [e2, nI_clamp (show v < 2 ^ 31 by omega), e83] at B0
  have h2 := h1.r31 (v := nI v)
  have hC' : mOK (rb C (aw_u (mI0 C) 69 31 (nI v))) := hC
  refine B0 (fun _ => aw_in_nI hv (by decide)) (fun _ hn => m_go hC' h2 ?_ ?_ (fun I3 L3 h3 => ?_)) (fun _ hn => m_bad h2 (fun x => ?_) (fun I' h' => b_M_readProc_47 (Or.inl rfl) (her4 v q e1 hv hn I' L1 h'))) (fun x => absurd x (by decide))
  · show tK (mTd C) (ti S + 1) ≠ 0
    rw [q]; decide
  · show tK (mTd C) (ti S + 1) ≠ 1
    rw [q]; decide
  · have B1 := @b_M_readProc_52 X (d + 2) Q I3 L3 D
    have e30 : I3 69 30 = nI (cn S - mDl C) := h3.2.2.2.2.2.2.2.2.2.2.1
    rw [e30] at B1
    refine B1 (m_open (a := 0) (b := 0) (c := cn S - mDl C) hC' h3 (fun _ => by decide) (fun _ q2 I4 L4 h4 => b_M_readProc_62 (Or.inr rfl) (hok v hv q e1 hn q2 I4 L4 ?_)) (fun e he I4 L4 h4 => b_M_readProc_62 (Or.inl rfl) (hero v e q e1 hv hn he I4 L4 h4)))
    rw [h0, Nat.sub_zero] at h4
    exact h4
  · have x : tK (mTd C) (ti S + 1) = 0 := x
    rw [q] at x; exact absurd x (by decide)
/-- procs, one after another -/
theorem l_mprl : ∀ (f : Nat) (C : MC) (S : PT), mOK C → mDl C = 0 → mLo C = 0 → mI0 C 74 5 = nI (cn S) → (mTd C).1 < ti S + f → cn S ≤ ti S →
    (∀ J S', JR (mI0 C) J → prl (mTd C) f S = .ok S' → ¬ tK (mTd C) (ti S') = 5 → J 74 5 = nI (cn S') → cn S' ≤ ti S' → TPp X d D (rb C J) Q S' [] 10 true) →
    (∀ J e, JR (mI0 C) J → prl (mTd C) f S = .error e → FLp D (rb C J) Q e) → TPp X d D C Q S [] 10 true
  | 0, C, S, _, _, _, _, hfu, _, _, _ => fun I L h => absurd h.2.2.1.1 (by omega)
  | f + 1, C, S, hC, h0, h0', h74, hfu, hG, hok, her => fun I L h => by
    have h501 := hC.1.2.2.2.2
    have hti := h.2.2.1.1
    have hz : I 69 26 = 0 := h.bl.1
    have b0 : I 69 26 ≤ 0 := by rw [hz]; decide
    by_cases hK : tK (mTd C) (ti S) = 5
    · have kd : ¬ I 69 6 = 0 := fun x => by
        have := h.num.2.2.1.mp x
        rw [hK] at this; exact absurd this (by decide)
      refine b_M_readProgram_14 (fun _ => b_M_readProgram_28 (fun _ => b_M_readProgram_77 (fun x => absurd x (by decide)) (fun _ x => absurd hz x) (fun _ _ => c_M_spelt (v := lN (kyC 0)) (by decide +kernel) (b_M_readProgram_101 (m_isKey h (w := 0) (by decide) (fun _ => b_M_readProgram_104 (fun x => absurd x (by decide)) (fun _ => ?_)) (fun q => absurd hK q))))) (fun x => absurd b0 x)) (fun x => absurd x kd) (fun x => absurd x kd)
      rw [prl, if_pos hK] at hok her
      refine m_readProc hC h0 h hK (fun v hv q3 eV hR q123 I1 L1 h1 => b_M_readProgram_111 (fun _ => ?_) (fun x => absurd x (by decide))) (fun q I1 L1 h1 => b_M_readProgram_111 (fun x => absurd rfl x) (fun _ => her (mI0 C) _ JR.rf (by rw [if_neg q]) I1 L1 h1)) (fun v q3 eV hv hR I1 L1 h1 => b_M_readProgram_111 (fun x => absurd rfl x) (fun _ => her _ _ JR.u31 ?_ I1 L1 h1)) (fun v e q3 eV hv hR he I1 L1 h1 => b_M_readProgram_111 (fun x => absurd rfl x) (fun _ => her _ _ JR.u31 ?_ I1 L1 h1))
      · have ec : (tV (mTd C) (ti S + 1)).toNatClampNeg = v := by rw [eV, nI_clamp (show v < 2 ^ 31 by omega)]
        have eb : blo (mTd C) 10 (bkI (mTd C) 10) (adv (adv S)) = pb (blp (mTd C) (bkI (mTd C) 10) 501 (adv (adv (adv S)))) (sgn (mTd C) 125) := by
          rw [blo, opn, if_pos (show tK (mTd C) (ti (adv (adv S))) = 123 from q123), if_neg (by decide)]; rfl
        rw [if_pos q3, ec, if_pos hR, eb, Nat.min_eq_left (show cn S ≤ 600 by omega)] at hok her
        have c1 : cn (adv (adv (adv S))) = cn S := rfl
        have c2 : ti (adv (adv (adv S))) = ti S + 3 := rfl
        have hC' : mOK (rb C (aw_u (mI0 C) 69 31 (nI v))) := hC
        refine l_mblp (k := 9) hC' (m_stepsAll hC' h0 h0' 9 (by decide)) 501 (adv (adv (adv S))) (0, 0, cn S) [] true rfl (by show (mTd C).1 < ti (adv (adv (adv S))) + 501; rw [c2]; omega) (by rw [c1, c2]; omega) (fun S2 a1 a2 a3 a4 I2 L2 h2 => ?_) (fun e he I2 L2 h2 => her _ e JR.u31 (by rw [show blp (mTd C) (bkI (mTd C) 10) 501 (adv (adv (adv S))) = .error e from he]; rfl) I2 L2 h2) I1 L1 h1
        have a1 : blp (mTd C) (bkI (mTd C) 10) 501 (adv (adv (adv S))) = .ok S2 := a1
        have a2 : tK (mTd C) (ti S2) = 125 := a2
        have es : sgn (mTd C) 125 S2 = .ok (adv S2) := by rw [sgn, if_pos a2]
        rw [a1, pb_ok, es, pb_ok] at hok her
        have hmo := Mo_blp (T := mTd C) (Mo_bkI (mTd C) 9).2 501 _ _ a1
        rw [c2] at hmo
        refine m_close0 (v := v) hC' h2 (by decide) a2 (by omega) hv (show aw_u (mI0 C) 69 31 (nI v) 69 31 = nI v from au_s _ _ _ _) (fun I3 L3 h3 => ?_)
        have z3 : I3 69 26 = 0 := h3.bl.1
        have e30 : I3 69 30 = nI (cn S2 + 1) := by
          have : I3 69 30 = nI (cn S2 + 1 - mDl C) := h3.2.2.2.2.2.2.2.2.2.2.1
          rw [h0, Nat.sub_zero] at this
          exact this
        refine b_M_readProgram_48 (fun _ x => absurd z3 x) (fun _ _ x => absurd x (by decide)) (fun _ _ _ => ?_) (fun x => absurd x (by decide))
        rw [e30]
        have h4 := h3.r74 (v := nI (cn S2 + 1))
        exact l_mprl f (rb C (aw_u (aw_u (mI0 C) 69 31 (nI v)) 74 5 (nI (cn S2 + 1)))) (seR v (nI (cn S)) (em 24 0 (adv S2))) hC h0 h0' (show aw_u (aw_u (mI0 C) 69 31 (nI v)) 74 5 (nI (cn S2 + 1)) 74 5 = nI (cn S2 + 1) from au_s _ _ _ _) (by show (mTd C).1 < ti S2 + 1 + f; omega) (by show cn S2 + 1 ≤ ti S2 + 1; omega) (fun J S' hJ => hok J S' ((JR.u31.tr JR.u74).tr hJ)) (fun J e hJ => her J e ((JR.u31.tr JR.u74).tr hJ)) _ L3 h4
      · rw [if_pos q3, eV, nI_clamp (show v < 2 ^ 31 by omega), if_neg hR]
      · rw [if_pos q3, eV, nI_clamp (show v < 2 ^ 31 by omega), if_pos hR, blo, he]; rfl
    · exact hok (mI0 C) S JR.rf (by rw [prl, if_neg hK]) hK h74 hG I L h
theorem l_begin {I0 : Nat → Nat → Int32} (hk : ∀ I', (∀ o, o ≠ 83 → I' o = I0 o) → (∀ j, j < 4 → I' 83 j = -1) → aw_m X d y_M_go [.ref 69] (aw_s (aw_u I' 69 4 0) L D) (fun r A => aw_z X (d + 1) y_M_begin Q 78 [none, none, none] (r.toList ++ []) A)) :
    ∀ (m k : Nat) (I : Nat → Nat → Int32), k + m = 4 → (∀ o, o ≠ 83 → I o = I0 o) → (∀ j, j < k → I 83 j = -1) → aw_z X (d + 1) y_M_begin Q 51 [some (.ref 69), none, some (.int (nI k))] [] (aw_s I L D) := by
  intro m
  induction m with
  | zero =>
    intro k I e hf h1
    have ek : k = 4 := by omega
    subst ek
    exact b_M_begin_51 (fun _ => hk I hf h1) (fun q => absurd (by decide) q) (fun q => absurd (by decide) q)
  | succ m ih =>
    intro k I e hf h1
    have c4 : ¬ (4 : Int32) ≤ nI k := by
      have : ((4 : Int32) ≤ nI k) = (4 ≤ k) := nI_le' (a := 4) (by decide) (by omega)
      rw [this]; omega
    refine b_M_begin_51 (fun q => absurd q c4) (fun _ => aw_in_nI (by omega) (by decide)) (fun _ => ?_)
    rw [nI_1, nI_clamp (show k < 2 ^ 31 by omega)]
    refine ih (k + 1) _ (by omega) (fun o ho => by rw [au_o ho]; exact hf o ho) (fun j hj => ?_)
    by_cases g : j = k
    · subst g; exact au_s _ _ _ _
    · rw [au_k g]; exact h1 j (by omega)
/-- the reference begins a text -/
theorem m_begin {bt : Nat → Int32} {z : Nat} {T : TD} {ps : Nat → Nat} (hT : MTp I bt z) (hts : isToks bt z T.1 ps (tK T) (tV T) (tP T))
    (hQ : ∀ I' L', MP (T, bt, z, ps, 0, 0, aw_u (aw_u I 69 29 5) 69 9 0, L) PT0 [] 10 [] I' L' → I' 69 9 = 0 → Q none (aw_s I' L' D)) : aw_m X (d + 2) y_M_begin [.ref 69, .int 5] (aw_s I L D) Q := by
  have B0 := @b_M_begin_0 X (d + 1) Q I L D 5
  rw [show (5 : Int32).toNatClampNeg = 5 from rfl] at B0
  refine aw_go rfl rfl (B0 (aw_in_nI (n := 5) (by decide) (by decide)) (aw_in_nI (n := 5) (by decide) (by decide)) ?_)
  generalize eI : aw_u (aw_u (aw_u (aw_u (aw_u (aw_u (aw_u (aw_u (aw_u I 69 29 5) 69 9 0) 69 30 0) 69 25 0) 69 26 0) 69 27 0) 69 28 0) 75 5 0) 76 5 0 = I1
  have f : ∀ o, o ≠ 69 → o ≠ 75 → o ≠ 76 → I1 o = I o := fun o a b c => by rw [← eI, au_o c, au_o b, au_o a, au_o a, au_o a, au_o a, au_o a, au_o a, au_o a]
  have g : ∀ x, x ≠ 29 → x ≠ 9 → x ≠ 30 → x ≠ 25 → x ≠ 26 → x ≠ 27 → x ≠ 28 → I1 69 x = I 69 x := fun x a b c e h i j => by rw [← eI, au_o (by decide), au_o (by decide), au_k j, au_k i, au_k h, au_k e, au_k c, au_k b, au_k a]
  have g29 : I1 69 29 = 5 := by rw [← eI, au_o (by decide), au_o (by decide), au_k (by decide), au_k (by decide), au_k (by decide), au_k (by decide), au_k (by decide), au_k (by decide), au_s]
  have g9 : I1 69 9 = 0 := by rw [← eI, au_o (by decide), au_o (by decide), au_k (by decide), au_k (by decide), au_k (by decide), au_k (by decide), au_k (by decide), au_s]
  have g30 : I1 69 30 = 0 := by rw [← eI, au_o (by decide), au_o (by decide), au_k (by decide), au_k (by decide), au_k (by decide), au_k (by decide), au_s]
  have g25 : I1 69 25 = 0 := by rw [← eI, au_o (by decide), au_o (by decide), au_k (by decide), au_k (by decide), au_k (by decide), au_s]
  have g26 : I1 69 26 = 0 := by rw [← eI, au_o (by decide), au_o (by decide), au_k (by decide), au_k (by decide), au_s]
  have g27 : I1 69 27 = 0 := by rw [← eI, au_o (by decide), au_o (by decide), au_k (by decide), au_s]
  have g28 : I1 69 28 = 0 := by rw [← eI, au_o (by decide), au_o (by decide), au_s]
  have g75 : I1 75 5 = 0 ∧ ∀ j, j ≠ 5 → I1 75 j = I 75 j := ⟨by rw [← eI, au_o (by decide), au_s], fun j hj => by rw [← eI, au_o (by decide), au_k hj, au_o (by decide), au_o (by decide), au_o (by decide), au_o (by decide), au_o (by decide), au_o (by decide), au_o (by decide)]⟩
  have g76 : I1 76 5 = 0 ∧ ∀ j, j ≠ 5 → I1 76 j = I 76 j := ⟨by rw [← eI, au_s], fun j hj => by rw [← eI, au_k hj, au_o (by decide), au_o (by decide), au_o (by decide), au_o (by decide), au_o (by decide), au_o (by decide), au_o (by decide), au_o (by decide)]⟩
  refine l_begin (I0 := I1) (fun I2 k1 k2 => ?_) 4 0 I1 rfl (fun _ _ => rfl) (fun j h => absurd h (Nat.not_lt_zero j))
  have k69 := k1 69 (by decide)
  have hT2 : MTp (aw_u I2 69 4 0) bt z := ⟨by rw [au_k (by decide), k69, g 3 (by decide) (by decide) (by decide) (by decide) (by decide) (by decide) (by decide)]; exact hT.1, hT.2.1, fun j hj => by rw [au_o (by decide), k1 70 (by decide), f 70 (by decide) (by decide) (by decide)]; exact hT.2.2 j hj⟩
  have h01 := hts.2.1 0 (Nat.zero_le _)
  rw [hts.1] at h01
  refine c_M_go hT2 h01 (au_s _ _ _ _) (fun I3 L3 m e4 e5 e6 => b_M_begin_78 (hQ I3 L3 ?_ ?_))
  · obtain ⟨m1, m2, m3⟩ := m
    have n69 : ∀ x, x ≠ 4 → x ≠ 5 → x ≠ 6 → x ≠ 7 → x ≠ 8 → I3 69 x = I1 69 x := fun x a b c e f => by rw [m2 x a b c e f, au_k a, k69]
    have no : ∀ o, o ≠ 69 → o ≠ 83 → I3 o = I1 o := fun o a b => by rw [m1 o a, au_o a]; exact k1 o b
    refine ⟨⟨fun o a1 a2 a3 a4 a5 a6 a7 a8 a9 a10 a11 a12 => ?_, fun x a b c => ?_, fun j a => ?_, fun j a => ?_, fun j a => ?_, fun j a => ?_, fun o k hh => m3 o k hh⟩, ⟨by rw [n69 3 (by decide) (by decide) (by decide) (by decide) (by decide), g 3 (by decide) (by decide) (by decide) (by decide) (by decide) (by decide) (by decide)]; exact hT.1, hT.2.1, fun j hj => by rw [no 70 (by decide) (by decide), f 70 (by decide) (by decide) (by decide)]; exact hT.2.2 j hj⟩, ⟨Nat.zero_le _, e5, e6, e4⟩, ?_, trivial, ?_, trivial, ?_, ?_, ?_, ?_, ?_, ?_, fun j _ b => absurd b (Nat.not_lt_zero j), fun _ j _ c => absurd c (Nat.not_lt_zero j), fun s a => absurd a (Nat.not_lt_zero s), fun j a => ?_, Nat.zero_le _, Nat.zero_le _, Nat.le_refl _, Nat.le_refl _, Nat.le_refl _, Nat.zero_le _⟩
    · show I3 o = aw_u (aw_u I 69 29 5) 69 9 0 o
      rw [au_o a1, au_o a1, no o a1 a12]; exact f o a1 a4 a5
    · show I3 69 x = aw_u (aw_u I 69 29 5) 69 9 0 69 x
      rw [n69 x (by omega) (by omega) (by omega) (by omega) (by omega)]
      by_cases q9 : x = 9
      · subst q9; rw [au_s]; exact g9
      by_cases q : x = 29
      · subst q; rw [au_k (by decide), au_s]; exact g29
      · rw [au_k q9, au_k q]; exact g x q q9 c (by omega) (by omega) (by omega) (by omega)
    · show I3 71 j = aw_u (aw_u I 69 29 5) 69 9 0 71 j ∧ I3 72 j = aw_u (aw_u I 69 29 5) 69 9 0 72 j
      rw [au_o (by decide), au_o (by decide), au_o (by decide), au_o (by decide), no 71 (by decide) (by decide), no 72 (by decide) (by decide), f 71 (by decide) (by decide) (by decide), f 72 (by decide) (by decide) (by decide)]
      exact ⟨rfl, rfl⟩
    · show I3 75 j = aw_u (aw_u I 69 29 5) 69 9 0 75 j ∧ I3 76 j = aw_u (aw_u I 69 29 5) 69 9 0 76 j
      rw [au_o (by decide), au_o (by decide), au_o (by decide), au_o (by decide), no 75 (by decide) (by decide), no 76 (by decide) (by decide)]
      exact ⟨g75.2 j a, g76.2 j a⟩
    · show I3 77 j = aw_u (aw_u I 69 29 5) 69 9 0 77 j
      rw [au_o (by decide), au_o (by decide), no 77 (by decide) (by decide), f 77 (by decide) (by decide) (by decide)]
    · show I3 78 j = aw_u (aw_u I 69 29 5) 69 9 0 78 j
      rw [au_o (by decide), au_o (by decide), no 78 (by decide) (by decide), f 78 (by decide) (by decide) (by decide)]
    · rw [n69 25 (by decide) (by decide) (by decide) (by decide) (by decide)]; exact g25
    · rw [n69 26 (by decide) (by decide) (by decide) (by decide) (by decide)]; exact g26
    · rw [n69 27 (by decide) (by decide) (by decide) (by decide) (by decide)]; exact g27
    · rw [n69 28 (by decide) (by decide) (by decide) (by decide) (by decide)]; exact g28
    · rw [n69 29 (by decide) (by decide) (by decide) (by decide) (by decide)]; exact g29
    · rw [n69 30 (by decide) (by decide) (by decide) (by decide) (by decide)]; exact g30
    · rw [no 75 (by decide) (by decide)]; exact g75.1
    · rw [no 76 (by decide) (by decide)]; exact g76.1
    · rw [m1 83 (by decide), au_o (by decide)]; exact k2 j a
  · rw [m.2.1 9 (by decide) (by decide) (by decide) (by decide) (by decide), au_k (by decide), k69]; exact g9
end MPH
