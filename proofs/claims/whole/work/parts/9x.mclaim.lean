/-! PART 9x: the reference reads a claim -/
theorem tst_bad {T : TD} {k : Nat} {S : PT} (h : ¬ uFt T (ti S) = 0) : tst T k S = .error (uFt T (ti S), ti S) := by
  have e1 : unF T k (rdI T k) S = .error (uFt T (ti S), ti S) := by unfold unF; rw [if_pos h]
  have e2 : rdI T (k + 1) S = .error (uFt T (ti S), ti S) := by
    rw [rdI]
    unfold smm prd
    rw [e1]; rfl
  unfold tst
  rw [e2]; rfl
/-- a test more -/
theorem cts_pre {T : TD} {S S1 : PT} (e1 : tst T 10 (beT S) = .ok S1) : cK (em 33 0 S1) = cK S + 1 ∧ cL (em 33 0 S1) = va_up (cL S) (cK S) (cn S) ∧ (∀ i, i < cn S → cP (em 33 0 S1) i = cP S i) ∧ (∀ i, i < cn S1 → cP (em 33 0 S1) i = cP S1 i) ∧ cn S ≤ cn S1 ∧ cn S1 + ti S ≤ cn S + ti S1 ∧ ti S + 3 ≤ ti S1 ∧ (∀ t, t < cK S → cX (em 33 0 S1) t = cX S t) ∧ cX (em 33 0 S1) (cK S) = cn S1 + 1 := by
  obtain ⟨m1, m2⟩ := Mo_tst T 10 _ _ e1
  obtain ⟨-, b2, b3, -⟩ := Mb_tst T 10 _ _ e1
  obtain ⟨q2, q3, q4⟩ := GT_tst Qs_GT T 10 _ _ e1
  have m1 : cn S1 + ti S + 0 ≤ cn S + ti S1 := m1
  have m2 : ti S + 3 ≤ ti S1 := m2
  have q2 : cn S ≤ cn S1 := q2
  have q3 : ∀ i, i < cn S → cP S1 i = cP S i := q3
  have kS : cK (em 33 0 S1) = cK S + 1 := b2
  have lS : cL (em 33 0 S1) = va_up (cL S) (cK S) (cn S) := b3
  have nS : cn (em 33 0 S1) = cn S1 + 1 := rfl
  have pe := Pre.em (S := S1) (o := 33) (a := 0)
  have P1 : ∀ i, i < cn S1 → cP (em 33 0 S1) i = cP S1 i := pe.2.1
  refine ⟨kS, lS, fun i hi => (P1 i (by omega)).trans (q3 i hi), P1, q2, by omega, m2, fun t h => ?_, ?_⟩
  · unfold cX
    rw [kS, lS, nS, if_pos (by omega)]
    by_cases g : t + 1 < cK S
    · rw [if_pos g, up_n _ _ (by omega)]
    · rw [if_neg g, show t + 1 = cK S by omega, up_s]
  · unfold cX
    rw [kS, if_neg (by omega)]; rfl
/-- tests behind one take a place each -/
theorem CI.beh {S : PT} (h : ∀ t, t < cK S → TG S t) : ∀ (m t : Nat), t + 1 + m = cK S → cX S t + m ≤ cn S
  | 0, t, e => (h t (by omega)).2.2.1
  | m + 1, t, e => by
    have ih := CI.beh h m (t + 1) (by omega)
    have a := (h (t + 1) (by omega)).2.1
    rw [CG.X (show t + 1 < cK S by omega)]
    omega
/-- what the reading of a claim leaves -/
def GFR (I0 I : Nat → Nat → Int32) (L0 L : Nat → Nat → Int64) : Prop :=
  (∀ o, o ≠ 69 → o ≠ 71 → o ≠ 72 → o ≠ 75 → o ≠ 76 → o ≠ 77 → o ≠ 78 → o ≠ 79 → o ≠ 80 → o ≠ 81 → o ≠ 82 → o ≠ 83 → o ≠ 107 → I o = I0 o) ∧
  (∀ k, ¬ (4 ≤ k ∧ k ≤ 8) → ¬ (25 ≤ k ∧ k ≤ 28) → k ≠ 30 → I 69 k = I0 69 k) ∧
  (∀ j, ¬ (4000 ≤ j ∧ j < 4800) → I 71 j = I0 71 j ∧ I 72 j = I0 72 j) ∧ (∀ j, j ≠ 5 → I 75 j = I0 75 j ∧ I 76 j = I0 76 j) ∧ (∀ j, ¬ (300 ≤ j ∧ j < 360 ∧ (I 77 j = 0 ∨ I 77 j = 1)) → I 77 j = I0 77 j) ∧ (∀ j, ¬ (100 ≤ j ∧ j < 120) → I 78 j = I0 78 j) ∧ (∀ o k, ¬ (o = 69 ∧ k = 11) → L o k = L0 o k)
theorem GFR.tr {I0 I1 I2 : Nat → Nat → Int32} {L0 L1 L2 : Nat → Nat → Int64} (a : GFR I0 I1 L0 L1) (b : GFR I1 I2 L1 L2) : GFR I0 I2 L0 L2 := by
  obtain ⟨a1, a2, a3, a4, a5, a6, a7⟩ := a
  obtain ⟨b1, b2, b3, b4, b5, b6, b7⟩ := b
  refine ⟨fun o h1 h2 h3 h4 h5 h6 h7 h8 h9 h10 h11 h12 h13 => (b1 o h1 h2 h3 h4 h5 h6 h7 h8 h9 h10 h11 h12 h13).trans (a1 o h1 h2 h3 h4 h5 h6 h7 h8 h9 h10 h11 h12 h13), fun k h1 h2 h3 => (b2 k h1 h2 h3).trans (a2 k h1 h2 h3), fun j h => ⟨(b3 j h).1.trans (a3 j h).1, (b3 j h).2.trans (a3 j h).2⟩, fun j h => ⟨(b4 j h).1.trans (a4 j h).1, (b4 j h).2.trans (a4 j h).2⟩, fun j h => ?_, fun j h => (b6 j h).trans (a6 j h), fun o k h => (b7 o k h).trans (a7 o k h)⟩
  have e := b5 j h
  rw [e] at h ⊢
  exact a5 j h
theorem FRM.g {C : MC} {I : Nat → Nat → Int32} {L : Nat → Nat → Int64} (h : FRM C I L) : GFR (mI0 C) I (mL0 C) L := by
  obtain ⟨b1, b2, b3, b4, b5, b6, b7⟩ := h
  exact ⟨fun o h1 h2 h3 h4 h5 h6 h7 h8 h9 h10 h11 h12 _ => b1 o h1 h2 h3 h4 h5 h6 h7 h8 h9 h10 h11 h12, b2, fun j hj => b3 j (by omega), b4, b5, b6, b7⟩
theorem GFR.u {I0 I : Nat → Nat → Int32} {L0 L : Nat → Nat → Int64} {k : Nat} {v : Int32} (h : GFR I0 I L0 L) : GFR I0 (aw_u I 107 k v) L0 L := by
  refine h.tr ⟨fun o _ _ _ _ _ _ _ _ _ _ _ _ h13 => au_o h13, fun k _ _ _ => by rw [au_o (by decide)], fun j _ => by rw [au_o (by decide), au_o (by decide)]; exact ⟨rfl, rfl⟩, fun j _ => by rw [au_o (by decide), au_o (by decide)]; exact ⟨rfl, rfl⟩, fun j _ => by rw [au_o (by decide)], fun j _ => by rw [au_o (by decide)], fun _ _ _ => rfl⟩
/-- tests that were read -/
def DT (S : PT) (I : Nat → Nat → Int32) : Prop := ∀ t, t < cK S → I 107 t = nI (cX S t - (t + 1)) ∧ ∀ j, cL S t ≤ j → j + 1 < cX S t → I 71 (4000 + (j - t)) = nI (cP S j).1 ∧ I 72 (4000 + (j - t)) = (cP S j).2
section MCLR
variable {X : aw_X} {d : Nat} {Q : Option Value → aw_H → Prop} {I : Nat → Nat → Int32} {L : Nat → Nat → Int64} {D : Nat → Nat}
/-- the next test begins -/
theorem MP.next {T : TD} {bt : Nat → Int32} {z n c : Nat} {ps : Nat → Nat} {J : Nat → Nat → Int32} {LJ : Nat → Nat → Int64} {S1 : PT} (h : MP (T, bt, z, ps, c, n, J, LJ) S1 [] 10 [] I L) (hn : n ≤ cn S1) (v : Int32) :
    MP (T, bt, z, ps, cn S1 + 1, n + 1, aw_u I 107 n v, L) (em 33 0 S1) [] 10 [] (aw_u I 107 n v) L := by
  obtain ⟨-, hT, ⟨k1, k2, k3, k4⟩, p1, p2, p3, p4, p5, p6, p7, p8, p9, p10, p11, p12, p13, p14, p15, p16, p17, p18, p19, p20⟩ := h
  have o : ∀ x, x ≠ 107 → aw_u I 107 n v x = I x := fun x hx => au_o hx
  refine ⟨⟨fun _ _ _ _ _ _ _ _ _ _ _ _ _ => rfl, fun _ _ _ _ => rfl, fun _ _ => ⟨rfl, rfl⟩, fun _ _ => ⟨rfl, rfl⟩, fun _ _ => rfl, fun _ _ => rfl, fun _ _ _ => rfl⟩, ⟨by rw [o 69 (by decide)]; exact hT.1, hT.2.1, fun j hj => by rw [o 70 (by decide)]; exact hT.2.2 j hj⟩, ⟨k1, by rw [o 69 (by decide)]; exact k2, by rw [o 69 (by decide)]; exact k3, by rw [o 69 (by decide)]; exact k4⟩, by rw [o 69 (by decide)]; exact p1, trivial, by rw [o 69 (by decide)]; exact p3, trivial, by rw [o 69 (by decide)]; exact p5, by rw [o 69 (by decide)]; exact p6, by rw [o 69 (by decide)]; exact p7, ?_, by rw [o 75 (by decide)]; exact p9, by rw [o 76 (by decide)]; exact p10, fun j h1 h2 => ?_, fun h => absurd h (Nat.succ_ne_zero n), fun s hs => by rw [o 77 (by decide)]; exact p13 s hs, fun j hj => by rw [o 83 (by decide)]; exact p14 j hj, p15, p16, p17, Nat.le_refl _, p19, p20⟩
  · rw [o 69 (by decide), p8]
    show nI (cn S1 - n) = nI (cn S1 + 1 - (n + 1))
    exact congrArg nI (by omega)
  · have h1 : cn S1 + 1 ≤ j := h1
    have h2 : j < cn S1 + 1 := h2
    omega
theorem m_beginsUnit {C : MC} {S : PT} {p : List Nat} {k : Nat} {bs : List (Nat × Nat × Nat)} (h : MP C S p k bs I L) (h1 : uFt (mTd C) (ti S) = 0 → Q (some (.int 1)) (aw_s I L D)) (h0 : ¬ uFt (mTd C) (ti S) = 0 → Q (some (.int 0)) (aw_s I L D)) : aw_m X (d + 1) y_M_beginsUnit [.ref 69] (aw_s I L D) Q := by
  obtain ⟨n1, n2, -, -⟩ := h.num
  have rest : ¬ (tK (mTd C) (ti S) = 4 ∧ tV (mTd C) (ti S) ≤ 255) → aw_z X (d + 1) y_M_beginsUnit Q 18 [some (.ref 69)] [] (aw_s I L D) := fun n4 =>
    b_M_beginsUnit_18 (m_isName h (fun q => b_M_beginsUnit_22 (fun _ => h1 (uFt_i (Or.inl q))) (fun x => absurd x (by decide))) (fun q2 => b_M_beginsUnit_22 (fun x => absurd rfl x) (fun _ => m_isSign h (by decide) (fun q => b_M_beginsUnit_31 (fun _ => h1 (uFt_i (Or.inr (Or.inr (Or.inr q))))) (fun x => absurd x (by decide))) (fun q40 => b_M_beginsUnit_31 (fun x => absurd rfl x) (fun _ => c_M_spelt (v := lN (kyC 2)) (by decide +kernel) (b_M_beginsUnit_47 (m_isKey h (w := 2) (by decide) (fun q => b_M_beginsUnit_50 (fun x => absurd x (by decide)) (fun _ => h1 (uFt_i (Or.inr (Or.inr (Or.inl q)))))) (fun q7 => b_M_beginsUnit_50 (fun _ => h0 (fun x => ?_)) (fun x => absurd rfl x)))))))))
  · refine aw_go rfl rfl (b_M_beginsUnit_0 (fun q => rest (fun x => q (n1.mpr x.1))) (fun q q2 => ?_) (fun q q2 => rest (fun x => q2 (by rw [n2 x.1]; exact x.2))))
    have q4 := n1.mp q
    rw [n2 q4] at q2
    exact h1 (uFt_i (Or.inr (Or.inl ⟨q4, q2⟩)))
  · have q7 : ¬ tK (mTd C) (ti S) = 7 := q7
    rcases uFt_0 x with g | g | g | g
    · exact q2 g
    · refine n4 ⟨g, ?_⟩
      unfold uFt at x
      rw [if_neg q2, if_pos g] at x
      exact Classical.byContradiction fun y => by rw [if_neg y] at x; exact absurd x (by decide)
    · exact q7 g
    · exact q40 g
/-- a fault of a claim -/
def MFc (T : TD) (I0 : Nat → Nat → Int32) (L0 : Nat → Nat → Int64) (e : Int32 × Nat) (I : Nat → Nat → Int32) (L : Nat → Nat → Int64) : Prop := ∃ I1, GFR I0 I1 L0 L ∧ I = aw_u (aw_u I1 69 9 e.1) 69 10 (nI (tP T e.2))
theorem l_M_claim {T : TD} {bt : Nat → Int32} {z : Nat} {ps : Nat → Nat} (hts : isToks bt z T.1 ps (tK T) (tV T) (tP T)) (hT : tFul T) {I0 : Nat → Nat → Int32} {L0 : Nat → Nat → Int64} :
    ∀ (f : Nat) (S : PT) (J : Nat → Nat → Int32) (LJ : Nat → Nat → Int64) (I : Nat → Nat → Int32) (L : Nat → Nat → Int64), T.1 < ti S + f → CI S → MP (T, bt, z, ps, cn S, cK S, J, LJ) S [] 10 [] I L → DT S I → GFR I0 J L0 LJ →
      (∀ S' J' LJ' I' L', pb (cts T S) (ctl T f) = .ok S' → CI S' → 0 < cK S' → MP (T, bt, z, ps, cn S', cK S', J', LJ') S' [] 10 [] I' L' → DT S' I' → GFR I0 J' L0 LJ' → GFR I0 I' L0 L' → aw_z X (d + 6) y_M_claim Q 26 [some (.ref 69), some (.int (nI (cK S'))), some (.int 0), none] [] (aw_s I' L' D)) →
      (∀ e I' L', pb (cts T S) (ctl T f) = .error e → MFc T I0 L0 e I' L' → Q (some (.int (-1 - nI (tP T e.2)))) (aw_s I' L' D)) →
      aw_z X (d + 6) y_M_claim Q 26 [some (.ref 69), some (.int (nI (cK S))), some (.int 1), none] [] (aw_s I L D)
  | 0, S, J, LJ, I, L, hfu, hci, h, _, _, _, _ => absurd h.2.2.1.1 (by show ¬ ti S ≤ T.1; omega)
  | f + 1, S, J, LJ, I, L, hfu, hci, h, hdt, hgf, hok, her => by
    obtain ⟨w3, hn, hk20, hkn, hL0, hz, htg⟩ := id hci
    have hC : mOK (T, bt, z, ps, cn S, cK S, J, LJ) := ⟨hts, hkn, by show cK S ≤ 40; omega⟩
    have mf : ∀ (C : MC) (e : Int32 × Nat) I1 L1, mTd C = T → GFR I0 (mI0 C) L0 (mL0 C) → MF C e I1 L1 → MFc T I0 L0 e I1 L1 := fun C e I1 L1 e1 g hf => by
      obtain ⟨I2, fr, rfl⟩ := hf
      exact ⟨I2, g.tr fr.g, by rw [e1]⟩
    have val : ∀ (e : Int32 × Nat) I1 L1, MFc T I0 L0 e I1 L1 → I1 69 10 = nI (tP T e.2) := fun e I1 L1 hf => by
      obtain ⟨I2, -, rfl⟩ := hf
      exact au_s _ _ _ _
    -- the reading of a test
    have k56 : (cK S < 20 ∨ ¬ uFt T (ti S) = 0) → aw_z X (d + 6) y_M_claim Q 56 [some (.ref 69), some (.int (nI (cK S))), none, none] [] (aw_s I L D) := by
      intro hx
      refine b_M_claim_56 ?_
      by_cases hu : uFt T (ti S) = 0
      · have k20 : cK S < 20 := hx.elim id (fun x => absurd hu x)
        have hc : cts T S = pb (tst T 10 (beT S)) (fun S' => .ok (em 33 0 S')) := by unfold cts; rw [if_neg (fun x => x hu), if_neg (by omega)]
        have hb : MP (T, bt, z, ps, cn S, cK S, J, LJ) (beT S) [] 10 [] I L := h
        refine m_readTest (d := d) hC hb (by show cn S ≤ ti S + cK S; exact hn) (fun S1 e1 I1 L1 h1 => ?_) (fun e he I1 L1 hf => ?_)
        · have e1 : tst T 10 (beT S) = .ok S1 := e1
          obtain ⟨c1, c2, c3, c3', c4, c5, c6, c7, c8⟩ := cts_pre e1
          have hcS : cts T S = .ok (em 33 0 S1) := by rw [hc, e1]; rfl
          obtain ⟨ci', -, -⟩ := CI_cts hT hcS hci
          have p30 : I1 69 30 = nI (cn S1 - cK S) := h1.2.2.2.2.2.2.2.2.2.2.1
          have hfr := h1.1
          have hn' := h1.next (by omega) (nI (cn S1 - cK S))
          have g1 : GFR I0 (aw_u I1 107 (cK S) (nI (cn S1 - cK S))) L0 L1 := (hgf.tr hfr.g).u
          have hpl : ∀ j, cn S ≤ j → j < cn S1 → I1 71 (4000 + (j - cK S)) = nI (cP S1 j).1 ∧ I1 72 (4000 + (j - cK S)) = (cP S1 j).2 := h1.2.2.2.2.2.2.2.2.2.2.2.2.2.1
          have hstay : ∀ j, j < cn S - cK S → I1 71 (4000 + j) = I 71 (4000 + j) ∧ I1 72 (4000 + j) = I 72 (4000 + j) := fun j hj => by
            have a := hfr.2.2.1 (4000 + j) (by show ¬ (4000 + (cn S - cK S) ≤ 4000 + j ∧ 4000 + j < 4800); omega)
            have b := h.1.2.2.1 (4000 + j) (by show ¬ (4000 + (cn S - cK S) ≤ 4000 + j ∧ 4000 + j < 4800); omega)
            exact ⟨a.1.trans b.1.symm, a.2.trans b.2.symm⟩
          have s107 : I1 107 = I 107 := (hfr.1 107 (by decide) (by decide) (by decide) (by decide) (by decide) (by decide) (by decide) (by decide) (by decide) (by decide) (by decide) (by decide)).trans (h.1.1 107 (by decide) (by decide) (by decide) (by decide) (by decide) (by decide) (by decide) (by decide) (by decide) (by decide) (by decide) (by decide)).symm
          have dt' : DT (em 33 0 S1) (aw_u I1 107 (cK S) (nI (cn S1 - cK S))) := by
            intro t ht
            rw [c1] at ht
            have u71 : aw_u I1 107 (cK S) (nI (cn S1 - cK S)) 71 = I1 71 := au_o (by decide)
            have u72 : aw_u I1 107 (cK S) (nI (cn S1 - cK S)) 72 = I1 72 := au_o (by decide)
            rw [u71, u72]
            by_cases g : t = cK S
            · subst g
              rw [c8, c2, up_s, au_s]
              refine ⟨congrArg nI (by omega), fun j j1 j2 => ?_⟩
              rw [c3' j (by omega)]
              exact hpl j j1 (by omega)
            · have hlt : t < cK S := by omega
              obtain ⟨d1, d2⟩ := hdt t hlt
              rw [c7 t hlt, c2, up_n _ _ g, au_k g, s107]
              refine ⟨d1, fun j j1 j2 => ?_⟩
              have bh := CI.beh htg (cK S - (t + 1)) t (by omega)
              have tg := htg t hlt
              have hs := hstay (j - t) (by have := tg.1; omega)
              rw [c3 j (by have := tg.2.2.1; omega), hs.1, hs.2]
              exact d2 j j1 j2
          have ek : nI (cK S) + 1 = nI (cK (em 33 0 S1)) := by rw [c1, nI_1]
          have ekc : (nI (cK S)).toNatClampNeg = cK S := nI_clamp (by omega)
          have hm' : MP (T, bt, z, ps, cn (em 33 0 S1), cK (em 33 0 S1), aw_u I1 107 (cK S) (nI (cn S1 - cK S)), L1) (em 33 0 S1) [] 10 [] (aw_u I1 107 (cK S) (nI (cn S1 - cK S))) L1 := by rw [c1]; exact hn'
          refine b_M_claim_60 (fun _ => aw_in_nI (by omega) (by decide)) (fun _ => ?_) (fun x => absurd x (by decide))
          rw [ekc, p30, ek]
          refine c_M_spelt (v := lN (kyC 11)) (by decide +kernel) (b_M_claim_95 (m_isKey hm' (w := 11) (by decide) (fun q => b_M_claim_98 (fun x => absurd x (by decide)) (fun _ => ?_)) (fun q => b_M_claim_98 (fun _ => ?_) (fun x => absurd rfl x))))
          · have q : tK T (ti S1) = 16 := q
            have hR : pb (cts T S) (ctl T (f + 1)) = pb (cts T (adv (em 33 0 S1))) (ctl T f) := by
              rw [hcS, pb_ok, ctl, if_pos (show tK T (ti (em 33 0 S1)) = 16 from q)]
            rw [hR] at hok her
            have hC' : mOK (T, bt, z, ps, cn (em 33 0 S1), cK (em 33 0 S1), aw_u I1 107 (cK S) (nI (cn S1 - cK S)), L1) := ⟨hts, ci'.2.2.2.1, by have := ci'.2.2.1; show cK (em 33 0 S1) ≤ 40; omega⟩
            refine m_go2 (d := d + 4) hC' hm' (by show tK T (ti S1) ≠ 0; rw [q]; decide) (by show tK T (ti S1) ≠ 1; rw [q]; decide) (fun I2 L2 h2 fo => b_M_claim_107 ?_)
            have ci2 : CI (adv (em 33 0 S1)) := ⟨ci'.1, by have := ci'.2.1; show cn (em 33 0 S1) ≤ ti (em 33 0 S1) + 1 + cK (em 33 0 S1); omega, ci'.2.2.1, ci'.2.2.2.1, ci'.2.2.2.2.1, ci'.2.2.2.2.2.1, ci'.2.2.2.2.2.2⟩
            exact l_M_claim hts hT f (adv (em 33 0 S1)) _ L1 I2 L2 (by show T.1 < ti S1 + 1 + f; omega) ci2 h2 (fun t ht => by rw [fo 107 (by decide), fo 71 (by decide), fo 72 (by decide)]; exact dt' t ht) g1 hok her
          · have q : ¬ tK T (ti S1) = 16 := q
            have hR : pb (cts T S) (ctl T (f + 1)) = .ok (em 33 0 S1) := by
              rw [hcS, pb_ok, ctl, if_neg (show ¬ tK T (ti (em 33 0 S1)) = 16 from q)]
            exact hok _ _ L1 _ L1 hR ci' (by rw [c1]; exact Nat.succ_pos _) hm' dt' g1 g1
        · have he : tst T 10 (beT S) = .error e := he
          have hm := mf _ e I1 L1 rfl hgf hf
          refine b_M_claim_60 (fun x => absurd rfl x) (fun x => absurd rfl x) (fun _ => ?_)
          rw [val e I1 L1 hm]
          exact her e I1 L1 (by rw [hc, he]; rfl) hm
      · refine m_readTest (d := d) hC h (by show cn S ≤ ti S + cK S; exact hn) (fun S1 e1 I1 L1 h1 => ?_) (fun e he I1 L1 hf => ?_)
        · have e1 : tst T 10 S = .ok S1 := e1
          rw [tst_bad hu] at e1; cases e1
        · have he : tst T 10 S = .error e := he
          rw [tst_bad hu] at he
          cases he
          have hm := mf _ _ I1 L1 rfl hgf hf
          refine b_M_claim_60 (fun x => absurd rfl x) (fun x => absurd rfl x) (fun _ => ?_)
          rw [val _ I1 L1 hm]
          exact her _ I1 L1 (by unfold cts; rw [if_pos hu]; rfl) hm
    have e20 : (nI (cK S) = 20) = (cK S = 20) := nI_eq' (b := 20) (by omega) (by decide)
    refine b_M_claim_26 (fun q => absurd q (by decide)) (fun q => absurd q (by decide)) (fun _ q => ?_) (fun _ q => ?_)
    · rw [e20] at q
      exact k56 (Or.inl (by omega))
    · rw [e20] at q
      refine m_beginsUnit (d := d + 4) h (fun hu => b_M_claim_40 (fun x => absurd x (by decide)) (fun _ => m_bad h (fun x => ?_) (fun I1 hf => b_M_claim_48 ?_))) (fun hu => b_M_claim_40 (fun _ => k56 (Or.inr hu)) (fun x => absurd rfl x))
      · have x : tK T (ti S) = 0 := x
        have hu : uFt T (ti S) = 0 := hu
        rcases uFt_0 hu with g | g | g | g <;> · rw [g] at x; exact absurd x (by decide)
      · have hu : uFt T (ti S) = 0 := hu
        have hm := mf _ (3, ti S) I1 L rfl hgf hf
        rw [val _ I1 L hm]
        exact her _ I1 L (by unfold cts; rw [if_neg (fun x => x hu), if_pos (by omega)]; rfl) hm
end MCLR
