/-! PART 46: the loop of the reference's run -/
section MLOOP
variable {X : aw_X} {d : Nat} {Q : Option Value → aw_H → Prop} {D : Nat → Nat}
theorem eqN {o : Nat} (ho : o < 64) : (nI o = 0) = (o = 0) ∧ (nI o = 1) = (o = 1) ∧ (nI o = 15) = (o = 15) ∧ (nI o = 16) = (o = 16) ∧ (nI o = 17) = (o = 17) ∧ (nI o = 18) = (o = 18) ∧ (nI o = 19) = (o = 19) ∧ (nI o = 20) = (o = 20) ∧ (nI o = 21) = (o = 21) ∧ (nI o = 22) = (o = 22) ∧ (nI o = 23) = (o = 23) ∧ (nI o = 24) = (o = 24) :=
  ⟨eqI (k := 0) ho (by decide), eqI (k := 1) ho (by decide), eqI (k := 15) ho (by decide), eqI (k := 16) ho (by decide), eqI (k := 17) ho (by decide), eqI (k := 18) ho (by decide), eqI (k := 19) ho (by decide), eqI (k := 20) ho (by decide), eqI (k := 21) ho (by decide), eqI (k := 22) ho (by decide), eqI (k := 23) ho (by decide), eqI (k := 24) ho (by decide)⟩
theorem m1_0 : ((-1 : Int32) = 0) = False := by simp
theorem m1_le : ((-1 : Int32) ≤ 0) = True := by simp
theorem SRI_to {I I' : Nat → Nat → Int32} {v : Int32} {st : List Int32} (h : SRI I (v :: st)) (h1 : I' 69 25 = nI st.length) (h2 : I' 86 = I 86) : SRI I' st := ⟨h1, by rw [h2]; exact h.2.1.2, by have := h.2.2; simp at this; omega⟩
theorem SRI_as {I I' : Nat → Nat → Int32} {st : List Int32} (h : SRI I st) (h1 : I' 69 25 = I 69 25) (h2 : I' 86 = I 86) : SRI I' st := ⟨h1.trans h.1, by rw [h2]; exact h.2.1, h.2.2⟩
/-- what stays while the run goes: the code of the slot, the sizes, the rule -/
def RunC (P : Nat → Nat × Int32) (n slot B T O F : Nat) (rule : Int32) (I0 : Nat → Nat → Int32) : Prop :=
  SZ I0 B T O ∧ SZok B T O ∧ slot ≤ 6 ∧ F ≤ 40 ∧ (¬ rule < 0 → rg B rule) ∧ (I0 69 48 = 0 ∨ I0 69 48 = 1 ∨ I0 69 48 = 2) ∧ ∀ j, j < n → I0 71 (800 * slot + j) = nI (P j).1 ∧ I0 72 (800 * slot + j) = (P j).2
abbrev mloc (slot : Nat) (row : Int32) (F : Nat) (rule v5 v6 v7 v8 : Int32) : aw_L := [some (.ref 69), some (.int (nI slot)), some (.int row), some (.int (nI F)), some (.int rule), some (.int v5), some (.int v6), some (.int v7), some (.int v8), none, none, none, none]
theorem MRfr.au {I0 I : Nat → Nat → Int32} {L0 L : Nat → Nat → Int64} (h : MRfr I0 I L0 L) {o k : Nat} {v : Int32} (ho : (o = 69 ∧ (k = 25 ∨ k = 42 ∨ k = 43 ∨ k = 44 ∨ k = 45)) ∨ o = 84 ∨ o = 85 ∨ o = 86 ∨ o = 87 ∨ o = 88 ∨ o = 90) : MRfr I0 (aw_u I o k v) L0 L := by
  obtain ⟨a1, a2, a3, a4⟩ := h
  refine ⟨fun q h1 h2 h3 h4 h5 h6 h7 => ?_, fun q h1 h2 h3 h4 h5 => ?_, a3, a4⟩
  · rw [au_o (by rcases ho with h | h | h | h | h | h | h <;> omega)]; exact a1 q h1 h2 h3 h4 h5 h6 h7
  · rw [au_ok (by rcases ho with h | h | h | h | h | h | h <;> omega)]; exact a2 q h1 h2 h3 h4 h5
theorem MRfr.al {I0 I : Nat → Nat → Int32} {L0 L : Nat → Nat → Int64} (h : MRfr I0 I L0 L) {k : Nat} {v : Int64} (hk : k = 46 ∨ k = 47) : MRfr I0 I L0 (aw_u L 69 k v) := by
  obtain ⟨a1, a2, a3, a4⟩ := h
  exact ⟨a1, a2, fun q h1 h2 => by rw [au_o h1]; exact a3 q h1 h2, fun q h1 h2 => by rw [au_k (by omega)]; exact a4 q h1 h2⟩
theorem l_M_runs {P : Nat → Nat × Int32} {n st0 : Nat} {ty : Nat → List Bool} {sg : Nat → Nat} {B T O F slot : Nat} {row rule : Int32} {I0 : Nat → Nat → Int32} {L0 : Nat → Nat → Int64} (hW : p_WF P n st0 ty sg) (hC : RunC P n slot B T O F rule I0) {E : PE}
    (hQ : ∀ I' L', MRE I0 L0 I' L' E → Q (some (.int E.1)) (aw_s I' L' D)) :
    ∀ (N : Nat) (S : PS) (I : Nat → Nat → Int32) (L : Nat → Nat → Int64) (v5 v6 v7 v8 : Int32), p_run P (mk B) F (ansF B T O row rule) N S = some E → p_good P n ty sg B F S → S.2.2.2.2.2.2.2.2.1 + p_V P n S ≤ 300000 → MR I0 L0 v5 v6 v7 v8 I L S →
      aw_z X (d + 3) y_M_runs Q 81 (mloc slot row F rule v5 v6 v7 v8) [] (aw_s I L D) := by
  obtain ⟨⟨z1, z2, z3⟩, ⟨k1, k2, k3, k4, k5, k6⟩, c2, c3, c4, c5, c6⟩ := hC
  intro N
  induction N with
  | zero => intro S I L v5 v6 v7 v8 h; cases h
  | succ N ih =>
    intro S I L v5 v6 v7 v8 hrun hG hV hM
    obtain ⟨pc, stk, cs, nm, cl, sp, bg, ds, ak, ys, tr⟩ := S
    obtain ⟨hfr, hst, hS, hCR, rfl, rfl, hv7, rfl⟩ := id hM
    rw [hv7]
    clear hM
    have han := ansF_rg (T := T) (O := O) (row := row) k2 c4
    have hstep := p_step_good (g := mk B) hW k2 rfl han hG
    obtain ⟨g1, g2, g3, g4, g5, g6, g7, g8, g9, g10, g11, g12⟩ := id hG
    obtain ⟨w1, w2, w3, w4, w0, w5, w6, w7⟩ := id hW
    have hok := w7 pc g1
    have hop := p_op_lt hok
    have hlen : stk.length ≤ 30 := by rw [p_ty_len g2]; exact hok.1
    have hcl : cs.length ≤ 4 := by have := chain_len g3; omega
    have hak : ak ≤ 300000 := by have : ak + _ ≤ 300000 := hV; omega
    obtain ⟨f1, f2, f3, f4⟩ := id hfr
    obtain ⟨s1, s2, s3, s4, s5, s6, s7, s8, s9⟩ := id hst
    have go : ∀ (S' : PS) (I' : Nat → Nat → Int32) (L' : Nat → Nat → Int64) (v5' v6' v7' v8' : Int32), p_step P (mk B) F (ansF B T O row rule) (pc, stk, cs, nm, cl, sp, bg, ds, ak, ys, tr) = .inl S' → (if 2 ≤ (P pc).1 ∧ (P pc).1 ≤ 14 then S'.2.2.2.2.2.2.2.2.1 = ak else S'.2.2.2.2.2.2.2.2.1 ≤ ak + 1) → MR I0 L0 v5' v6' v7' v8' I' L' S' → aw_z X (d + 3) y_M_runs Q 81 (mloc slot row F rule v5' v6' v7' v8') [] (aw_s I' L' D) := by
      intro S' I' L' v5' v6' v7' v8' h hk hMR
      have hrun' : p_run P (mk B) F (ansF B T O row rule) N S' = some E := by unfold p_run at hrun; rw [h] at hrun; exact hrun
      rcases hstep with ⟨S'', e1, e2, e3⟩ | ⟨E', e1, -⟩
      · rw [h] at e1; cases e1
        refine ih S' I' L' v5' v6' v7' v8' hrun' e2 ?_ hMR
        have hV' : ak + p_V P n (pc, stk, cs, nm, cl, sp, bg, ds, ak, ys, tr) ≤ 300000 := hV
        split at hk
        · next q => rw [if_pos q] at e3; rw [hk]; exact Nat.le_trans (Nat.add_le_add_left e3.2 _) hV'
        · next q => rw [if_neg q] at e3; exact Nat.le_trans (by omega) hV'
      · rw [h] at e1; cases e1
    have fin : ∀ (e sp' : Int32) (S' : PS), p_step P (mk B) F (ansF B T O row rule) (pc, stk, cs, nm, cl, sp, bg, ds, ak, ys, tr) = .inr (e, sp', S') → E = (e, sp', S') := by
      intro e sp' S' h
      unfold p_run at hrun; rw [h] at hrun; exact (Option.some.inj hrun).symm
    have ix : (800 : Int32) * nI slot + nI pc = nI (800 * slot + pc) := by rw [show (800 : Int32) = nI 800 from rfl, pk_mul, nI_add]
    have B81 := @b_M_runs_81 X (d + 2) Q I L D (nI slot) row (nI F) rule (nI ak) (nI cs.length) sp (nI pc)
    rw [ix, nI_clamp (show 800 * slot + pc < 2 ^ 31 by omega), f1 71 (by decide) (by decide) (by decide) (by decide) (by decide) (by decide) (by decide), f1 72 (by decide) (by decide) (by decide) (by decide) (by decide) (by decide) (by decide), (c6 pc g1).1, (c6 pc g1).2, nI_1] at B81
    have hb := aw_in_nI (show 800 * slot + pc < 5600 by omega) (by decide)
    refine B81 hb hb ?_
    have i69 : ∀ k, k ≠ 25 → k ≠ 42 → k ≠ 43 → k ≠ 44 → k ≠ 45 → I 69 k = I0 69 k := f2
    by_cases hs : 2 ≤ (P pc).1 ∧ (P pc).1 ≤ 14
    · refine c_M_work k1 k2 (by rw [f2 33 (by decide) (by decide) (by decide) (by decide) (by decide)]; exact z1) hok hs g2 g4 g5 s1 s2 hS hlen (fun st I' hw hfw hsr => ?_) (fun e he hw => ?_)
      · have B0 := @b_M_runs_122 X (d + 2) Q I' L D (nI slot) row (nI F) rule (nI ak) (nI cs.length) sp (nI (pc + 1)) (nI (P pc).1) (P pc).2 0
        simp only [not_true_eq_false, false_implies, true_implies, implies_true] at B0
        refine B0 (go (pc + 1, st, cs, nm, cl, sp, bg, ds, ak, ys, tr) I' L _ _ _ _ (p_st_w hs hw) (by rw [if_pos hs]) ?_)
        obtain ⟨q1, q2⟩ := hfw
        have o9 : ∀ o, o ≠ 69 → o ≠ 86 → I' o = I o := q1
        refine ⟨⟨fun o h1 h2 h3 h4 h5 h6 h7 => by rw [q1 o h1 h4]; exact f1 o h1 h2 h3 h4 h5 h6 h7, fun k h1 h2 h3 h4 h5 => by rw [q2 k h1]; exact f2 k h1 h2 h3 h4 h5, f3, f4⟩, ⟨fun k hk => by rw [q1 84 (by decide) (by decide)]; exact s1 k hk, fun k hk => by rw [q1 85 (by decide) (by decide)]; exact s2 k hk, by rw [q2 44 (by decide)]; exact s3, by rw [q2 45 (by decide)]; exact s4, s5, s6, fun k hk => by rw [q1 88 (by decide) (by decide)]; exact s7 k hk, s8, by rw [q1 90 (by decide) (by decide)]; exact s9⟩, hsr, by rw [q1 87 (by decide) (by decide)]; exact hCR, rfl, rfl, rfl, rfl⟩
      · have B0 := @b_M_runs_122 X (d + 2) Q I L D (nI slot) row (nI F) rule (nI ak) (nI cs.length) sp (nI (pc + 1)) (nI (P pc).1) (P pc).2 e
        have e0 : (e = 0) = False := by rcases he with rfl | rfl <;> simp
        have e1 : (e ≤ 0) = False := by rcases he with rfl | rfl <;> simp
        simp only [e0, e1, not_false_eq_true, not_true_eq_false, false_implies, true_implies, implies_true] at B0
        refine B0 (c_M_ends (b_M_runs_145 ?_))
        have hE := fin _ _ _ (p_st_wx hs hw)
        have := hQ _ _ (by rw [hE]; exact MR_end hfr hst)
        rw [hE] at this
        exact this
    · refine c_M_workN (by omega) ?_
      have B0 := @b_M_runs_122 X (d + 2) Q I L D (nI slot) row (nI F) rule (nI ak) (nI cs.length) sp (nI (pc + 1)) (nI (P pc).1) (P pc).2 (-1)
      obtain ⟨q0, q1, q15, q16, q17, q18, q19, q20, q21, q22, q23, q24⟩ := eqN (o := (P pc).1) (by omega)
      simp only [q0, q1, q15, q16, q17, q18, q19, q20, q21, q22, q23, q24, m1_0, m1_le, not_false_eq_true, not_true_eq_false, true_implies, false_implies, implies_true] at B0
      have a48 : I 69 48 = I0 69 48 := i69 48 (by decide) (by decide) (by decide) (by decide) (by decide)
      have hL := hok.2.2.2
      have cons1 : ∀ {b : Bool} {t : List Bool}, ty pc = b :: t → ∃ v st, stk = v :: st ∧ (if b = true then (v = 0 ∨ v = 1) else rg B v) ∧ p_ty B t st := fun e => p_ty1 (by rw [e] at g2; exact g2)
      have itop : ∀ {v : Int32} {st : List Int32}, stk = v :: st → (I 69 25).toNatClampNeg = st.length + 1 ∧ I 69 25 - 1 = nI st.length ∧ I 86 (st.length + 1) = v ∧ I 69 25 = nI (st.length + 1) := by
        intro v st e
        subst e
        have h1 : I 69 25 = nI (st.length + 1) := hS.1
        have hl : st.length + 1 ≤ 40 := hS.2.2
        exact ⟨by rw [h1, nI_clamp (by omega)], by rw [h1, nI_pred], hS.2.1.1, h1⟩
      have ends : ∀ (e sp' : Int32) (S' : PS), p_step P (mk B) F (ansF B T O row rule) (pc, stk, cs, nm, cl, sp, bg, ds, ak, ys, tr) = .inr (e, sp', S') → (∀ I' L', MRE I0 L0 I' L' (e, sp', S') → Q (some (.int e)) (aw_s I' L' D)) := by
        intro e sp' S' h
        have hE := fin _ _ _ h
        rw [hE] at hQ
        exact hQ
      -- a step begins
      have beg : ∀ (j : Nat), j < 60 → (P pc).2 = nI j → ((P pc).1 = 0 ∨ (P pc).1 = 1) → ty (pc + 1) = [] → stk = [] →
          ∀ I1 L1, MRfr I0 I1 L0 L1 → MRst I0 L0 nm cl (bg + 1) ds ys (tr ++ [(j, nm)]) I1 L1 → I1 69 25 = I 69 25 → I1 86 = I 86 → I1 87 = I 87 →
          aw_z X (d + 3) y_M_runs Q 304 [some (.ref 69), some (.int (nI slot)), some (.int row), some (.int (nI F)), some (.int rule), some (.int (nI ak)), some (.int (nI cs.length)), some (.int (P pc).2), some (.int (nI (pc + 1))), some (.int (nI (P pc).1)), none, none, none] [] (aw_s I1 L1 D) := by
        intro j hj hj2 ho hty hstk I1 L1 h1 h2 h3 h4 h5
        have B4 := @b_M_runs_304 X (d + 2) Q I1 L1 D (nI slot) row (nI F) rule (nI ak) (nI cs.length) (P pc).2 (nI (pc + 1)) (nI (P pc).1)
        have c1 : ((1000 : Int32) < nI (bg + 1)) = (1000 < bg + 1) := nI_lt' (a := 1000) (by decide) (by omega)
        have c2 : (nI ds.length = nI F) = (ds.length = F) := nI_eq' (by omega) (by omega)
        rw [h2.2.2.1, h2.2.2.2.1, c1, c2, q1] at B4
        have e5 : ∀ S', p_step P (mk B) F (ansF B T O row rule) (pc, stk, cs, nm, cl, sp, bg, ds, ak, ys, tr) = .inr (5, (P pc).2, S') → S' = (pc, stk, cs, nm, cl, (P pc).2, bg + 1, ds, ak, ys, tr ++ [((P pc).2.toNatClampNeg, nm)]) → aw_z X (d + 3) y_M_runs Q 328 [some (.ref 69), none, none, none, none, none, none, some (.int (P pc).2), none, none, none, none, none] [] (aw_s I1 L1 D) := by
          intro S' h hS'
          refine b_M_runs_328 (c_M_ends (b_M_runs_335 (ends _ _ _ h _ _ ?_)))
          rw [hS']
          refine MR_end h1 ?_
          rw [hj2, nI_clamp (by omega)]
          exact h2
        have e1 : ∀ S', p_step P (mk B) F (ansF B T O row rule) (pc, stk, cs, nm, cl, sp, bg, ds, ak, ys, tr) = .inl S' → S' = (pc + 1, stk, cs, nm, cl, (P pc).2, bg + 1, ds, ak, ys, tr ++ [((P pc).2.toNatClampNeg, nm)]) → aw_z X (d + 3) y_M_runs Q 81 (mloc slot row F rule (nI ak) (nI cs.length) (P pc).2 (nI (pc + 1))) [] (aw_s I1 L1 D) := by
          intro S' h hS'
          subst hS'
          refine go _ I1 L1 _ _ _ _ h (by rw [if_neg hs]; exact Nat.le_succ _) ⟨h1, ?_, SRI_as hS h3 h4, by rw [h5]; exact hCR, rfl, rfl, rfl, rfl⟩
          rw [hj2, nI_clamp (by omega)]
          exact h2
        rcases ho with ho | ho
        · refine B4 (fun q => e5 _ (p_st_0x ho q) rfl) (fun q _ => e1 _ (p_st_0 ho q) rfl) (fun _ q => by omega) (fun _ q => by omega)
        · refine B4 (fun q => e5 _ (p_st_1x ho (Or.inl q)) rfl) (fun _ q => absurd ho q) (fun q _ q2 => e1 _ (p_st_1 ho (by omega)) rfl) (fun q _ q2 => e5 _ (p_st_1x ho (Or.inr q2)) rfl)
      have begin : ∀ (j : Nat), j < 60 → (P pc).2 = nI j → ((P pc).1 = 0 ∨ (P pc).1 = 1) → ty (pc + 1) = [] → stk = [] →
          ((I 69 48) ≤ 0 → aw_z X (d + 3) y_M_runs Q 304 [some (.ref 69), some (.int (nI slot)), some (.int row), some (.int (nI F)), some (.int rule), some (.int (nI ak)), some (.int (nI cs.length)), some (.int (P pc).2), some (.int (nI (pc + 1))), some (.int (nI (P pc).1)), none, none, none] [] (aw_s (aw_u I 69 44 ((I 69 44) + (1 : Int32))) (aw_u L 69 47 ((L 69 47) ||| ((1 : Int64) <<< ((P pc).2.toInt64 &&& 63)))) D)) ∧
          (¬ (I 69 48) ≤ 0 → aw_m X (d + 2) y_M_gather [.ref 69, .int (P pc).2] (aw_s (aw_u I 69 44 ((I 69 44) + (1 : Int32))) (aw_u L 69 47 ((L 69 47) ||| ((1 : Int64) <<< ((P pc).2.toInt64 &&& 63)))) D) (fun r A => aw_z X (d + 3) y_M_runs Q 304 [some (.ref 69), some (.int (nI slot)), some (.int row), some (.int (nI F)), some (.int rule), some (.int (nI ak)), some (.int (nI cs.length)), some (.int (P pc).2), some (.int (nI (pc + 1))), some (.int (nI (P pc).1)), none, none, none] (r.toList ++ []) A)) := by
        intro j hj hj2 ho hty hstk
        have fr1 : MRfr I0 (aw_u I 69 44 ((I 69 44) + (1 : Int32))) L0 (aw_u L 69 47 ((L 69 47) ||| ((1 : Int64) <<< ((P pc).2.toInt64 &&& 63)))) := (hfr.au (Or.inl ⟨rfl, by omega⟩)).al (Or.inr rfl)
        have l47 : L 69 47 ||| ((1 : Int64) <<< ((P pc).2.toInt64 &&& 63)) = setL (tr ++ [(j, nm)]) := by rw [setL_s, s6, hj2]; rfl
        have base : ∀ (I1 : Nat → Nat → Int32) (L1 : Nat → Nat → Int64), (∀ o, o ≠ 90 → I1 o = aw_u I 69 44 ((I 69 44) + (1 : Int32)) o) → (∀ o, o ≠ 89 → L1 o = aw_u L 69 47 ((L 69 47) ||| ((1 : Int64) <<< ((P pc).2.toInt64 &&& 63))) o) →
            L1 89 = (if I0 69 48 = 1 then mayT (L0 89) (tr ++ [(j, nm)]) else L0 89) → I1 90 = (if I0 69 48 = 2 then stT (I0 90) (tr ++ [(j, nm)]) else I0 90) →
            aw_z X (d + 3) y_M_runs Q 304 [some (.ref 69), some (.int (nI slot)), some (.int row), some (.int (nI F)), some (.int rule), some (.int (nI ak)), some (.int (nI cs.length)), some (.int (P pc).2), some (.int (nI (pc + 1))), some (.int (nI (P pc).1)), none, none, none] [] (aw_s I1 L1 D) := by
          intro I1 L1 hI hL1 h89 h90
          refine beg j hj hj2 ho hty hstk I1 L1 ?_ ?_ ?_ ?_ ?_
          · obtain ⟨p1, p2, p3, p4⟩ := fr1
            exact ⟨fun o a b c e f g h => by rw [hI o h]; exact p1 o a b c e f g h, fun k a b c e f => by rw [hI 69 (by decide)]; exact p2 k a b c e f, fun o a b => by rw [hL1 o b]; exact p3 o a b, fun k a b => by rw [hL1 69 (by decide)]; exact p4 k a b⟩
          · refine ⟨fun k hk => by rw [hI 84 (by decide), au_o (by decide)]; exact s1 k hk, fun k hk => by rw [hI 85 (by decide), au_o (by decide)]; exact s2 k hk, by rw [hI 69 (by decide), au_s, s3, nI_1], by rw [hI 69 (by decide), au_k (by decide)]; exact s4, by rw [hL1 69 (by decide), au_k (by decide)]; exact s5, by rw [hL1 69 (by decide), au_s]; exact l47, fun k hk => by rw [hI 88 (by decide), au_o (by decide)]; exact s7 k hk, h89, h90⟩
          · rw [hI 69 (by decide), au_k (by decide)]
          · rw [hI 86 (by decide), au_o (by decide)]
          · rw [hI 87 (by decide), au_o (by decide)]
        refine ⟨fun q => base _ _ (fun _ _ => rfl) (fun _ _ => rfl) ?_ ?_, fun q => ?_⟩
        · rw [a48] at q
          rw [au_o (by decide), s8]
          rcases c5 with c5 | c5 | c5 <;> rw [c5] at q ⊢
          · simp
          · exact absurd q (by decide)
          · exact absurd q (by decide)
        · rw [a48] at q
          rw [au_o (by decide), s9]
          rcases c5 with c5 | c5 | c5 <;> rw [c5] at q ⊢
          · simp
          · exact absurd q (by decide)
          · exact absurd q (by decide)
        · rw [hj2]
          have a48' : aw_u I 69 44 ((I 69 44) + (1 : Int32)) 69 48 = I0 69 48 := by rw [au_k (by decide)]; exact a48
          rw [hj2] at base
          refine c_M_gather (nm := nm) hj (fun k hk => by rw [au_o (by decide)]; exact s1 k hk) ?_ (fun h L' e1 e2 => base _ _ (fun _ _ => rfl) e1 ?_ ?_) (fun h I' e1 e2 => base _ _ e1 (fun _ _ => rfl) ?_ ?_)
          · rw [a48']
            rcases c5 with c5 | c5 | c5
            · rw [a48, c5] at q; exact absurd (by decide) q
            · exact Or.inl c5
            · exact Or.inr c5
          · rw [a48'] at h
            rw [e2, if_pos h, au_o (by decide), s8, if_pos h, mayT_s]
          · rw [a48'] at h
            rw [au_o (by decide), s9, h]; rfl
          · rw [a48'] at h
            rw [au_o (by decide), s8, h]; rfl
          · rw [a48'] at h
            rw [e2, if_pos h, au_o (by decide), s9, if_pos h, stT_s]
      split at hL <;> (try (exfalso; omega))
      · next e =>
        simp only [e, Nat.reduceEqDiff, not_false_eq_true, not_true_eq_false, true_implies, false_implies, implies_true] at B0
        obtain ⟨h1, h2, j, hj, hj2⟩ := hL
        rw [h1] at g2
        obtain ⟨b1, b2⟩ := begin j hj hj2 (Or.inl e) h2 (p_ty0 g2)
        rw [e] at b1 b2 ⊢
        exact B0 b1 b2
      · next e =>
        simp only [e, Nat.reduceEqDiff, not_false_eq_true, not_true_eq_false, true_implies, false_implies, implies_true] at B0
        obtain ⟨h1, h2, j, hj, hj2⟩ := hL
        rw [h1] at g2
        obtain ⟨b1, b2⟩ := begin j hj hj2 (Or.inr e) h2 (p_ty0 g2)
        rw [e] at b1 b2 ⊢
        exact B0 b1 b2
      · -- 15
        next e =>
        simp only [e, Nat.reduceEqDiff, not_false_eq_true, not_true_eq_false, true_implies, false_implies, implies_true] at B0
        obtain ⟨h1, h2, j, hj, hj2⟩ := hL
        obtain ⟨v, st, hv, h3, h4⟩ := cons1 h1
        obtain ⟨t1, t2, t3, t4⟩ := itop hv
        subst hv
        rw [hj2, t1, t2, t3, nI_clamp (show j < 2 ^ 31 by omega)] at B0
        rw [e, hj2]
        have hlt : st.length < 400 := by simp at hlen; omega
        refine B0 (by rw [t4]; exact aw_in_nI (by simp at hlen; omega) (by decide)) (aw_in_nI hj (by decide)) (go _ _ _ _ _ _ _ (p_st_15 e) (by rw [if_neg hs]; exact Nat.le_succ _) ⟨(hfr.au (Or.inr (Or.inl rfl))).au (Or.inl ⟨rfl, by omega⟩), ⟨fun k hk => ?_, fun k hk => by rw [au_o (by decide), au_o (by decide)]; exact s2 k hk, by rw [au_k (by decide), au_o (by decide)]; exact s3, by rw [au_k (by decide), au_o (by decide)]; exact s4, s5, s6, fun k hk => by rw [au_o (by decide), au_o (by decide)]; exact s7 k hk, s8, by rw [au_o (by decide), au_o (by decide)]; exact s9⟩, SRI_to hS (by rw [au_s]) (by rw [au_o (by decide), au_o (by decide)]), by rw [au_o (by decide), au_o (by decide)]; exact hCR, rfl, rfl, rfl, rfl⟩)
        rw [au_o (by decide), hj2, nI_clamp (show j < 2 ^ 31 by omega), aw_u_eq]
        unfold va_up
        split
        · rfl
        · exact s1 k hk
      · -- 16
        next e =>
        simp only [e, Nat.reduceEqDiff, not_false_eq_true, not_true_eq_false, true_implies, false_implies, implies_true] at B0
        obtain ⟨h1, h2⟩ := hL
        obtain ⟨v, st, hv, h3, h4⟩ := cons1 h1
        obtain ⟨i, st, rfl, h5, h6⟩ := p_ty1 h4
        obtain ⟨t1, t2, t3, t4⟩ := itop hv
        subst hv
        simp only [List.length_cons] at t1 t2 t3 t4 hlen
        have u2 : I 86 (st.length + 1) = i := hS.2.1.2.1
        have u3 : I 69 25 - 2 = nI st.length := by rw [t4, show (2 : Int32) = nI 2 from rfl, pk_sub (by omega)]; congr 1
        rw [t2, u3, nI_clamp (show st.length + 1 < 2 ^ 31 by omega), u2, t1, t3] at B0
        rw [e]
        obtain ⟨j, hj, hj2, rfl⟩ := rg_nat k2 h5
        refine B0 (aw_in_nI (by omega) (by decide)) (fun _ => aw_in_nI (by omega) (by decide)) (fun _ => by rw [t4]; exact aw_in_nI (by omega) (by decide)) (fun q => ?_) (fun q => ?_) (fun q => c_M_ends (b_M_runs_388 (ends _ _ _ (p_st_16x e q) _ _ (MR_end hfr hst))))
        · rw [show (7 : Int32) = nI 7 from rfl, nI_leI (by omega) (by omega)] at q
          exact aw_in_nI (by omega) (by decide)
        · refine go _ _ _ _ _ _ _ (p_st_16 e q) (by rw [if_neg hs]; exact Nat.le_succ _) ⟨(hfr.au (Or.inr (Or.inr (Or.inl rfl)))).au (Or.inl ⟨rfl, by omega⟩), ⟨fun k hk => by rw [au_o (by decide), au_o (by decide)]; exact s1 k hk, fun k hk => ?_, by rw [au_k (by decide), au_o (by decide)]; exact s3, by rw [au_k (by decide), au_o (by decide)]; exact s4, s5, s6, fun k hk => by rw [au_o (by decide), au_o (by decide)]; exact s7 k hk, s8, by rw [au_o (by decide), au_o (by decide)]; exact s9⟩, SRI_to (SRI_to hS (I' := aw_u I 69 25 (nI (st.length + 1))) (by rw [au_s]; rfl) (by rw [au_o (by decide)])) (by rw [au_s]) (by rw [au_o (by decide), au_o (by decide), au_o (by decide)]), by rw [au_o (by decide), au_o (by decide)]; exact hCR, rfl, rfl, rfl, rfl⟩
          rw [au_o (by decide), aw_u_eq]
          unfold va_up
          split
          · rfl
          · exact s2 k hk
      · -- 17
        next e =>
        simp only [e, Nat.reduceEqDiff, not_false_eq_true, not_true_eq_false, true_implies, false_implies, implies_true] at B0
        obtain ⟨h1, h2⟩ := hL
        obtain ⟨v, st, hv, h3, h4⟩ := cons1 h1
        obtain ⟨t1, t2, t3, t4⟩ := itop hv
        subst hv
        simp only [List.length_cons] at hlen
        rw [t1, t2, t3] at B0
        rw [e]
        refine B0 (by rw [t4]; exact aw_in_nI (by omega) (by decide)) (fun q => go _ _ _ _ _ _ _ (p_st_17 e q) (by rw [if_neg hs]; exact Nat.le_succ _) ⟨hfr.au (Or.inl ⟨rfl, by omega⟩), ⟨fun k hk => by rw [au_o (by decide)]; exact s1 k hk, fun k hk => by rw [au_o (by decide)]; exact s2 k hk, by rw [au_k (by decide)]; exact s3, by rw [au_k (by decide)]; exact s4, s5, s6, fun k hk => by rw [au_o (by decide)]; exact s7 k hk, s8, by rw [au_o (by decide)]; exact s9⟩, SRI_to hS (by rw [au_s]) (by rw [au_o (by decide)]), by rw [au_o (by decide)]; exact hCR, rfl, rfl, rfl, rfl⟩) (fun q => b_M_runs_452 (c_M_ends (b_M_runs_457 (ends _ _ _ (p_st_17x e q) _ _ (MR_end hfr hst)))))
      · -- 18
        next e =>
        simp only [e, Nat.reduceEqDiff, not_false_eq_true, not_true_eq_false, true_implies, false_implies, implies_true] at B0
        obtain ⟨h1, h2⟩ := hL
        obtain ⟨v, st, hv, h3, h4⟩ := cons1 h1
        obtain ⟨t1, t2, t3, t4⟩ := itop hv
        subst hv
        simp only [List.length_cons] at hlen
        rw [t1, t2, t3] at B0
        rw [e]
        refine B0 (by rw [t4]; exact aw_in_nI (by omega) (by decide)) (fun q => go _ _ _ _ _ _ _ (p_st_18 e q) (by rw [if_neg hs]; exact Nat.le_succ _) ⟨hfr.au (Or.inl ⟨rfl, by omega⟩), ⟨fun k hk => by rw [au_o (by decide)]; exact s1 k hk, fun k hk => by rw [au_o (by decide)]; exact s2 k hk, by rw [au_k (by decide)]; exact s3, by rw [au_k (by decide)]; exact s4, s5, s6, fun k hk => by rw [au_o (by decide)]; exact s7 k hk, s8, by rw [au_o (by decide)]; exact s9⟩, SRI_to hS (by rw [au_s]) (by rw [au_o (by decide)]), by rw [au_o (by decide)]; exact hCR, rfl, rfl, rfl, rfl⟩) (fun q => b_M_runs_452 (c_M_ends (b_M_runs_457 (ends _ _ _ (p_st_18x e q) _ _ (MR_end hfr hst)))))
      · -- 19
        next e =>
        simp only [e, Nat.reduceEqDiff, not_false_eq_true, not_true_eq_false, true_implies, false_implies, implies_true] at B0
        obtain ⟨h1, h2, j, hj, hj2⟩ := hL
        have hO : I 69 35 = nI O := by rw [i69 35 (by decide) (by decide) (by decide) (by decide) (by decide)]; exact z3
        have hT : I 69 34 = nI T := by rw [i69 34 (by decide) (by decide) (by decide) (by decide) (by decide)]; exact z2
        have hB : I 69 33 = nI B := by rw [i69 33 (by decide) (by decide) (by decide) (by decide) (by decide)]; exact z1
        have cO : (nI O ≤ nI ak) = (O ≤ ak) := nI_le' (by omega) (by omega)
        rw [hj2, hO, hT, hB, cO] at B0
        rw [e, hj2]
        have ask : ∀ r, r = ansF B T O row rule ak → aw_z X (d + 3) y_M_runs Q 519 (mloc slot row F rule (nI ak) (nI cs.length) sp (nI (pc + 1))) [.int r, .int (nI j), .ref 84] (aw_s I L D) := by
          intro r hr
          refine b_M_runs_519 (aw_in_nI hj (by decide)) ?_
          rw [nI_clamp (show j < 2 ^ 31 by omega), nI_1]
          refine go _ _ _ _ _ _ _ (p_st_19 e) (by rw [if_neg hs]; exact Nat.le_refl _) ⟨hfr.au (Or.inr (Or.inl rfl)), ⟨fun k hk => ?_, fun k hk => by rw [au_o (by decide)]; exact s2 k hk, by rw [au_o (by decide)]; exact s3, by rw [au_o (by decide)]; exact s4, s5, s6, fun k hk => by rw [au_o (by decide)]; exact s7 k hk, s8, by rw [au_o (by decide)]; exact s9⟩, SRI_as hS (by rw [au_o (by decide)]) (by rw [au_o (by decide)]), by rw [au_o (by decide)]; exact hCR, rfl, rfl, rfl, rfl⟩
          rw [hj2, nI_clamp (show j < 2 ^ 31 by omega), aw_u_eq, hr]
          unfold va_up
          split
          · rfl
          · exact s1 k hk
        refine B0 (fun q1 q2 => ask _ ?_) (fun q1 q2 => ?_) (fun q1 => ask _ ?_)
        · simp [ansF, q1, show ¬ ak < O by omega]
        · refine c_M_mask k1 k2 hB (b_M_runs_514 (ask _ ?_))
          rw [nI_add, pk_mul]
          simp [ansF, q1, show ak < O by omega]
        · simp [ansF, q1]
      · -- 20
        next e =>
        simp only [e, Nat.reduceEqDiff, not_false_eq_true, not_true_eq_false, true_implies, false_implies, implies_true] at B0
        rw [e]
        exact B0 (c_M_ends (b_M_runs_533 (ends _ _ _ (p_st_20 e) _ _ (MR_end hfr hst))))
      · -- 21
        next e =>
        simp only [e, Nat.reduceEqDiff, not_false_eq_true, not_true_eq_false, true_implies, false_implies, implies_true] at B0
        obtain ⟨h1, h2, hdc, t, ht, ht1, ht2, ht3, ht4, ht5, ht6⟩ := hL
        obtain ⟨v, st, hv, h3, h4⟩ := cons1 h1
        obtain ⟨t1, t2, t3, t4⟩ := itop hv
        subst hv
        simp only [List.length_cons] at hlen
        rw [t1, t3] at B0
        have hz : ¬ bg = 0 := fun h => by rcases g8 h with h | h | h <;> omega
        obtain ⟨m, hm, hsp⟩ := g9 (by omega)
        rw [e]
        have fr2 : MRfr I0 (aw_u I 69 25 ((I 69 25) - 1)) L0 L := hfr.au (Or.inl ⟨rfl, by omega⟩)
        refine B0 (by rw [t4]; exact aw_in_nI (by omega) (by decide)) (fun q => ?_) (fun q => ?_)
        · refine b_M_runs_552 (fun _ => ?_) (fun q => absurd rfl q) (fun q => absurd rfl q) (fun q => absurd rfl q)
          refine b_M_runs_602 ?_
          have hgo := p_st_21n (g := mk B) (F := F) (an := ansF B T O row rule) (cs := cs) (nm := nm) (cl := cl) (sp := sp) (bg := bg) (ds := ds) (ak := ak) (ys := ys) (tr := tr) (st := st) e q
          rw [ht, nI_clamp (show t < 2 ^ 31 by omega)] at hgo
          rw [t2, ht, au_k (by decide)]
          refine go _ _ _ _ _ _ _ hgo (by rw [if_neg hs]; exact Nat.le_succ _) ⟨(hfr.au (Or.inl ⟨rfl, by omega⟩)).au (Or.inl ⟨rfl, by omega⟩), ⟨fun k hk => by rw [au_o (by decide), au_o (by decide)]; exact s1 k hk, fun k hk => by rw [au_o (by decide), au_o (by decide)]; exact s2 k hk, by rw [au_k (by decide), au_k (by decide)]; exact s3, by rw [au_s, s4, nI_1]; simp, by rw [decL_s]; exact s5, s6, fun k hk => by rw [au_o (by decide), au_o (by decide)]; exact s7 k hk, s8, by rw [au_o (by decide), au_o (by decide)]; exact s9⟩, SRI_to hS (by rw [au_k (by decide), au_s]) (by rw [au_o (by decide), au_o (by decide)]), by rw [au_o (by decide), au_o (by decide)]; exact hCR, rfl, rfl, rfl, rfl⟩
        · refine b_M_runs_552 (fun q => absurd q (by decide)) (fun _ => by rw [hsp]; exact aw_in_nI hm (by decide)) (fun _ => by rw [hsp]; exact aw_in_nI hm (by decide)) (fun _ => ?_)
          refine b_M_runs_602 ?_
          have hgo := p_st_21 (g := mk B) (F := F) (an := ansF B T O row rule) (cs := cs) (nm := nm) (cl := cl) (sp := sp) (bg := bg) (ds := ds) (ak := ak) (ys := ys) (tr := tr) (st := st) e q
          rw [t2, au_o (show (69 : Nat) ≠ 88 by decide), au_k (show (45 : Nat) ≠ 25 by decide)]
          refine go _ _ _ _ _ _ _ hgo (by rw [if_neg hs]; exact Nat.le_succ _) ⟨(((hfr.au (Or.inl ⟨rfl, by omega⟩)).au (Or.inr (Or.inr (Or.inr (Or.inr (Or.inr (Or.inl rfl))))))).au (Or.inl ⟨rfl, by omega⟩)).al (Or.inl rfl), ⟨fun k hk => by rw [au_o (by decide), au_o (by decide), au_o (by decide)]; exact s1 k hk, fun k hk => by rw [au_o (by decide), au_o (by decide), au_o (by decide)]; exact s2 k hk, by rw [au_k (by decide), au_o (by decide), au_k (by decide)]; exact s3, by rw [au_s, s4, nI_1]; simp, by rw [au_s, s5, s4, decL_s, if_pos rfl]; rfl, by rw [au_k (by decide)]; exact s6, fun k hk => ?_, by rw [au_o (by decide)]; exact s8, by rw [au_o (by decide), au_o (by decide), au_o (by decide)]; exact s9⟩, SRI_to hS (by rw [au_k (by decide), au_o (by decide), au_s]) (by rw [au_o (by decide), au_o (by decide), au_o (by decide)]), by rw [au_o (by decide), au_o (by decide), au_o (by decide)]; exact hCR, rfl, rfl, rfl, rfl⟩
          rw [au_o (by decide), aw_u_eq, au_o (by decide), hsp, nI_clamp (show m < 2 ^ 31 by omega)]
          unfold va_up
          split
          · rw [s7 m hm, nI_1]
          · exact s7 k hk
      · -- 22
        next e =>
        simp only [e, Nat.reduceEqDiff, not_false_eq_true, not_true_eq_false, true_implies, false_implies, implies_true] at B0
        obtain ⟨h1, t, ht, ht2, ht3, ht4, ht5, ht7, ht6⟩ := hL
        have hgo := p_st_22 (g := mk B) (F := F) (an := ansF B T O row rule) (stk := stk) (cs := cs) (nm := nm) (cl := cl) (sp := sp) (bg := bg) (ds := ds) (ak := ak) (ys := ys) (tr := tr) e
        rw [ht, nI_clamp (show t < 2 ^ 31 by omega)] at hgo
        rw [e, ht]
        rw [ht] at B0
        exact B0 (go _ _ _ _ _ _ _ hgo (by rw [if_neg hs]; exact Nat.le_succ _) ⟨hfr, hst, hS, hCR, rfl, rfl, rfl, rfl⟩)
      · -- 23
        next e =>
        simp only [e, Nat.reduceEqDiff, not_false_eq_true, not_true_eq_false, true_implies, false_implies, implies_true] at B0
        obtain ⟨h1, h2, t, ht, ht2, ht3, ht4, ht5, ht6⟩ := hL
        have hgo := p_st_23 (g := mk B) (F := F) (an := ansF B T O row rule) (stk := stk) (cs := cs) (nm := nm) (cl := cl) (sp := sp) (bg := bg) (ds := ds) (ak := ak) (ys := ys) (tr := tr) e
        rw [ht, nI_clamp (show t < 2 ^ 31 by omega)] at hgo
        rw [e, ht]
        rw [ht, nI_clamp (show cs.length < 2 ^ 31 by omega), nI_1] at B0
        refine B0 (aw_in_nI (by omega) (by decide)) (go _ _ _ _ _ _ _ hgo (by rw [if_neg hs]; exact Nat.le_succ _) ⟨hfr.au (Or.inr (Or.inr (Or.inr (Or.inr (Or.inl rfl))))), ⟨fun k hk => by rw [au_o (by decide)]; exact s1 k hk, fun k hk => by rw [au_o (by decide)]; exact s2 k hk, by rw [au_o (by decide)]; exact s3, by rw [au_o (by decide)]; exact s4, s5, s6, fun k hk => by rw [au_o (by decide)]; exact s7 k hk, s8, by rw [au_o (by decide)]; exact s9⟩, SRI_as hS (by rw [au_o (by decide)]) (by rw [au_o (by decide)]), ?_, rfl, by simp, rfl, rfl⟩)
        refine ⟨by rw [au_s], ?_⟩
        rw [aw_u_eq]
        exact CRf_up (Nat.le_refl _) hCR
      · -- 24
        next e =>
        simp only [e, Nat.reduceEqDiff, not_false_eq_true, not_true_eq_false, true_implies, false_implies, implies_true] at B0
        obtain ⟨h1, h2⟩ := hL
        rw [e]
        cases cs with
        | nil => have : sg pc = 4 := g3; omega
        | cons r rs =>
          have i1 : nI (rs.length + 1) + (-1 : Int32) = nI rs.length := pk_m1 _
          rw [List.length_cons, i1, nI_clamp (show rs.length < 2 ^ 31 by simp at hcl; omega), hCR.1] at B0
          rw [List.length_cons]
          exact B0 (aw_in_nI (by simp at hcl; omega) (by decide)) (go _ _ _ _ _ _ _ (p_st_24 e) (by rw [if_neg hs]; exact Nat.le_succ _) ⟨hfr, hst, hS, hCR.2, rfl, rfl, rfl, rfl⟩)
      · -- 25
        next e =>
        simp only [e, Nat.reduceEqDiff, not_false_eq_true, not_true_eq_false, true_implies, false_implies, implies_true] at B0
        rw [e]
        exact B0 (c_M_ends (b_M_runs_662 (ends _ _ _ (p_st_25 e) _ _ (MR_end hfr hst))))
end MLOOP
