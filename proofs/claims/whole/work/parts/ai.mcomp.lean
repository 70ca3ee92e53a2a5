/-! PART ai: the reference compares two rows' ways -/
theorem sub_sg {a b : Nat} (ha : a < 2 ^ 30) (hb : b < 2 ^ 30) : (0 < nI a - nI b ↔ b < a) ∧ (nI a - nI b = 0 ↔ a = b) := by
  have ea : (nI a).toInt = (a : Int) := Int32.toInt_ofNat_of_lt (by omega)
  have eb : (nI b).toInt = (b : Int) := Int32.toInt_ofNat_of_lt (by omega)
  have e : (nI a - nI b).toInt = (a : Int) - (b : Int) := by
    rw [Int32.toInt_sub, ea, eb]
    exact Int.bmod_eq_of_le_mul_two (by omega) (by omega)
  refine ⟨?_, ?_⟩
  · rw [Int32.lt_iff_toInt_lt, e, Int32.toInt_zero]; omega
  · rw [← Int32.toInt_inj, e, Int32.toInt_zero]; omega
theorem cmpL_at : ∀ (k : Nat) (x y : List Bool), k < x.length → k < y.length → (∀ j, j < k → x.getD j false = y.getD j false) → x.getD k false ≠ y.getD k false → cmpL x y = if x.getD k false = true then 0 else 2
  | _, [], _, h, _, _, _ => absurd h (Nat.not_lt_zero _)
  | _, _ :: _, [], _, h, _, _ => absurd h (Nat.not_lt_zero _)
  | 0, a :: x, b :: y, _, _, _, h => by
    have h : a ≠ b := h
    rw [cmpL, if_neg h]; rfl
  | k + 1, a :: x, b :: y, h1, h2, h3, h => by
    have h0 : a = b := h3 0 (Nat.succ_pos _)
    rw [cmpL, if_pos h0]
    exact cmpL_at k x y (Nat.lt_of_succ_lt_succ h1) (Nat.lt_of_succ_lt_succ h2) (fun j hj => h3 (j + 1) (Nat.succ_lt_succ hj)) h
theorem cmpL_pre : ∀ (x y : List Bool), (∀ j, j < x.length → j < y.length → x.getD j false = y.getD j false) → cmpL x y = if x.length < y.length then 0 else if x.length = y.length then 1 else 2
  | [], [], _ => rfl
  | [], b :: y, _ => by rw [cmpL, if_pos (show ([] : List Bool).length < (b :: y).length from Nat.succ_pos _)]
  | a :: x, [], _ => by rw [cmpL, if_neg (show ¬ (a :: x).length < ([] : List Bool).length from Nat.not_lt_zero _), if_neg (show ¬ (a :: x).length = ([] : List Bool).length from Nat.succ_ne_zero _)]
  | a :: x, b :: y, h => by
    have h0 : a = b := h 0 (Nat.succ_pos _) (Nat.succ_pos _)
    rw [cmpL, if_pos h0, cmpL_pre x y (fun j p q => h (j + 1) (Nat.succ_lt_succ p) (Nat.succ_lt_succ q)), List.length_cons, List.length_cons]
    by_cases p : x.length < y.length
    · rw [if_pos p, if_pos (Nat.succ_lt_succ p)]
    · rw [if_neg p, if_neg (fun q => p (Nat.lt_of_succ_lt_succ q))]
      by_cases q : x.length = y.length
      · rw [if_pos q, if_pos (by rw [q])]
      · rw [if_neg q, if_neg (fun z => q (Nat.succ.inj z))]
/-- what was noted of a row's run -/
def MR1 (E : PE) (q : Nat) (I : Nat → Nat → Int32) (L : Nat → Nat → Int64) : Prop := L 91 q = decL (eD E) ∧ I 93 q = nI (eD E).length ∧ I 94 q = nI (eB E) ∧ I 95 q = eE E ∧ I 96 q = eS E
theorem MS.r1 {E : Nat → PE} {r q : Nat} {I : Nat → Nat → Int32} {L : Nat → Nat → Int64} (h : MS E r I L) (hq : q < r) : MR1 (E q) q I L := by
  obtain ⟨a, -, b, c, e, f⟩ := h.1 q hq
  exact ⟨a, b, c, e, f⟩
section MCMP
variable {X : aw_X} {d : Nat} {Q : Option Value → aw_H → Prop} {I : Nat → Nat → Int32} {L : Nat → Nat → Int64} {D : Nat → Nat}
theorem c_M_compare {B F cs a b : Nat} {E1 E2 : PE} (hF : F ≤ 40) (ha : a < 4096) (hb : b < 4096) (g1 : EF B F cs E1) (g2 : EF B F cs E2) (h1 : MR1 E1 a I L) (h2 : MR1 E2 b I L)
    (hQ : ∀ v : Int32, (v = 0 ↔ cmpE E1 E2 = 1) → (0 < v ↔ cmpE E1 E2 = 2) → Q (some (.int v)) (aw_s I L D)) : aw_m X d y_M_compare [.ref 69, .int (nI a), .int (nI b)] (aw_s I L D) Q := by
  obtain ⟨a1, a2, a3, a4, a5⟩ := h1
  obtain ⟨b1, b2, b3, b4, b5⟩ := h2
  have en1 := g1.e
  have en2 := g2.e
  obtain ⟨-, s1, n1, l1, -⟩ := g1
  obtain ⟨-, s2, n2, l2, -⟩ := g2
  have va := aw_in_nI ha (show 4096 < 2 ^ 31 by decide)
  have vb := aw_in_nI hb (show 4096 < 2 ^ 31 by decide)
  have ac : (nI a).toNatClampNeg = a := nI_clamp (by omega)
  have bc : (nI b).toNatClampNeg = b := nI_clamp (by omega)
  -- both lists are alike
  have same : cmpL (eD E1) (eD E2) = 1 → (eD E1).length = (eD E2).length → ∀ v3 v4 : Int32, v3 ≤ v4 → aw_z X d y_M_compare Q 34 [some (.ref 69), some (.int (nI a)), some (.int (nI b)), some (.int v3), some (.int v4), none, none] [] (aw_s I L D) := fun c1 el v3 v4 hle => by
    have l93 : I 93 a = I 93 b := by rw [a2, b2, el]
    have cm : cmpE E1 E2 = if eB E1 ≠ eB E2 then (if eB E1 < eB E2 then 0 else 2) else if nHlt E1 ≠ nHlt E2 then (if nHlt E1 = 1 then 2 else 0) else if eN E1 < eN E2 then 0 else if eN E1 = eN E2 then 1 else 2 := by
      unfold cmpE; rw [c1, if_neg (by decide)]
    have k183 : eB E1 = eB E2 → ∀ s0 : Int32, (s0 = nI (nHlt E1)) → aw_z X d y_M_compare Q 183 [some (.ref 69), some (.int (nI a)), some (.int (nI b)), none, none, none, none] [.int s0] (aw_s I L D) := fun eb s0 hs => by
      rw [if_neg (fun x => x eb)] at cm
      have k198 : ∀ t0 : Int32, (t0 = nI (nHlt E2)) → aw_z X d y_M_compare Q 198 [some (.ref 69), some (.int (nI a)), some (.int (nI b)), none, none, none, none] [.int t0, .int s0] (aw_s I L D) := fun t0 ht => by
        have q1 := nH_le E1
        have q2 := nH_le E2
        have ee : s0 = t0 ↔ nHlt E1 = nHlt E2 := by rw [hs, ht]; exact nI_eq (by omega) (by omega)
        refine b_M_compare_198 (fun _ => va) (fun _ => vb) (fun q => ?_) (fun _ => va) (fun q z => ?_) (fun q z => ?_)
        · rw [if_neg (fun x => x (ee.mp q))] at cm
          rw [ac, bc, a4, b4, en1.2, en2.2]
          obtain ⟨x1, x2⟩ := sub_sg (a := eN E1) (b := eN E2) (by omega) (by omega)
          refine hQ _ (x2.trans ?_) (x1.trans ?_)
          · rw [cm]; split
            · omega
            · split <;> omega
          · rw [cm]; split
            · omega
            · split <;> omega
        · rw [if_pos (fun x => q (ee.mpr x))] at cm
          rw [ac, a5] at z
          have : nHlt E1 = 0 := by unfold nHlt; rw [if_neg z]
          rw [if_neg (by omega)] at cm
          refine hQ _ ?_ ?_
          · rw [cm]; exact ⟨fun x => absurd x (by decide), fun x => absurd x (by decide)⟩
          · rw [cm]; exact ⟨fun x => absurd x (by decide), fun x => absurd x (by decide)⟩
        · rw [if_pos (fun x => q (ee.mpr x))] at cm
          rw [ac, a5] at z
          have : nHlt E1 = 1 := by unfold nHlt; rw [if_pos z]
          rw [if_pos (by omega)] at cm
          refine hQ _ ?_ ?_
          · rw [cm]; exact ⟨fun x => absurd x (by decide), fun x => absurd x (by decide)⟩
          · rw [cm]; exact ⟨fun _ => rfl, fun _ => by decide⟩
      refine b_M_compare_183 vb (fun q => k198 _ ?_) (fun q => k198 _ ?_)
      · rw [bc, b5] at q
        unfold nHlt; rw [if_neg q]; rfl
      · rw [bc, b5] at q
        unfold nHlt; rw [if_pos q]; rfl
    have e94 : I 94 a = I 94 b ↔ eB E1 = eB E2 := by rw [a3, b3]; exact nI_eq (by omega) (by omega)
    refine b_M_compare_34 (fun _ => va) (fun _ => vb) (fun _ _ => va) (fun _ _ => vb) (fun _ _ _ => va) (fun _ _ q z => ?_) (fun _ _ q z => ?_) (fun _ _ _ => va) (fun _ _ _ => vb) (fun _ _ q => ?_) (fun _ _ => va) (fun _ _ => vb) (fun _ q => ?_) (fun _ => va) (fun q => absurd hle q) (fun q => absurd hle q)
    · rw [ac, bc] at q
      rw [ac, a5] at z
      exact k183 (e94.mp q) _ (by unfold nHlt; rw [if_neg z]; rfl)
    · rw [ac, bc] at q
      rw [ac, a5] at z
      exact k183 (e94.mp q) _ (by unfold nHlt; rw [if_pos z]; rfl)
    · rw [ac, bc] at q
      have q' : eB E1 ≠ eB E2 := fun x => q (e94.mpr x)
      rw [if_pos q'] at cm
      rw [ac, bc, a3, b3]
      obtain ⟨x1, x2⟩ := sub_sg (a := eB E1) (b := eB E2) (by omega) (by omega)
      refine hQ _ (x2.trans ?_) (x1.trans ?_)
      · rw [cm]; split <;> omega
      · rw [cm]; split <;> omega
    · rw [ac, bc] at q; exact absurd l93 q
  -- the decisions, one after another
  have loop : ∀ (m k : Nat), k + m = min (eD E1).length (eD E2).length → (∀ j, j < k → (eD E1).getD j false = (eD E2).getD j false) → aw_z X d y_M_compare Q 34 [some (.ref 69), some (.int (nI a)), some (.int (nI b)), some (.int (nI (min (eD E1).length (eD E2).length))), some (.int (nI k)), none, none] [] (aw_s I L D) := by
    intro m
    induction m with
    | zero =>
      intro k e hj
      have cp := cmpL_pre (eD E1) (eD E2) (fun j p q => hj j (by omega))
      by_cases g : (eD E1).length = (eD E2).length
      · rw [if_neg (by omega), if_pos g] at cp
        exact same cp g _ _ (by rw [nI_leI (by omega) (by omega)]; omega)
      · have n93 : ¬ I 93 a = I 93 b := by rw [a2, b2, nI_eq (by omega) (by omega)]; exact g
        have hle : nI (min (eD E1).length (eD E2).length) ≤ nI k := by rw [nI_leI (by omega) (by omega)]; omega
        refine b_M_compare_34 (fun _ => va) (fun _ => vb) (fun _ _ => va) (fun _ _ => vb) (fun _ _ _ => va) (fun _ q => ?_) (fun _ q => ?_) (fun _ _ _ => va) (fun _ _ _ => vb) (fun _ q => ?_) (fun _ _ => va) (fun _ _ => vb) (fun _ q => ?_) (fun _ => va) (fun q => absurd hle q) (fun q => absurd hle q)
        · rw [ac, bc] at q; exact absurd q n93
        · rw [ac, bc] at q; exact absurd q n93
        · rw [ac, bc] at q; exact absurd q n93
        · rw [ac, bc, a2, b2]
          obtain ⟨x1, x2⟩ := sub_sg (a := (eD E1).length) (b := (eD E2).length) (by omega) (by omega)
          have cm : cmpE E1 E2 = if (eD E1).length < (eD E2).length then 0 else 2 := by
            unfold cmpE
            rw [cp, if_neg g]
            by_cases h : (eD E1).length < (eD E2).length
            · rw [if_pos h, if_pos (by decide)]
            · rw [if_neg h, if_pos (by decide)]
          refine hQ _ (x2.trans ?_) (x1.trans ?_)
          · rw [cm]; split <;> omega
          · rw [cm]; split <;> omega
    | succ m ih =>
      intro k e hj
      have hle : ¬ nI (min (eD E1).length (eD E2).length) ≤ nI k := by rw [nI_leI (by omega) (by omega)]; omega
      have k84 : ∀ x y : Int32, x = p_b ((eD E1).getD k false) → y = p_b ((eD E2).getD k false) → aw_z X d y_M_compare Q 84 [some (.ref 69), some (.int (nI a)), some (.int (nI b)), some (.int (nI (min (eD E1).length (eD E2).length))), some (.int (nI k)), some (.int x), none] [.int y] (aw_s I L D) := fun x y ex ey => by
        refine b_M_compare_84 (fun q => ?_) (fun q z => ?_) (fun q z => ?_)
        · rw [nI_1]
          refine ih (k + 1) (by omega) (fun j p => ?_)
          by_cases g : j = k
          · subst g
            rw [ex, ey] at q
            revert q
            cases (eD E1).getD j false <;> cases (eD E2).getD j false <;> intro q <;> first | rfl | exact absurd q (by decide)
          · exact hj j (by omega)
        · have ne : (eD E1).getD k false ≠ (eD E2).getD k false := fun g => q (by rw [ex, ey, g])
          have cp := cmpL_at k (eD E1) (eD E2) (by omega) (by omega) hj ne
          have f : (eD E1).getD k false = false := by
            rw [ex] at z; revert z
            cases (eD E1).getD k false <;> intro z <;> first | rfl | exact absurd z (by decide)
          rw [f, if_neg Bool.false_ne_true] at cp
          have cm : cmpE E1 E2 = 2 := by unfold cmpE; rw [cp, if_pos (by decide)]
          exact hQ _ (by rw [cm]; exact ⟨fun x => absurd x (by decide), fun x => absurd x (by decide)⟩) (by rw [cm]; exact ⟨fun _ => rfl, fun _ => by decide⟩)
        · have ne : (eD E1).getD k false ≠ (eD E2).getD k false := fun g => q (by rw [ex, ey, g])
          have cp := cmpL_at k (eD E1) (eD E2) (by omega) (by omega) hj ne
          have f : (eD E1).getD k false = true := by
            rw [ex] at z; revert z
            cases (eD E1).getD k false <;> intro z <;> first | rfl | exact absurd rfl z
          rw [f, if_pos rfl] at cp
          have cm : cmpE E1 E2 = 0 := by unfold cmpE; rw [cp, if_pos (by decide)]
          exact hQ _ (by rw [cm]; exact ⟨fun x => absurd x (by decide), fun x => absurd x (by decide)⟩) (by rw [cm]; exact ⟨fun x => absurd x (by decide), fun x => absurd x (by decide)⟩)
      have bitA : (lg_cmp ((L 91 (nI a).toNatClampNeg >>> ((nI k).toInt64 &&& 63)) &&& (1 : Int64)) (1 : Int64) = 0) ↔ (eD E1).getD k false = true := by
        rw [cmp_eq, ac, a1, sar_lb (by omega), decL_lb (by omega)]
        cases (eD E1).getD k false <;> decide
      have bitB : (lg_cmp ((L 91 (nI b).toNatClampNeg >>> ((nI k).toInt64 &&& 63)) &&& (1 : Int64)) (1 : Int64) = 0) ↔ (eD E2).getD k false = true := by
        rw [cmp_eq, bc, b1, sar_lb (by omega), decL_lb (by omega)]
        cases (eD E2).getD k false <;> decide
      have k61 : ∀ x : Int32, x = p_b ((eD E1).getD k false) → aw_z X d y_M_compare Q 61 [some (.ref 69), some (.int (nI a)), some (.int (nI b)), some (.int (nI (min (eD E1).length (eD E2).length))), some (.int (nI k)), none, none] [.int x] (aw_s I L D) := fun x ex => by
        refine b_M_compare_61 vb (fun q => k84 x _ ex ?_) (fun q => k84 x _ ex ?_)
        · rw [Bool.eq_false_iff.mpr (fun z => q (bitB.mpr z))]; rfl
        · rw [bitB.mp q]; rfl
      refine b_M_compare_34 (fun q => absurd q hle) (fun q => absurd q hle) (fun q => absurd q hle) (fun q => absurd q hle) (fun q => absurd q hle) (fun q => absurd q hle) (fun q => absurd q hle) (fun q => absurd q hle) (fun q => absurd q hle) (fun q => absurd q hle) (fun q => absurd q hle) (fun q => absurd q hle) (fun q => absurd q hle) (fun _ => va) (fun _ q => k61 _ ?_) (fun _ q => k61 _ ?_)
      · rw [Bool.eq_false_iff.mpr (fun z => q (bitA.mpr z))]; rfl
      · rw [bitA.mp q]; rfl
  refine aw_go rfl rfl (b_M_compare_0 va vb (fun _ => vb) (fun q => ?_) (fun _ => va) (fun q => ?_))
  · rw [ac, bc, a2, b2, nI_leI (by omega) (by omega)] at q
    have lp := loop _ 0 (Nat.zero_add _) (fun j h => absurd h (Nat.not_lt_zero j))
    rw [bc, b2]
    rw [Nat.min_eq_right q] at lp
    exact lp
  · rw [ac, bc, a2, b2, nI_leI (by omega) (by omega)] at q
    have lp := loop _ 0 (Nat.zero_add _) (fun j h => absurd h (Nat.not_lt_zero j))
    rw [ac, a2]
    rw [Nat.min_eq_left (by omega)] at lp
    exact lp
end MCMP
