/-! PART ao: went, along and least of both -/
section QUER2
variable {X : aw_X} {d : Nat} {Q : Option Value → aw_H → Prop} {I : Nat → Nat → Int32} {L : Nat → Nat → Int64} {D : Nat → Nat} {v1 v2 : Int32}
theorem q_went (hK : RWk I L) : GetW X 3 y_AW_went [.ref 0, .int v1, .int v2] y_M_went [.ref 69, .int v1, .int v2] I L D := by
  rcases c_isWay (X := X) (D := D) (v1 := v1) hK with ⟨S, F, B, T, O, E, n, wl, wc, wi, i, h, hi, rfl, le, w1, w2⟩ | ⟨w1, w2⟩
  · have hk := h.1.2.2.2.1
    have hF := h.1.2.2.1
    have hW := h.1.2.2.2.2.2
    have hR := rows_lt hk
    have vi := aw_in_nI (show i < 4096 by omega) (show 4096 < 2 ^ 31 by decide)
    have ic : (nI i).toNatClampNeg = i := nI_clamp (by omega)
    have lw : wl i < 2 ^ (B * (T + O)) := h.2.2.1.2.2.2.2.1.1 i hi
    have k15 : L 15 i = lN (kK E (wl i)) := (h.2.2.1.2.2.2.2.2.1.2 i hi).1
    have m98 : I 98 i = nI (wl i) := (h.2.2.2.2.2.2.2.1.2 i hi).1
    obtain ⟨m91, -, m93, -⟩ := h.2.2.2.2.2.2.1.1 (wl i) lw
    have hE := hW.1 (wl i)
    have l40 : (eD (E (wl i))).length ≤ 40 := Nat.le_trans hE.2.2.2.1 hF
    have vw := aw_in_nI (show wl i < 4096 by omega) (show 4096 < 2 ^ 31 by decide)
    have wcl : (nI (wl i)).toNatClampNeg = wl i := nI_clamp (by omega)
    rcases i32_R (show (eD (E (wl i))).length < 2 ^ 31 by omega) v2 with g | ⟨j, hj, rfl, g1, g2⟩
    · refine ⟨-1, fun d => ⟨fun Q q => aw_go rfl rfl (b_AW_went_0 (aw_go rfl rfl (b_Wk_decision_0 (w1 _ _ (b_Wk_decision_5 (fun _ => c_valueAtJ (N := 4096) (by decide) rfl (by decide) (show i < 4096 by omega) ?_) (fun x => absurd x (by decide))))))), fun Q q => aw_go rfl rfl (b_M_went_0 (w2 _ _ _ (au_k (by decide)) (au_k (by decide)) (b_M_went_10 (fun x => absurd x (by decide)) (fun _ _ => q) (fun _ _ => vi) (fun _ _ => by rw [ic, au_o (by decide), m98]; exact vw) (fun _ _ _ => vi) (fun _ _ _ => by rw [ic, au_o (by decide), m98]; exact vw) (fun _ x y => ?_) (fun _ _ _ => q))))⟩⟩
      · rw [k15]
        refine b_Wk_decision_18 (fun _ => b_AW_went_9 q) (fun x => c_decisionsOf hF hE (b_Wk_decision_28 (fun y => ?_) (fun _ => b_AW_went_9 q)))
        rcases g with g | ⟨-, g⟩
        · exact absurd g x
        · exact absurd y (Int32.not_lt.mpr g)
      · exfalso
        rw [ic, au_o (show 93 ≠ 69 by decide), au_o (show 98 ≠ 69 by decide), m98, wcl, m93] at y
        rcases g with g | ⟨-, g⟩
        · exact absurd g x
        · exact absurd y (Int32.not_lt.mpr g)
    · have g2 : nI j < nI (eD (E (wl i))).length := Int32.not_le.mp g2
      refine ⟨if (eD (E (wl i))).getD j false = true then 1 else 0, fun d => ⟨fun Q q => aw_go rfl rfl (b_AW_went_0 (aw_go rfl rfl (b_Wk_decision_0 (w1 _ _ (b_Wk_decision_5 (fun _ => c_valueAtJ (N := 4096) (by decide) rfl (by decide) (show i < 4096 by omega) ?_) (fun x => absurd x (by decide))))))), fun Q q => aw_go rfl rfl (b_M_went_0 (w2 _ _ _ (au_k (by decide)) (au_k (by decide)) (b_M_went_10 (fun x => absurd x (by decide)) (fun _ x => absurd x g1) (fun _ _ => vi) (fun _ _ => by rw [ic, au_o (by decide), m98]; exact vw) (fun _ _ _ => vi) (fun _ _ _ => by rw [ic, au_o (by decide), m98]; exact vw) (fun _ x y => ?_) (fun _ _ y => ?_))))⟩⟩
      · rw [k15]
        refine b_Wk_decision_18 (fun x => absurd x g1) (fun _ => c_decisionsOf hF hE (b_Wk_decision_28 (fun _ => c_pathOf hF hE ?_) (fun x => absurd g2 x)))
        have e39 : (39 : Int32) - nI j = nI (39 - j) := by rw [show (39 : Int32) = nI 39 from rfl, pk_sub (by omega)]
        have B0 := @b_Wk_decision_37
        refine B0 (fun x => b_AW_went_9 ?_) (fun x => b_AW_went_9 ?_)
        all_goals
          rw [e39, cmp_eq, shr_lb (by omega), lb_n, Nat.testBit_eq_decide_div_mod_eq] at x
          have pb := path_bit (eD (E (wl i))) 0 j (by omega) hj
          rw [Nat.zero_add] at pb
          rw [pb] at x
          revert x q
          cases (eD (E (wl i))).getD j false <;> intro q x
        · exact q
        · exfalso
          rw [if_pos rfl] at x
          exact x (by rw [show decide ((0 : Nat) = 1) = false from rfl, Bool.and_false]; decide)
        · exfalso
          rw [if_neg Bool.false_ne_true, show decide ((1 : Nat) = 1) = true from rfl, Bool.and_true, decide_eq_true (show 39 - j < 64 by omega)] at x
          exact absurd x (by decide)
        · exact q
      · rw [ic, au_o (by decide), m98, wcl, m91, sar_lb (by omega), decL_lb (by omega)]
        revert q
        cases (eD (E (wl i))).getD j false <;> intro q <;> exact q
      · rw [ic, au_o (show 93 ≠ 69 by decide), au_o (show 98 ≠ 69 by decide), m98, wcl, m93] at y
        exact absurd g2 y
  · refine ⟨-1, fun d => ⟨fun Q q => aw_go rfl rfl (b_AW_went_0 (aw_go rfl rfl (b_Wk_decision_0 (w1 _ _ (b_Wk_decision_5 (fun x => absurd rfl x) (fun _ => b_AW_went_9 q)))))), fun Q q => aw_go rfl rfl (b_M_went_0 (w2 _ _ _ (au_k (by decide)) (au_k (by decide)) (b_M_went_10 (fun _ => q) (fun x => absurd rfl x) (fun x => absurd rfl x) (fun x => absurd rfl x) (fun x => absurd rfl x) (fun x => absurd rfl x) (fun x => absurd rfl x) (fun x => absurd rfl x))))⟩⟩
theorem q_along (hK : RWk I L) : GetW X 4 y_AW_along [.ref 0, .int v1] y_M_along [.ref 69, .int v1] I L D := by
  rcases hK with ⟨a, b⟩ | ⟨S, F, B, T, O, E, n, wl, wc, wi, h⟩
  · exact ⟨-1, fun d => ⟨fun Q q => aw_go rfl rfl (b_AW_along_0 (aw_go rfl rfl (b_Wk_isRow_0 (fun _ => b_AW_along_8 (fun _ => q) (fun x => absurd rfl x)) (fun x => absurd a x) (fun x => absurd a x) (fun x => absurd a x)))), fun Q q => aw_go rfl rfl (b_M_along_0 (fun _ => q) (fun x => absurd b x) (fun x => absurd b x))⟩⟩
  · have hk := h.1.2.2.2.1
    have hF := h.1.2.2.1
    have hW := h.1.2.2.2.2.2
    have hR := rows_lt hk
    have x0 : I 11 0 = 1 := h.2.2.1.1
    have x1 : I 11 1 = nI (2 ^ (B * (T + O))) := h.2.2.1.2.1
    have y1 : I 69 36 = 1 := h.2.2.2.1
    have n0 : ¬ I 11 0 = 0 := by rw [x0]; decide
    have m0 : ¬ I 69 36 = 0 := by rw [y1]; decide
    have sz : SZ (aw_u I 69 0 0) B T O := ⟨by rw [au_k (by decide)]; exact h.2.1.2.2.2.1, by rw [au_k (by decide)]; exact h.2.1.2.2.2.2.1, by rw [au_k (by decide)]; exact h.2.1.2.2.2.2.2⟩
    rcases i32_R (show 2 ^ (B * (T + O)) < 2 ^ 31 by omega) v1 with g | ⟨r, hr, rfl, g1, g2⟩
    · refine ⟨-1, fun d => ⟨fun Q q => aw_go rfl rfl (b_AW_along_0 (aw_go rfl rfl (b_Wk_isRow_0 (fun x => absurd x n0) (fun _ _ => b_AW_along_8 (fun _ => q) (fun x => absurd rfl x)) (fun _ _ _ => b_AW_along_8 (fun _ => q) (fun x => absurd rfl x)) (fun _ x y => ?_)))), fun Q q => aw_go rfl rfl (b_M_along_0 (fun x => absurd x m0) (fun _ _ => q) (fun _ x => c_M_rows hk sz (b_M_along_21 (fun _ => q) (fun y => ?_) (fun y => ?_))))⟩⟩
      · rw [x1] at y
        rcases g with g | ⟨-, g⟩
        · exact absurd g x
        · exact absurd g y
      · rcases g with g | ⟨-, g⟩
        · exact absurd g x
        · exact absurd g y
      · rcases g with g | ⟨-, g⟩
        · exact absurd g x
        · exact absurd g y
    · obtain ⟨q1, q2, q3⟩ := h.2.2.2.2.2.2.2.2.1 r hr
      have rc : (nI r).toNatClampNeg = r := nI_clamp (by omega)
      have nR := h.2.2.1.2.2.2.2.1.le
      refine ⟨nI (wi r), fun d => ⟨fun Q q => aw_go rfl rfl (b_AW_along_0 (aw_go rfl rfl (b_Wk_isRow_0 (fun x => absurd x n0) (fun _ x => absurd x g1) (fun _ _ x => absurd (x1 ▸ x) g2) (fun _ _ _ => b_AW_along_8 (fun x => absurd x (by decide)) (fun _ => aw_go rfl rfl (b_Wk_wayOf_0 (c_valueAtJ (N := 4096) (by decide) rfl (by decide) (show r < 4096 by omega) ?_))))))), fun Q q => aw_go rfl rfl (b_M_along_0 (fun x => absurd x m0) (fun _ x => absurd x g1) (fun _ _ => c_M_rows hk sz (b_M_along_21 (fun x => absurd x g2) (fun _ => aw_in_nI (by omega) (by decide)) (fun _ => ?_))))⟩⟩
      · rw [(h.2.2.1.2.2.2.1 r hr).1]
        refine b_Wk_wayOf_9 (c_Wk_find (d := d + 1) (k := keyN (E r)) (n := n) (kf := fun i => kK E (wl i)) (by omega) h.2.2.1.2.2.2.2.2.1.1 (Nat.lt_trans (key_lt hF (hW.1 r)) (by decide)) (fun i hi => ⟨Nat.lt_trans (key_lt hF (hW.1 _)) (by decide), (h.2.2.1.2.2.2.2.2.1.2 i hi).1⟩) h.2.2.1.2.2.2.2.1.2.1 (fun a ha lo up => b_Wk_wayOf_12 (b_AW_along_19 ?_)))
        have ea : a = wi r := by
          rcases Nat.lt_trichotomy a (wi r) with g | g | g
          · have u := up a (Nat.le_refl _) (by omega)
            have m := h.2.2.1.2.2.2.2.1.2.1 a (wi r) g q2
            have u : keyN (E r) ≤ kK E (wl a) := u
            have q3 : kK E (wl (wi r)) = keyN (E r) := q3
            omega
          · exact g
          · have l := lo _ g
            have l : kK E (wl (wi r)) < keyN (E r) := l
            have q3 : kK E (wl (wi r)) = keyN (E r) := q3
            omega
        rw [ea]; exact q
      · rw [rc, au_o (by decide), q1]; exact q
theorem q_least (hK : RWk I L) : GetW X 4 y_AW_least [.ref 0, .int v1, .int v2] y_M_least [.ref 69, .int v1, .int v2] I L D := by
  rcases hK with ⟨a, b⟩ | ⟨S, F, B, T, O, E, n, wl, wc, wi, h⟩
  · exact ⟨-1, fun d => ⟨fun Q q => aw_go rfl rfl (b_AW_least_0 (aw_go rfl rfl (b_Wk_leastRow_0 (b_Wk_leastRow_2 (fun _ => b_AW_least_9 q) (fun x => absurd a x) (fun x => absurd a x) (fun x => absurd a x) (fun x => absurd a x))))), fun Q q => aw_go rfl rfl (b_M_least_0 (fun _ => q) (fun x => absurd b x))⟩⟩
  · have hk := h.1.2.2.2.1
    have hF := h.1.2.2.1
    have hW := h.1.2.2.2.2.2
    have hR := rows_lt hk
    have x0 : I 11 0 = 1 := h.2.2.1.1
    have x1 : I 11 1 = nI (2 ^ (B * (T + O))) := h.2.2.1.2.1
    have y1 : I 69 36 = 1 := h.2.2.2.1
    have n0 : ¬ I 11 0 = 0 := by rw [x0]; decide
    have m0 : ¬ I 69 36 = 0 := by rw [y1]; decide
    have sz : SZ (aw_u I 69 0 0) B T O := ⟨by rw [au_k (by decide)]; exact h.2.1.2.2.2.1, by rw [au_k (by decide)]; exact h.2.1.2.2.2.2.1, by rw [au_k (by decide)]; exact h.2.1.2.2.2.2.2⟩
    have kk : ∀ r, r < 2 ^ (B * (T + O)) → L 12 r = lN (keyN (E r)) ∧ I 13 r = eS (E r) := fun r hr => ⟨(h.2.2.1.2.2.2.1 r hr).1, (h.2.2.1.2.2.2.1 r hr).2.1⟩
    have mm : ∀ r, r < 2 ^ (B * (T + O)) → I 95 r = eE (E r) ∧ I 96 r = eS (E r) := fun r hr => by
      obtain ⟨-, -, -, -, c, e⟩ := h.2.2.2.2.2.2.1.1 r hr
      exact ⟨c, e⟩
    clear h
    let P : Nat → Bool := fun r => decide (eE (E r) = v1 ∧ (v2 = -1 ∨ eS (E r) = v2))
    have lk : ∀ (d : Nat) (Q : Option Value → aw_H → Prop) (res : Int32), Q (some (.int res)) (aw_s I L D) → ∀ (m k : Nat), k + m = 2 ^ (B * (T + O)) → fstR P m k = res → aw_z X (d + 1) y_Wk_leastRow Q 2 [some (.ref 11), some (.int v1), some (.int v2), some (.int (nI k))] [] (aw_s I L D) := by
      intro d Q res q m
      induction m with
      | zero =>
        intro k e hr
        have le : I 11 1 ≤ nI k := by rw [x1, nI_leI (by omega) (by omega)]; omega
        have hr : -1 = res := hr
        exact b_Wk_leastRow_2 (fun x => absurd x n0) (fun _ _ => by rw [hr]; exact q) (fun _ x => absurd le x) (fun _ x => absurd le x) (fun _ x => absurd le x)
      | succ m ih =>
        intro k e hr
        have nle : ¬ I 11 1 ≤ nI k := by rw [x1, nI_leI (by omega) (by omega)]; omega
        have n4 : ¬ (4096 : Int32) ≤ nI k := by rw [show (4096 : Int32) = nI 4096 from rfl, nI_leI (by decide) (by omega)]; omega
        have vk := aw_in_nI (show k < 4096 by omega) (show 4096 < 2 ^ 31 by decide)
        have kc : (nI k).toNatClampNeg = k := nI_clamp (by omega)
        have k1 := kk k (by omega)
        rw [fstR] at hr
        refine b_Wk_leastRow_2 (fun x => absurd x n0) (fun _ x => absurd x nle) (fun _ _ x => absurd x n4) (fun _ _ _ => vk) (fun _ _ _ => ?_)
        rw [kc, k1.1]
        refine c_endOf hF (hW.1 k) (b_Wk_leastRow_33 (fun y => ?_) (fun y z => ?_) (fun _ _ => vk) (fun y z w => ?_) (fun y z w => ?_))
        · rw [if_neg (show ¬ P k = true by rw [decide_eq_true_iff]; exact fun t => y t.1)] at hr
          rw [nI_1]; exact ih (k + 1) (by omega) hr
        · rw [if_pos (show P k = true by rw [decide_eq_true_iff]; exact ⟨y, Or.inl z⟩)] at hr
          rw [hr]; exact q
        · rw [kc, k1.2] at w
          rw [if_neg (show ¬ P k = true by rw [decide_eq_true_iff]; exact fun t => t.2.elim z w)] at hr
          rw [nI_1]; exact ih (k + 1) (by omega) hr
        · rw [kc, k1.2] at w
          rw [if_pos (show P k = true by rw [decide_eq_true_iff]; exact ⟨y, Or.inr w⟩)] at hr
          rw [hr]; exact q
    have lm : ∀ (d : Nat) (Q : Option Value → aw_H → Prop) (res : Int32), Q (some (.int res)) (aw_s (aw_u I 69 0 0) L D) → ∀ (m k : Nat), k + m = 2 ^ (B * (T + O)) → fstR P m k = res → aw_z X (d + 1) y_M_least Q 25 [some (.ref 69), some (.int v1), some (.int v2), some (.int (nI k))] [] (aw_s (aw_u I 69 0 0) L D) := by
      intro d Q res q m
      induction m with
      | zero =>
        intro k e hr
        have le : nI (2 ^ (B * (T + O))) ≤ nI k := by rw [nI_leI (by omega) (by omega)]; omega
        have hr : -1 = res := hr
        exact b_M_least_25 (c_M_rows hk sz (b_M_least_30 (fun _ => by rw [hr]; exact q) (fun x => absurd le x) (fun x => absurd le x) (fun x => absurd le x) (fun x => absurd le x) (fun x => absurd le x) (fun x => absurd le x)))
      | succ m ih =>
        intro k e hr
        have nle : ¬ nI (2 ^ (B * (T + O))) ≤ nI k := by rw [nI_leI (by omega) (by omega)]; omega
        have vk := aw_in_nI (show k < 4096 by omega) (show 4096 < 2 ^ 31 by decide)
        have kc : (nI k).toNatClampNeg = k := nI_clamp (by omega)
        have k1 := mm k (by omega)
        rw [fstR] at hr
        refine b_M_least_25 (c_M_rows hk sz (b_M_least_30 (fun x => absurd x nle) (fun _ => vk) (fun _ y => ?_) (fun _ y z => ?_) (fun _ _ _ => vk) (fun _ y z w => ?_) (fun _ y z w => ?_)))
        · rw [kc, au_o (by decide), k1.1] at y
          rw [if_neg (show ¬ P k = true by rw [decide_eq_true_iff]; exact fun t => y t.1)] at hr
          rw [nI_1]; exact ih (k + 1) (by omega) hr
        · rw [kc, au_o (by decide), k1.1] at y
          rw [if_pos (show P k = true by rw [decide_eq_true_iff]; exact ⟨y, Or.inl z⟩)] at hr
          rw [hr]; exact q
        · rw [kc, au_o (by decide), k1.2] at w
          rw [if_neg (show ¬ P k = true by rw [decide_eq_true_iff]; exact fun t => t.2.elim z w)] at hr
          rw [nI_1]; exact ih (k + 1) (by omega) hr
        · rw [kc, au_o (by decide), k1.1] at y
          rw [kc, au_o (by decide), k1.2] at w
          rw [if_pos (show P k = true by rw [decide_eq_true_iff]; exact ⟨y, Or.inr w⟩)] at hr
          rw [hr]; exact q
    refine ⟨fstR P (2 ^ (B * (T + O))) 0, fun d => ⟨fun Q q => aw_go rfl rfl (b_AW_least_0 (aw_go rfl rfl (b_Wk_leastRow_0 (lk (d + 2) _ _ (b_AW_least_9 q) _ 0 (Nat.zero_add _) rfl)))), fun Q q => aw_go rfl rfl (b_M_least_0 (fun x => absurd x m0) (fun _ => c_M_isIn (b_M_least_18 (fun _ => lm (d + 3) _ _ q _ 0 (Nat.zero_add _) rfl) (fun z => ?_))))⟩⟩
    rw [pb_t, isInB] at z
    have none : fstR P (2 ^ (B * (T + O))) 0 = -1 := fstR_none _ _ (fun x => by
      apply decide_eq_false
      intro t
      have e := (hW.1 x).e
      rw [← t.1, e.2] at z
      exact z ⟨nI_pos (by omega), by rw [show (5 : Int32) = nI 5 from rfl, nI_ltI (by decide) (by omega)]; omega⟩)
    rw [none] at q; exact q
end QUER2
