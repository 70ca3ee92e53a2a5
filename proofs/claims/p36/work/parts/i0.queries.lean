/-! PART i0: what the class tells of a walk -/
/-- a walk that stands -/
def WD (S : PT) (B T O F : Nat) (E : Nat → PE) (n : Nat) (wl wc : Nat → Nat) (I : Nat → Nat → Int32) (L : Nat → Nat → Int64) : Prop := SZok B T O ∧ F ≤ 40 ∧ WE B F (cS S) E ∧ KWd S E (2 ^ (B * (T + O))) n wl wc (2 ^ (B * (T + O))) I L
theorem WD.fr {S : PT} {B T O F n : Nat} {E : Nat → PE} {wl wc : Nat → Nat} {I I' : Nat → Nat → Int32} {L L' : Nat → Nat → Int64} (h : WD S B T O F E n wl wc I L) (hI : ∀ o, 11 ≤ o → o ≤ 21 → I' o = I o) (hL : ∀ o, 11 ≤ o → o ≤ 21 → L' o = L o) : WD S B T O F E n wl wc I' L' := ⟨h.1, h.2.1, h.2.2.1, h.2.2.2.fr hI hL⟩
def fstR (f : Nat → Bool) : Nat → Nat → Int32
  | 0, _ => -1
  | m + 1, r => if f r = true then nI r else fstR f m (r + 1)
section QUERC
variable {X : aw_X} {d : Nat} {Q : Option Value → aw_H → Prop} {I : Nat → Nat → Int32} {L : Nat → Nat → Int64} {D : Nat → Nat} {S : PT} {B T O F n : Nat} {E : Nat → PE} {wl wc : Nat → Nat} {v1 v2 : Int32}
theorem c_isWay1 {i : Nat} (h : WD S B T O F E n wl wc I L) (hi : i < n) (hQ : Q (some (.int 1)) (aw_s I L D)) : aw_m X d y_Wk_isWay [.ref 11, .int (nI i)] (aw_s I L D) Q := by
  obtain ⟨hk, hF, hW, x1, x2, x3, hN⟩ := h
  have hR := rows_lt hk
  have le := hN.2.1.le
  have x6 : I 11 6 = nI n := hN.2.2.1.1
  have n1 : ¬ I 11 0 = 0 := by rw [x1]; decide
  have g1 : ¬ nI i < 0 := nI_pos (by omega)
  have g2 : ¬ nI n ≤ nI i := by rw [nI_leI (by omega) (by omega)]; omega
  exact aw_go rfl rfl (b_Wk_isWay_0 (fun x => absurd x n1) (fun _ x => absurd x g1) (fun _ _ x => absurd (x6 ▸ x) g2) (fun _ _ _ => hQ))
theorem c_isWay0 (h : WD S B T O F E n wl wc I L) (hv : v1 < 0 ∨ nI n ≤ v1) (hQ : Q (some (.int 0)) (aw_s I L D)) : aw_m X d y_Wk_isWay [.ref 11, .int v1] (aw_s I L D) Q := by
  obtain ⟨hk, hF, hW, x1, x2, x3, hN⟩ := h
  have x6 : I 11 6 = nI n := hN.2.2.1.1
  have n1 : ¬ I 11 0 = 0 := by rw [x1]; decide
  refine aw_go rfl rfl (b_Wk_isWay_0 (fun x => absurd x n1) (fun _ _ => hQ) (fun _ _ _ => hQ) (fun _ x y => ?_))
  rw [x6] at y
  rcases hv with g | g
  · exact absurd g x
  · exact absurd g y
theorem c_AW_went1 {i j : Nat} (h : WD S B T O F E n wl wc I L) (hi : i < n) (hj : j < (eD (E (wl i))).length) (hQ : Q (some (.int (if (eD (E (wl i))).getD j false = true then 1 else 0))) (aw_s I L D)) : aw_m X (d + 3) y_AW_went [.ref 0, .int (nI i), .int (nI j)] (aw_s I L D) Q := by
  have h' := h
  obtain ⟨hk, hF, hW, x1, x2, x3, hN⟩ := h'
  have hR := rows_lt hk
  have le := hN.2.1.le
  have k15 : L 15 i = lN (kK E (wl i)) := (hN.2.2.1.2 i hi).1
  have hE := hW.1 (wl i)
  have l40 : (eD (E (wl i))).length ≤ 40 := Nat.le_trans hE.2.2.2.1 hF
  have g1 : ¬ nI j < 0 := nI_pos (by omega)
  have g2 : nI j < nI (eD (E (wl i))).length := nI_lt hj (by omega)
  refine aw_go rfl rfl (b_AW_went_0 (aw_go rfl rfl (b_Wk_decision_0 (c_isWay1 h hi (b_Wk_decision_5 (fun _ => c_valueAtJ (N := 4096) (by decide) rfl (by decide) (show i < 4096 by omega) ?_) (fun x => absurd x (by decide)))))))
  rw [k15]
  refine b_Wk_decision_18 (fun x => absurd x g1) (fun _ => c_decisionsOf hF hE (b_Wk_decision_28 (fun _ => c_pathOf hF hE ?_) (fun x => absurd g2 x)))
  have e39 : (39 : Int32) - nI j = nI (39 - j) := by rw [show (39 : Int32) = nI 39 from rfl, pk_sub (by omega)]
  refine b_Wk_decision_37 (fun x => b_AW_went_9 ?_) (fun x => b_AW_went_9 ?_)
  all_goals
    rw [e39, cmp_eq, shr_lb (by omega), lb_n, Nat.testBit_eq_decide_div_mod_eq] at x
    have pb := path_bit (eD (E (wl i))) 0 j (by omega) hj
    rw [Nat.zero_add] at pb
    rw [pb] at x
    revert x hQ
    cases (eD (E (wl i))).getD j false <;> intro hQ x
  · exact hQ
  · exfalso
    rw [if_pos rfl] at x
    exact x (by rw [show decide ((0 : Nat) = 1) = false from rfl, Bool.and_false]; decide)
  · exfalso
    rw [if_neg Bool.false_ne_true, show decide ((1 : Nat) = 1) = true from rfl, Bool.and_true, decide_eq_true (show 39 - j < 64 by omega)] at x
    exact absurd x (by decide)
  · exact hQ
theorem c_AW_went0 {i : Nat} (h : WD S B T O F E n wl wc I L) (hi : i < n) (hv : v2 < 0 ∨ nI (eD (E (wl i))).length ≤ v2) (hQ : Q (some (.int (-1))) (aw_s I L D)) : aw_m X (d + 3) y_AW_went [.ref 0, .int (nI i), .int v2] (aw_s I L D) Q := by
  have h' := h
  obtain ⟨hk, hF, hW, x1, x2, x3, hN⟩ := h'
  have hR := rows_lt hk
  have le := hN.2.1.le
  have k15 : L 15 i = lN (kK E (wl i)) := (hN.2.2.1.2 i hi).1
  have hE := hW.1 (wl i)
  refine aw_go rfl rfl (b_AW_went_0 (aw_go rfl rfl (b_Wk_decision_0 (c_isWay1 h hi (b_Wk_decision_5 (fun _ => c_valueAtJ (N := 4096) (by decide) rfl (by decide) (show i < 4096 by omega) ?_) (fun x => absurd x (by decide)))))))
  rw [k15]
  refine b_Wk_decision_18 (fun _ => b_AW_went_9 hQ) (fun x => c_decisionsOf hF hE (b_Wk_decision_28 (fun y => ?_) (fun _ => b_AW_went_9 hQ)))
  rcases hv with g | g
  · exact absurd g x
  · exact absurd y (Int32.not_lt.mpr g)
theorem c_AW_along1 {r i : Nat} (h : WD S B T O F E n wl wc I L) (hr : r < 2 ^ (B * (T + O))) (hi : i < n) (he : keyN (E (wl i)) = keyN (E r)) (hQ : Q (some (.int (nI i))) (aw_s I L D)) : aw_m X (d + 4) y_AW_along [.ref 0, .int (nI r)] (aw_s I L D) Q := by
  have h' := h
  obtain ⟨hk, hF, hW, x1, x2, x3, hN⟩ := h'
  have hR := rows_lt hk
  have le := hN.2.1.le
  have n0 : ¬ I 11 0 = 0 := by rw [x1]; decide
  have g1 : ¬ nI r < 0 := nI_pos (by omega)
  have g2 : ¬ nI (2 ^ (B * (T + O))) ≤ nI r := by rw [nI_leI (by omega) (by omega)]; omega
  refine aw_go rfl rfl (b_AW_along_0 (aw_go rfl rfl (b_Wk_isRow_0 (fun x => absurd x n0) (fun _ x => absurd x g1) (fun _ _ x => absurd (x2 ▸ x) g2) (fun _ _ _ => b_AW_along_8 (fun x => absurd x (by decide)) (fun _ => aw_go rfl rfl (b_Wk_wayOf_0 (c_valueAtJ (N := 4096) (by decide) rfl (by decide) (show r < 4096 by omega) ?_)))))))
  rw [(hN.1 r hr).1]
  refine b_Wk_wayOf_9 (c_Wk_find (d := d + 1) (k := keyN (E r)) (n := n) (kf := fun i => kK E (wl i)) (by omega) hN.2.2.1.1 (Nat.lt_trans (key_lt hF (hW.1 r)) (by decide)) (fun i hi => ⟨Nat.lt_trans (key_lt hF (hW.1 _)) (by decide), (hN.2.2.1.2 i hi).1⟩) hN.2.1.2.1 (fun a ha lo up => b_Wk_wayOf_12 (b_AW_along_19 ?_)))
  have ea : a = i := by
    rcases Nat.lt_trichotomy a i with g | g | g
    · have u : keyN (E r) ≤ kK E (wl a) := up a (Nat.le_refl _) (by omega)
      have m : kK E (wl a) < kK E (wl i) := hN.2.1.2.1 a i g hi
      have q3 : kK E (wl i) = keyN (E r) := he
      omega
    · exact g
    · have l : kK E (wl i) < keyN (E r) := lo _ g
      have q3 : kK E (wl i) = keyN (E r) := he
      omega
  rw [ea]; exact hQ
theorem c_AW_along0 (h : WD S B T O F E n wl wc I L) (hv : v1 < 0 ∨ nI (2 ^ (B * (T + O))) ≤ v1) (hQ : Q (some (.int (-1))) (aw_s I L D)) : aw_m X (d + 4) y_AW_along [.ref 0, .int v1] (aw_s I L D) Q := by
  obtain ⟨hk, hF, hW, x1, x2, x3, hN⟩ := h
  have n0 : ¬ I 11 0 = 0 := by rw [x1]; decide
  refine aw_go rfl rfl (b_AW_along_0 (aw_go rfl rfl (b_Wk_isRow_0 (fun x => absurd x n0) (fun _ _ => b_AW_along_8 (fun _ => hQ) (fun x => absurd rfl x)) (fun _ _ _ => b_AW_along_8 (fun _ => hQ) (fun x => absurd rfl x)) (fun _ x y => ?_))))
  rw [x2] at y
  rcases hv with g | g
  · exact absurd g x
  · exact absurd g y
theorem c_AW_least (h : WD S B T O F E n wl wc I L) (hQ : Q (some (.int (fstR (fun r => decide (eE (E r) = v1)) (2 ^ (B * (T + O))) 0))) (aw_s I L D)) : aw_m X (d + 4) y_AW_least [.ref 0, .int v1, .int (-1)] (aw_s I L D) Q := by
  obtain ⟨hk, hF, hW, x0, x1, x3, hN⟩ := h
  have hR := rows_lt hk
  have n0 : ¬ I 11 0 = 0 := by rw [x0]; decide
  have kk : ∀ r, r < 2 ^ (B * (T + O)) → L 12 r = lN (keyN (E r)) := fun r hr => (hN.1 r hr).1
  have lk : ∀ (d : Nat) (Q : Option Value → aw_H → Prop) (res : Int32), Q (some (.int res)) (aw_s I L D) → ∀ (m k : Nat), k + m = 2 ^ (B * (T + O)) → fstR (fun r => decide (eE (E r) = v1)) m k = res → aw_z X (d + 1) y_Wk_leastRow Q 2 [some (.ref 11), some (.int v1), some (.int (-1)), some (.int (nI k))] [] (aw_s I L D) := by
    intro d Q res q m
    induction m with
    | zero =>
      intro k e hr
      have le : I 11 1 ≤ nI k := by rw [x1, nI_leI (by omega) (by omega)]; omega
      have hr : -1 = res := hr
      exact b_Wk_leastRow_2 (fun x => absurd x n0) (fun _ _ => by rw [hr]; exact q) (fun _ x => absurd le x) (fun _ x => absurd le x) (fun _ x => absurd le x)
    | succ m ih =>
      intro k e hr
      have nle : ¬ I 11 1 ≤ nI k := by rw [x1, nI_leI (by omega) (by omega)]; omega
      have n4 : ¬ (4096 : Int32) ≤ nI k := by rw [show (4096 : Int32) = nI 4096 from rfl, nI_leI (by decide) (by omega)]; omega
      have vk := aw_in_nI (show k < 4096 by omega) (show 4096 < 2 ^ 31 by decide)
      have kc : (nI k).toNatClampNeg = k := nI_clamp (by omega)
      have k1 := kk k (by omega)
      have hE := hW.1 k
      have hr : (if decide (eE (E k) = v1) = true then nI k else fstR (fun r => decide (eE (E r) = v1)) m (k + 1)) = res := hr
      refine b_Wk_leastRow_2 (fun x => absurd x n0) (fun _ x => absurd x nle) (fun _ _ x => absurd x n4) (fun _ _ _ => vk) (fun _ _ _ => ?_)
      rw [kc, k1]
      refine c_endOf hF hE (b_Wk_leastRow_33 (fun y => ?_) (fun y _ => ?_) (fun _ z => absurd rfl z) (fun _ z => absurd rfl z) (fun _ z => absurd rfl z))
      · rw [if_neg (show ¬ decide (eE (E k) = v1) = true by rw [decide_eq_true_iff]; exact y)] at hr
        rw [nI_1]; exact ih (k + 1) (by omega) hr
      · rw [if_pos (show decide (eE (E k) = v1) = true by rw [decide_eq_true_iff]; exact y)] at hr
        rw [hr]; exact q
  exact aw_go rfl rfl (b_AW_least_0 (aw_go rfl rfl (b_Wk_leastRow_0 (lk (d + 2) _ _ (b_AW_least_9 hQ) _ 0 (Nat.zero_add _) rfl))))
theorem c_Wk_ofWay {i k : Nat} (h : WD S B T O F E n wl wc I L) (hi : i < n) (hk : k < 6) (hQ : Q (some (.int (wyV E wl wc i k))) (aw_s I L D)) : aw_m X (d + 1) y_Wk_ofWay [.ref 11, .int (nI i), .int (nI k)] (aw_s I L D) Q := by
  obtain ⟨hk0, hF, hW, x0, x1, x3, hN⟩ := h
  have hR := rows_lt hk0
  have le := hN.2.1.le
  have lw := hN.2.1.1 i hi
  obtain ⟨k15, k17, k16⟩ := hN.2.2.1.2 i hi
  obtain ⟨-, k13, -⟩ := hN.1 (wl i) lw
  have hE := hW.1 (wl i)
  refine aw_go rfl rfl (b_Wk_ofWay_0 (c_valueAtJ (N := 4096) (by decide) rfl (by decide) (show i < 4096 by omega) (b_Wk_ofWay_8 (c_valueAtN (N := 4096) (by decide) rfl (by decide) (show i < 4096 by omega) (b_Wk_ofWay_17 (by
    rw [k17]
    refine c_valueAtN (N := 4096) (by decide) rfl (by decide) (show wl i < 4096 by omega) ?_
    rw [k15, k13]
    unfold wyV at hQ
    rcases (show k = 0 ∨ k = 1 ∨ k = 2 ∨ k = 3 ∨ k = 4 ∨ k = 5 by omega) with e | e | e | e | e | e <;> subst e
    · exact b_Wk_ofWay_28 (fun _ => c_endOf hF hE (b_Wk_ofWay_68 hQ)) (fun z => absurd (by decide) z) (fun z => absurd (by decide) z) (fun z => absurd (by decide) z) (fun z => absurd (by decide) z) (fun z => absurd (by decide) z) (fun z => absurd (by decide) z)
    · exact b_Wk_ofWay_28 (fun z => absurd z (by decide)) (fun _ _ => hQ) (fun _ z => absurd (by decide) z) (fun _ z => absurd (by decide) z) (fun _ z => absurd (by decide) z) (fun _ z => absurd (by decide) z) (fun _ z => absurd (by decide) z)
    · exact b_Wk_ofWay_28 (fun z => absurd z (by decide)) (fun _ z => absurd z (by decide)) (fun _ _ _ => c_decisionsOf hF hE (b_Wk_ofWay_76 hQ)) (fun _ _ z => absurd (by decide) z) (fun _ _ z => absurd (by decide) z) (fun _ _ z => absurd (by decide) z) (fun _ _ z => absurd (by decide) z)
    · exact b_Wk_ofWay_28 (fun z => absurd z (by decide)) (fun _ z => absurd z (by decide)) (fun _ _ z => absurd z (by decide)) (fun _ _ _ _ => c_valueAtN (N := 4096) (by decide) rfl (by decide) (show i < 4096 by omega) (by rw [k16]; exact b_Wk_ofWay_85 hQ)) (fun _ _ _ z => absurd (by decide) z) (fun _ _ _ z => absurd (by decide) z) (fun _ _ _ z => absurd (by decide) z)
    · exact b_Wk_ofWay_28 (fun z => absurd z (by decide)) (fun _ z => absurd z (by decide)) (fun _ _ z => absurd z (by decide)) (fun _ _ _ z => absurd z (by decide)) (fun _ _ _ _ _ => hQ) (fun _ _ _ _ z => absurd (by decide) z) (fun _ _ _ _ z => absurd (by decide) z)
    · refine b_Wk_ofWay_28 (fun z => absurd z (by decide)) (fun _ z => absurd z (by decide)) (fun _ _ z => absurd z (by decide)) (fun _ _ _ z => absurd z (by decide)) (fun _ _ _ _ z => absurd z (by decide)) (fun _ _ _ _ _ z => c_placeOf hF hE (b_Wk_ofWay_108 ?_)) (fun _ _ _ _ _ z => c_placeOf hF hE (b_Wk_ofWay_99 (b_Wk_ofWay_108 ?_)))
      · have : nHlt (E (wl i)) = 0 := by unfold nHlt; rw [if_neg z]
        rw [this]; exact hQ
      · have : nHlt (E (wl i)) = 1 := by unfold nHlt; rw [if_pos z]
        rw [this, show (1 : Int32) = nI 1 from rfl, pk_sub (by omega), Nat.add_sub_cancel]; exact hQ))))))
end QUERC
