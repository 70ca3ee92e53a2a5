/-! PART 9e: rule of both -/
section RULE2
variable {X : aw_X} {d d2 : Nat} {Q : Option Value → aw_H → Prop} {I : Nat → Nat → Int32} {L : Nat → Nat → Int64} {D : Nat → Nat} {S : PT} {c s B T O F r : Nat} {v v1 v2 v3 rule : Int32}
theorem nI_ne1 {v : Nat} (h : v < 2 ^ 31) : ¬ nI v = -1 := nI_m1 h
theorem l_AW_rule {E : Nat → Nat → PE} (f0 : 0 < F) (f4 : F ≤ 40) (hE : ∀ v, v < 2 ^ B → ∀ r, RT1 S B T O F r (nI v) (E v r)) {I0 : Nat → Nat → Int32} {L0 : Nat → Nat → Int64}
    (hQ : ∀ res, isFst (fun v => ∀ r, r < 2 ^ (B * T) → ¬ harm (E v r).1) (2 ^ B) res → ∀ I' L', KFr I0 I' L0 L' → Q (some (.int res)) (aw_s I' L' D)) :
    ∀ (m k lk : Nat) (I : Nat → Nat → Int32) (L : Nat → Nat → Int64), k + m = 2 ^ B → lk < 2 ^ (B * T) → KIn S c B T O I L → KFr I0 I L0 L → (∀ w, w < k → ¬ ∀ r, r < 2 ^ (B * T) → ¬ harm (E w r).1) →
      aw_z X (d + 6) y_AW_rule Q 26 [some (.ref 0), none, some (.int (nI F)), some (.ref c), some (.int (nI lk)), some (.int (nI k)), none] [] (aw_s I L D) := by
  intro m
  induction m with
  | zero =>
    intro k lk I L e hlk h f hw
    have hk := h.2.2.2.1
    have p6 : 2 ^ B ≤ 64 := Nat.pow_le_pow_right (n := 2) (by decide) hk.2.1
    have p0 := Nat.two_pow_pos B
    refine b_AW_rule_26 (c_Sz_gr hk.1 hk.2.1 h.2.2.2.2.1 (b_AW_rule_35 (fun _ => hQ (-1) (Or.inr ⟨fun w hw' => hw w (by omega), rfl⟩) I L f) (fun q => absurd ?_ q)))
    show nI (2 ^ B - 1) < nI k
    rw [nI_ltI (by omega) (by omega)]; omega
  | succ m ih =>
    intro k lk I L e hlk h f hw
    have hk := h.2.2.2.1
    have p6 : 2 ^ B ≤ 64 := Nat.pow_le_pow_right (n := 2) (by decide) hk.2.1
    have p0 := Nat.two_pow_pos B
    have lt12 : 2 ^ (B * T) ≤ 2 ^ 12 := Nat.pow_le_pow_right (by decide) (lets_le hk).2
    refine b_AW_rule_26 (c_Sz_gr hk.1 hk.2.1 h.2.2.2.2.1 (b_AW_rule_35 (fun q => ?_) (fun _ => c_AW_harmedRow (d := d) h f0 f4 (Or.inr ⟨nI_ne1 (by omega), ⟨k, by omega, rfl⟩, rfl⟩) hlk (hE k (by omega)) (fun hn I1 L1 f1 => b_AW_rule_48 (fun x => absurd rfl x) (fun _ => ?_)) (fun r hr hh I1 L1 f1 => b_AW_rule_48 (fun _ => ?_) (fun x => absurd x (nI_ne1 (by omega)))))))
    · have q : nI (2 ^ B - 1) < nI k := q
      rw [nI_ltI (by omega) (by omega)] at q; omega
    · exact hQ (nI k) (Or.inl ⟨k, by omega, hn, hw, rfl⟩) I1 L1 (f.tr f1)
    · rw [nI_1]
      refine ih (k + 1) r I1 L1 (by omega) hr (h.fr f1) (f.tr f1) (fun w hw' => ?_)
      by_cases g : w = k
      · subst g; exact fun x => x r hr hh
      · exact hw w (by omega)
theorem l_M_rule1 {E : Nat → PE} {k R : Nat} (f0 : 0 < F) (f4 : F ≤ 40) (hk2 : k < 2 ^ B) (hR : R = 2 ^ (B * T)) (hE : ∀ r, RT1 S B T O F r (nI k) (E r) ∧ p_end B F (E r)) {I0 : Nat → Nat → Int32} {L0 : Nat → Nat → Int64}
    (hQ1 : (∀ r, r < R → ¬ harm (E r).1) → ∀ I' L', MFr I0 I' L0 L' → aw_z X (d + 4) y_M_rule Q 77 [some (.ref 69), some (.int (nI s)), some (.int (nI F)), some (.int (nI k)), some (.int 1), none] [] (aw_s I' L' D))
    (hQ0 : ¬ (∀ r, r < R → ¬ harm (E r).1) → ∀ I' L', MFr I0 I' L0 L' → aw_z X (d + 4) y_M_rule Q 77 [some (.ref 69), some (.int (nI s)), some (.int (nI F)), some (.int (nI k)), some (.int 0), none] [] (aw_s I' L' D)) :
    ∀ (n x : Nat) (I : Nat → Nat → Int32) (L : Nat → Nat → Int64), x + n = R → MIn S s B T O I → MFr I0 I L0 L → (∀ r, r < x → ¬ harm (E r).1) →
      aw_z X (d + 4) y_M_rule Q 28 [some (.ref 69), some (.int (nI s)), some (.int (nI F)), some (.int (nI k)), some (.int 1), some (.int (nI x))] [] (aw_s I L D) := by
  intro n
  induction n with
  | zero =>
    intro x I L e h f hx
    have hk := h.2.2.2.1
    have lt12 : 2 ^ (B * T) ≤ 2 ^ 12 := Nat.pow_le_pow_right (by decide) (lets_le hk).2
    have B0 := @b_M_rule_28 X (d + 3) Q I L D (nI s) (nI F) (nI k) 1 (nI x)
    rw [h.2.2.2.2.1.1, h.2.2.2.2.1.2.1, lets_e hk] at B0
    refine B0 (fun _ => hQ1 (fun r hr => hx r (by omega)) I L f) (fun q => absurd ?_ q) (fun q => absurd ?_ q)
    · rw [nI_leI (by omega) (by omega)]; omega
    · rw [nI_leI (by omega) (by omega)]; omega
  | succ n ih =>
    intro x I L e h f hx
    have hk := h.2.2.2.1
    have lt12 : 2 ^ (B * T) ≤ 2 ^ 12 := Nat.pow_le_pow_right (by decide) (lets_le hk).2
    have B0 := @b_M_rule_28 X (d + 3) Q I L D (nI s) (nI F) (nI k) 1 (nI x)
    rw [h.2.2.2.2.1.1, h.2.2.2.2.1.2.1, lets_e hk] at B0
    refine B0 (fun q => ?_) (fun _ q => absurd q (by decide)) (fun _ _ => m_runs h f0 f4 (fun _ => ⟨k, hk2, rfl⟩) (hE x).1 (fun I1 L1 f1 _ => b_M_rule_58 (c_M_isHarm (hE x).2 (fun g => b_M_rule_61 (fun _ => ?_) (fun q => absurd q (by decide))) (fun g => b_M_rule_61 (fun q => absurd rfl q) (fun _ => ?_)))))
    · rw [nI_leI (by omega) (by omega)] at q; omega
    · have h1 := h.fr f1
      have B1 := @b_M_rule_28 X (d + 3) Q I1 L1 D (nI s) (nI F) (nI k) 0 (nI x + 1)
      have no : ¬ ∀ r, r < R → ¬ harm (E r).1 := fun z => z x (by omega) g
      exact B1 (fun _ => hQ0 no I1 L1 (f.tr f1)) (fun _ _ => hQ0 no I1 L1 (f.tr f1)) (fun _ q => absurd rfl q)
    · rw [nI_1]
      refine ih (x + 1) I1 L1 (by omega) (h.fr f1) (f.tr f1) (fun r hr => ?_)
      by_cases q : r = x
      · subst q; exact g
      · exact hx r (by omega)
theorem l_M_rule {E : Nat → Nat → PE} (f0 : 0 < F) (f4 : F ≤ 40) (hE : ∀ v, v < 2 ^ B → ∀ r, RT1 S B T O F r (nI v) (E v r) ∧ p_end B F (E v r)) {I0 : Nat → Nat → Int32} {L0 : Nat → Nat → Int64}
    (hQ : ∀ res, isFst (fun v => ∀ r, r < 2 ^ (B * T) → ¬ harm (E v r).1) (2 ^ B) res → ∀ I' L', MFr I0 I' L0 L' → Q (some (.int res)) (aw_s I' L' D)) :
    ∀ (m k : Nat) (I : Nat → Nat → Int32) (L : Nat → Nat → Int64), k + m = 2 ^ B → MIn S s B T O I → MFr I0 I L0 L → (∀ w, w < k → ¬ ∀ r, r < 2 ^ (B * T) → ¬ harm (E w r).1) →
      aw_z X (d + 4) y_M_rule Q 14 [some (.ref 69), some (.int (nI s)), some (.int (nI F)), some (.int (nI k)), none, none] [] (aw_s I L D) := by
  intro m
  induction m with
  | zero =>
    intro k I L e h f hw
    have hk := h.2.2.2.1
    have p6 : 2 ^ B ≤ 64 := Nat.pow_le_pow_right (n := 2) (by decide) hk.2.1
    have p0 := Nat.two_pow_pos B
    refine b_M_rule_14 (c_M_mask hk.1 hk.2.1 h.2.2.2.2.1.1 (b_M_rule_19 (fun _ => hQ (-1) (Or.inr ⟨fun w hw' => hw w (by omega), rfl⟩) I L f) (fun q => absurd ?_ q)))
    show nI (2 ^ B - 1) < nI k
    rw [nI_ltI (by omega) (by omega)]; omega
  | succ m ih =>
    intro k I L e h f hw
    have hk := h.2.2.2.1
    have p6 : 2 ^ B ≤ 64 := Nat.pow_le_pow_right (n := 2) (by decide) hk.2.1
    have p0 := Nat.two_pow_pos B
    refine b_M_rule_14 (c_M_mask hk.1 hk.2.1 h.2.2.2.2.1.1 (b_M_rule_19 (fun q => ?_) (fun _ => l_M_rule1 (d := d) (E := E k) (I0 := I) (L0 := L) f0 f4 (by omega) rfl (hE k (by omega)) (fun hn I1 L1 f1 => b_M_rule_77 (fun x => absurd x (by decide)) (fun _ => hQ (nI k) (Or.inl ⟨k, by omega, hn, hw, rfl⟩) I1 L1 (f.tr f1))) (fun hn I1 L1 f1 => b_M_rule_77 (fun _ => ?_) (fun x => absurd rfl x)) (2 ^ (B * T)) 0 I L (Nat.zero_add _) h MFr.rf (fun r x => absurd x (Nat.not_lt_zero r)))))
    · have q : nI (2 ^ B - 1) < nI k := q
      rw [nI_ltI (by omega) (by omega)] at q; omega
    · rw [nI_1]
      refine ih (k + 1) I1 L1 (by omega) (h.fr f1) (f.tr f1) (fun w hw' => ?_)
      by_cases g : w = k
      · subst g; exact hn
      · exact hw w (by omega)
theorem q_rule {pg : Nat → PT} (hP : RP pg I L D) (hS : RSz I) (h48 : I 69 48 = 0) (hQ : ∀ r I1 L1,
      (∀ (Q2 : Option Value → aw_H → Prop), (∀ I2 L2, RP pg I2 L2 D → I2 69 0 = 0 → FRn I I2 L L2 → Q2 (some (.int r)) (aw_s I2 L2 D)) → aw_m X (d2 + 4) y_M_rule [.ref 69, .int v1, .int v2] (aw_s I1 L1 D) Q2) → Q (some (.int r)) (aw_s I1 L1 D)) :
    aw_m X (d + 6) y_AW_rule [.ref 0, .int v1, .int v2] (aw_s I L D) Q := by
  obtain ⟨B, T, O, hk, s1, s2, s3, sz⟩ := hS
  obtain ⟨hD, hpg, hsl, hbo⟩ := id hP
  have hpg' : ∀ j, j < 4 → PG (pg j) := fun j hj => (hpg j hj).1
  have mbad : ((v1 < 0 ∨ (4 : Int32) ≤ v1) ∨ (v2 < 1 ∨ (40 : Int32) < v2)) → Q (some (.int (-2))) (aw_s I L D) := fun hx => by
    refine hQ (-2) I L (fun Q2 hQ2 => aw_go rfl rfl (b_M_rule_0 (c_M_areTold (d := d2 + 2) hsl hpg' (fun I' e32 hm f ht => ?_) (fun I' e32 hm f _ => ?_))))
    · obtain ⟨s, F, hs, e1, f0, f4, e3⟩ := ht
      rcases hx with g | g
      · rw [e1] at g; exact absurd g (told_p hs)
      · rw [e3] at g; exact absurd g (told_f f0 f4)
    · have fr : FRn I I' L L := FRn.mk1 KFr.rf f MFr.rf
      exact b_M_rule_6 (fun x => absurd rfl x) (fun _ => hQ2 I' L (hP.told fr.run e32 hm) f.2.2.1 fr)
  rcases i32_4 v1 with h1 | ⟨k, hk4, rfl⟩
  · exact aw_go rfl rfl (b_AW_rule_0 (c_AW_programAt0 h1 (b_AW_rule_5a (mbad (Or.inl h1)))))
  refine aw_go rfl rfl (b_AW_rule_0 (c_AW_programAt hk4 (b_AW_rule_5 ?_)))
  rcases i32_F v2 with h3 | ⟨F, f0, f4, rfl⟩
  · exact c_AW_isFuel0 h3 (b_AW_rule_14 (fun x => absurd rfl x) (fun _ => mbad (Or.inr h3)))
  refine c_AW_isFuel f0 f4 (b_AW_rule_14 (fun _ => ?_) (fun x => absurd x (by decide)))
  have hex : ∀ w : Nat, ∃ Ew : Nat → PE, w < 2 ^ B → ∀ r, RT1 (pg k) B T O F r (nI w) (Ew r) ∧ p_end B F (Ew r) := fun w => by
    by_cases g : w < 2 ^ B
    · obtain ⟨E, hE⟩ := runs_ex (F := F) (T := T) (O := O) (rule := nI w) (hpg' k hk4) hk f0 (fun _ => ⟨w, g, rfl⟩)
      exact ⟨E, fun _ => hE⟩
    · obtain ⟨E, hE⟩ := runs_ex (F := F) (T := T) (O := O) (rule := -1) (hpg' k hk4) hk f0 (fun h => absurd (by decide) h)
      exact ⟨E, fun x => absurd x g⟩
  obtain ⟨E, hE⟩ := Classical.axiomOfChoice hex
  have kin : KIn (pg k) (D k) B T O I L := ⟨hpg' k hk4, hD.1 k (by omega), (hpg k hk4).2, hk, s1, s2, s3⟩
  refine l_AW_rule (d := d) (S := pg k) (E := E) f0 f4 (fun w hw r => (hE w hw r).1) (I0 := I) (L0 := L) (fun res hres I1 L1 fk => hQ res I1 L1 (fun Q2 hQ2 => ?_)) (2 ^ B) 0 0 I L (by omega) (Nat.two_pow_pos _) kin KFr.rf (fun w x => absurd x (Nat.not_lt_zero w))
  have hi : ∀ o, 11 ≤ o → I1 o = I o := fun o h => fk.1 o (by omega) (by omega) (by omega) (by omega) (by omega) (by omega)
  have sl1 : MSl pg I1 := hsl.fr hpg' (by rw [hi 69 (by decide)]) (fun o x y => hi o (by omega))
  refine aw_go rfl rfl (b_M_rule_0 (c_M_areTold (d := d2 + 2) sl1 hpg' (fun I2 e32 hm f ht => ?_) (fun I2 e32 hm f hx => ?_)))
  · have x69 : ∀ x, x ≠ 0 → x ≠ 32 → I2 69 x = I 69 x := fun x p q => by rw [f.2.1 x p q, hi 69 (by decide)]
    have sz' : SZ I2 B T O := ⟨by rw [x69 33 (by decide) (by decide)]; exact sz.1, by rw [x69 34 (by decide) (by decide)]; exact sz.2.1, by rw [x69 35 (by decide) (by decide)]; exact sz.2.2⟩
    have min' : MIn (pg k) k B T O I2 := ⟨hpg' k hk4, by omega, hm k hk4, hk, sz', by rw [x69 48 (by decide) (by decide)]; exact h48⟩
    refine b_M_rule_6 (fun _ => l_M_rule (d := d2) (S := pg k) (E := E) f0 f4 hE (I0 := I2) (L0 := L1) (fun res' hres' I3 L3 fm => ?_) (2 ^ B) 0 I2 L1 (by omega) min' MFr.rf (fun w x => absurd x (Nat.not_lt_zero w))) (fun x => absurd x (by decide))
    rw [hres'.one hres]
    have fr := FRn.mk1 fk f fm
    have md : ∀ o, 71 ≤ o → o ≤ 78 → I3 o = I2 o := fun o p q => fm.1 o (by omega) (by omega) (by omega) (by omega) (by omega) (by omega)
    exact hQ2 I3 L3 (hP.told fr.run (by rw [fm.2.1 32 (by decide) (by decide) (by decide) (by decide) (by decide)]; exact e32) (fun j hj => (hm j hj).ks (KSl.same md) (hpg' j hj).1.1 (hpg' j hj).2.1)) (by rw [fm.2.1 0 (by decide) (by decide) (by decide) (by decide) (by decide)]; exact f.2.2.1) fr
  · exact absurd hx (fun g => g.elim (told_p hk4) (told_f f0 f4))
end RULE2
