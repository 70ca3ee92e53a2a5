/-! PART 9b: reach of both -/
/-- what a call that only runs rows leaves -/
def FRn (I I' : Nat → Nat → Int32) (L L' : Nat → Nat → Int64) : Prop :=
  (∀ o, o ≠ 4 → o ≠ 5 → o ≠ 6 → o ≠ 7 → o ≠ 8 → o ≠ 10 → o ≠ 69 → o ≠ 71 → o ≠ 73 → o ≠ 84 → o ≠ 85 → o ≠ 86 → o ≠ 87 → o ≠ 88 → I' o = I o) ∧ (∀ k, k ≠ 0 → k ≠ 25 → k ≠ 32 → k ≠ 42 → k ≠ 43 → k ≠ 44 → k ≠ 45 → I' 69 k = I 69 k) ∧ I' 4 19 = I 4 19 ∧ KSl 4 I I' ∧ KSl 6 I I' ∧ (∀ o, o ≠ 4 → o ≠ 9 → o ≠ 69 → L' o = L o) ∧ ∀ k, k ≠ 46 → k ≠ 47 → L' 69 k = L 69 k
theorem FRn.mk1 {I I1 I2 I3 : Nat → Nat → Int32} {L L1 L3 : Nat → Nat → Int64} (a : KFr I I1 L L1) (b : FRA I1 I2) (c : MFr I2 I3 L1 L3) : FRn I I3 L L3 := by
  have hi : ∀ o, 11 ≤ o → I1 o = I o := fun o h => a.1 o (by omega) (by omega) (by omega) (by omega) (by omega) (by omega)
  have md : ∀ o, 71 ≤ o → o ≤ 78 → I3 o = I2 o := fun o p q => c.1 o (by omega) (by omega) (by omega) (by omega) (by omega) (by omega)
  refine ⟨fun o p4 p5 p6 p7 p8 p10 p69 p71 p73 p84 p85 p86 p87 p88 => ?_, fun x p0 p25 p32 p42 p43 p44 p45 => ?_, ?_, ?_, ?_, fun o p4 p9 p69 => ?_, fun x p q => ?_⟩
  · rw [c.1 o p69 p84 p85 p86 p87 p88, b.1 o p69 p71 p73, a.1 o p4 p5 p6 p7 p8 p10]
  · rw [c.2.1 x p25 p42 p43 p44 p45, b.2.1 x p0 p32, hi 69 (by decide)]
  · rw [c.1 4 (by decide) (by decide) (by decide) (by decide) (by decide) (by decide), b.1 4 (by decide) (by decide) (by decide)]; exact a.2.1
  · exact ((KSl.same (fun o p _ => hi o (by omega))).tr b.2.2.2.1).tr (KSl.same md)
  · exact ((KSl.same (fun o p _ => hi o (by omega))).tr b.2.2.2.2).tr (KSl.same md)
  · rw [c.2.2.1 o p69, a.2.2 o p4 p9]
  · rw [c.2.2.2 x p q, a.2.2 69 (by decide) (by decide)]
theorem FRn.run {I I' : Nat → Nat → Int32} {L L' : Nat → Nat → Int64} (h : FRn I I' L L') : FRun I I' L L' := by
  obtain ⟨a, b, c, e, f, g, k⟩ := h
  exact ⟨fun o p0 p4 p5 p6 p7 p8 p10 p68 p69 p71 p73 p84 p85 p86 p87 p88 p114 => a o p4 p5 p6 p7 p8 p10 p69 p71 p73 p84 p85 p86 p87 p88, fun x _ => by rw [a 0 (by decide) (by decide) (by decide) (by decide) (by decide) (by decide) (by decide) (by decide) (by decide) (by decide) (by decide) (by decide) (by decide) (by decide)], fun x p0 p25 p32 p42 p43 p44 p45 _ => b x p0 p25 p32 p42 p43 p44 p45, c, e, f, g, k⟩
/-- the first for which it holds -/
def fstR (f : Nat → Bool) : Nat → Nat → Int32
  | 0, _ => -1
  | m + 1, r => if f r = true then nI r else fstR f m (r + 1)
theorem fstR_c {f g : Nat → Bool} : ∀ (m r : Nat), (∀ x, x < r + m → f x = g x) → fstR f m r = fstR g m r
  | 0, _, _ => rfl
  | m + 1, r, h => by rw [fstR, fstR, h r (by omega), fstR_c m (r + 1) (fun x hx => h x (by omega))]
theorem out_dec {x y : Nat} (hx : x < 106) (h : 64 ≤ x → 101 ≤ x) (hy : y < 64) : (nI (if x < 64 then 100 + x else x - 100) = nI (100 + y)) ↔ (nI x = nI y) := by
  have h1 : (nI (if x < 64 then 100 + x else x - 100) = nI (100 + y)) ↔ ((if x < 64 then 100 + x else x - 100) = 100 + y) := nI_eq (by split <;> omega) (by omega)
  rw [h1, nI_eq (by omega) (by omega)]
  split <;> omega
section REACH
variable {X : aw_X} {d d2 : Nat} {Q : Option Value → aw_H → Prop} {I : Nat → Nat → Int32} {L : Nat → Nat → Int64} {D : Nat → Nat} {S : PT} {c s B T O F r : Nat} {v1 v2 v3 : Int32}
theorem c_Sz_gr {B : Nat} (h2 : 2 ≤ B) (h6 : B ≤ 6) (hs : I 1 0 = nI B) (h : Q (some (.int (mk B))) (aw_s I L D)) : aw_m X d y_Sz_greatest [.ref 1] (aw_s I L D) Q :=
  aw_go rfl rfl (b_Sz_greatest_0 (by rw [hs, mk_eq h2 h6]; exact h))
theorem l_AW_reach {E : Nat → PE} {vv : Nat} {res : Int32} (f0 : 0 < F) (f4 : F ≤ 40) (hE : ∀ r, RT1 S B T O F r (-1) (E r)) {I0 : Nat → Nat → Int32} {L0 : Nat → Nat → Int64} (hQ : ∀ I' L', KFr I0 I' L0 L' → Q (some (.int res)) (aw_s I' L' D)) :
    ∀ (m k : Nat) (I : Nat → Nat → Int32) (L : Nat → Nat → Int64), k + m = 2 ^ (B * (T + O)) → KIn S c B T O I L → KFr I0 I L0 L → fstR (fun r => decide (p_out (E r) = nI vv)) m k = res →
      aw_z X (d + 7) y_AW_reach Q 40 [some (.ref 0), none, some (.int (nI vv)), some (.int (nI F)), some (.ref c), some (.int (nI k))] [] (aw_s I L D) := by
  intro m
  induction m with
  | zero =>
    intro k I L e h f hr
    have hR := rows_lt h.2.2.2.1
    refine b_AW_reach_40 (c_Sz_rows h.2.2.2.1 h.2.2.2.2.1 h.2.2.2.2.2.1 h.2.2.2.2.2.2 (b_AW_reach_49 (fun _ => ?_) (fun q => absurd ?_ q)))
    · rw [show (-1 : Int32) = res from hr]; exact hQ I L f
    · rw [nI_leI (by omega) (by omega)]; omega
  | succ m ih =>
    intro k I L e h f hr
    have hR := rows_lt h.2.2.2.1
    refine b_AW_reach_40 (c_Sz_rows h.2.2.2.1 h.2.2.2.2.1 h.2.2.2.2.2.1 h.2.2.2.2.2.2 (b_AW_reach_49 (fun q => ?_) (fun _ => k_outcome h f0 f4 (by omega) (hE k) (fun I1 L1 f1 => b_AW_reach_64 (fun q => ?_) (fun q => ?_)))))
    · rw [nI_leI (by omega) (by omega)] at q; omega
    · rw [nI_1]
      refine ih (k + 1) I1 L1 (by omega) (h.fr f1) (f.tr f1) ?_
      rw [fstR, decide_eq_false q] at hr; exact hr
    · rw [fstR, decide_eq_true q, if_pos rfl] at hr
      rw [hr]; exact hQ I1 L1 (f.tr f1)
theorem l_M_reach {E : Nat → PE} {vv : Nat} {res : Int32} (f0 : 0 < F) (f4 : F ≤ 40) (hE : ∀ r, RT1 S B T O F r (-1) (E r)) {I0 : Nat → Nat → Int32} {L0 : Nat → Nat → Int64} (hQ : ∀ I' L', MFr I0 I' L0 L' → Q (some (.int res)) (aw_s I' L' D)) :
    ∀ (m k : Nat) (I : Nat → Nat → Int32) (L : Nat → Nat → Int64), k + m = 2 ^ (B * (T + O)) → MIn S s B T O I → MFr I0 I L0 L → fstR (fun r => decide (p_outM (E r) = nI (100 + vv))) m k = res →
      aw_z X (d + 5) y_M_reach Q 27 [some (.ref 69), some (.int (nI s)), some (.int (nI vv)), some (.int (nI F)), some (.int (nI k))] [] (aw_s I L D) := by
  intro m
  induction m with
  | zero =>
    intro k I L e h f hr
    have hR := rows_lt h.2.2.2.1
    refine b_M_reach_27 (c_M_rows h.2.2.2.1 h.2.2.2.2.1 (b_M_reach_33 (fun _ => ?_) (fun q => absurd ?_ q)))
    · rw [show (-1 : Int32) = res from hr]; exact hQ I L f
    · rw [nI_leI (by omega) (by omega)]; omega
  | succ m ih =>
    intro k I L e h f hr
    have hR := rows_lt h.2.2.2.1
    have e100 : (100 : Int32) + nI vv = nI (100 + vv) := by rw [show (100 : Int32) = nI 100 from rfl, nI_add]
    refine b_M_reach_27 (c_M_rows h.2.2.2.1 h.2.2.2.2.1 (b_M_reach_33 (fun q => ?_) (fun _ => m_outcome h f0 f4 (hE k) (fun I1 L1 f1 => b_M_reach_44 (fun q => ?_) (fun q => ?_)))))
    · rw [nI_leI (by omega) (by omega)] at q; omega
    · rw [nI_1]
      refine ih (k + 1) I1 L1 (by omega) (h.fr f1) (f.tr f1) ?_
      rw [e100] at q
      rw [fstR, decide_eq_false q] at hr; exact hr
    · rw [e100] at q
      rw [fstR, decide_eq_true q, if_pos rfl] at hr
      rw [hr]; exact hQ I1 L1 (f.tr f1)
theorem q_reach {pg : Nat → PT} (hP : RP pg I L D) (hS : RSz I) (h48 : I 69 48 = 0) (hQ : ∀ r I1 L1,
      (∀ (Q2 : Option Value → aw_H → Prop), (∀ I2 L2, RP pg I2 L2 D → I2 69 0 = 0 → FRn I I2 L L2 → Q2 (some (.int r)) (aw_s I2 L2 D)) → aw_m X (d2 + 5) y_M_reach [.ref 69, .int v1, .int v2, .int v3] (aw_s I1 L1 D) Q2) → Q (some (.int r)) (aw_s I1 L1 D)) :
    aw_m X (d + 7) y_AW_reach [.ref 0, .int v1, .int v2, .int v3] (aw_s I L D) Q := by
  obtain ⟨B, T, O, hk, s1, s2, s3, sz⟩ := hS
  obtain ⟨hD, hpg, hsl, hbo⟩ := id hP
  have hR := rows_lt hk
  have p6 : 2 ^ B ≤ 64 := Nat.pow_le_pow_right (n := 2) (by decide) hk.2.1
  have p0 := Nat.two_pow_pos B
  have hpg' : ∀ j, j < 4 → PG (pg j) := fun j hj => (hpg j hj).1
  -- the reference, where something is not told
  have mbad : ((v1 < 0 ∨ (4 : Int32) ≤ v1) ∨ (v2 < 0 ∨ mk B < v2) ∨ (v3 < 1 ∨ (40 : Int32) < v3)) → Q (some (.int (-2))) (aw_s I L D) := fun hx => by
    refine hQ (-2) I L (fun Q2 hQ2 => aw_go rfl rfl (b_M_reach_0 (c_M_areTold (d := d2 + 3) hsl hpg' (fun I' e32 hm f ht => ?_) (fun I' e32 hm f _ => ?_))))
    · have fr : FRn I I' L L := FRn.mk1 KFr.rf f MFr.rf
      have fin : Q2 (some (.int (-2))) (aw_s I' L D) := hQ2 I' L (hP.told fr.run e32 hm) f.2.2.1 fr
      obtain ⟨s, F, hs, e1, f0, f4, e3⟩ := ht
      refine b_M_reach_6 (fun x => absurd x (by decide)) (fun _ => c_M_mask hk.1 hk.2.1 (by rw [f.2.1 33 (by decide) (by decide)]; exact sz.1) (b_M_reach_15 (c_M_isIn (b_M_reach_18 (fun x => ?_) (fun _ => fin)))))
      exfalso
      rcases hx with g | g | g
      · rw [e1] at g
        rcases g with g | g
        · exact absurd g (nI_pos (by omega))
        · rw [show (4 : Int32) = nI 4 from rfl, nI_leI (by decide) (by omega)] at g; omega
      · rw [pb_t, isInB, Classical.not_not] at x
        exact g.elim x.1 x.2
      · rw [e3] at g
        rcases g with g | g
        · rw [show (1 : Int32) = nI 1 from rfl, nI_ltI (by omega) (by decide)] at g; omega
        · rw [show (40 : Int32) = nI 40 from rfl, nI_ltI (by decide) (by omega)] at g; omega
    · have fr : FRn I I' L L := FRn.mk1 KFr.rf f MFr.rf
      exact b_M_reach_6 (fun _ => hQ2 I' L (hP.told fr.run e32 hm) f.2.2.1 fr) (fun x => absurd rfl x)
  rcases i32_4 v1 with h1 | ⟨k, hk4, rfl⟩
  · exact aw_go rfl rfl (b_AW_reach_0 (c_AW_programAt0 h1 (b_AW_reach_5a (mbad (Or.inl h1)))))
  refine aw_go rfl rfl (b_AW_reach_0 (c_AW_programAt hk4 (b_AW_reach_5 (fun x => mbad (Or.inr (Or.inl (Or.inl x)))) (fun n2 => c_Sz_gr hk.1 hk.2.1 s1 (b_AW_reach_24 (fun x => mbad (Or.inr (Or.inl (Or.inr x)))) (fun m2 => ?_))))))
  rcases i32_F v3 with h3 | ⟨F, f0, f4, rfl⟩
  · exact c_AW_isFuel0 h3 (b_AW_reach_31 (fun x => absurd rfl x) (fun _ => mbad (Or.inr (Or.inr h3))))
  refine c_AW_isFuel f0 f4 (b_AW_reach_31 (fun _ => ?_) (fun x => absurd x (by decide)))
  obtain ⟨vv, -, hv, rfl⟩ := i32_lo (a := 0) (b := 2 ^ B - 1) (by decide) (by omega) n2 m2
  obtain ⟨E, hE⟩ := runs_ex (F := F) (T := T) (O := O) (rule := -1) (hpg' k hk4) hk f0 (fun h => absurd (by decide) h)
  have kin : KIn (pg k) (D k) B T O I L := ⟨hpg' k hk4, hD.1 k (by omega), (hpg k hk4).2, hk, s1, s2, s3⟩
  refine l_AW_reach (d := d) (S := pg k) (E := E) (res := fstR (fun r => decide (p_out (E r) = nI vv)) (2 ^ (B * (T + O))) 0) f0 f4 (fun r => (hE r).1) (I0 := I) (L0 := L) (fun I1 L1 fk => hQ _ I1 L1 (fun Q2 hQ2 => ?_)) (2 ^ (B * (T + O))) 0 I L (by omega) kin KFr.rf rfl
  have hi : ∀ o, 11 ≤ o → I1 o = I o := fun o h => fk.1 o (by omega) (by omega) (by omega) (by omega) (by omega) (by omega)
  have sl1 : MSl pg I1 := hsl.fr hpg' (by rw [hi 69 (by decide)]) (fun o x y => hi o (by omega))
  refine aw_go rfl rfl (b_M_reach_0 (c_M_areTold (d := d2 + 3) sl1 hpg' (fun I2 e32 hm f ht => ?_) (fun I2 e32 hm f hx => ?_)))
  · have x69 : ∀ x, x ≠ 0 → x ≠ 32 → I2 69 x = I 69 x := fun x p q => by rw [f.2.1 x p q, hi 69 (by decide)]
    have sz' : SZ I2 B T O := ⟨by rw [x69 33 (by decide) (by decide)]; exact sz.1, by rw [x69 34 (by decide) (by decide)]; exact sz.2.1, by rw [x69 35 (by decide) (by decide)]; exact sz.2.2⟩
    have min' : MIn (pg k) k B T O I2 := ⟨hpg' k hk4, by omega, hm k hk4, hk, sz', by rw [x69 48 (by decide) (by decide)]; exact h48⟩
    refine b_M_reach_6 (fun x => absurd x (by decide)) (fun _ => c_M_mask hk.1 hk.2.1 sz'.1 (b_M_reach_15 (c_M_isIn (b_M_reach_18 (fun _ => ?_) (fun x => ?_)))))
    · refine l_M_reach (d := d2) (S := pg k) (E := E) (res := fstR (fun r => decide (p_out (E r) = nI vv)) (2 ^ (B * (T + O))) 0) f0 f4 (fun r => (hE r).1) (I0 := I2) (L0 := L1) (fun I3 L3 fm => ?_) (2 ^ (B * (T + O))) 0 I2 L1 (by omega) min' MFr.rf (fstR_c _ _ (fun r _ => ?_))
      · have fr := FRn.mk1 fk f fm
        have md : ∀ o, 71 ≤ o → o ≤ 78 → I3 o = I2 o := fun o p q => fm.1 o (by omega) (by omega) (by omega) (by omega) (by omega) (by omega)
        exact hQ2 I3 L3 (hP.told fr.run (by rw [fm.2.1 32 (by decide) (by decide) (by decide) (by decide) (by decide)]; exact e32) (fun j hj => (hm j hj).ks (KSl.same md) (hpg' j hj).1.1 (hpg' j hj).2.1)) (by rw [fm.2.1 0 (by decide) (by decide) (by decide) (by decide) (by decide)]; exact f.2.2.1) fr
      · obtain ⟨x, hx, e1, e2, h64⟩ := out_val hk.2.1 (hE r).2
        show decide (p_outM (E r) = nI (100 + vv)) = decide (p_out (E r) = nI vv)
        rw [e1, e2]
        exact decide_eq_decide.mpr (out_dec hx h64 (by clear ht; omega))
    · rw [pb_t, isInB] at x
      exact absurd ⟨n2, m2⟩ x
  · exfalso
    rcases hx with g | g
    · rcases g with g | g
      · exact absurd g (nI_pos (by omega))
      · rw [show (4 : Int32) = nI 4 from rfl, nI_leI (by decide) (by omega)] at g; omega
    · rcases g with g | g
      · rw [show (1 : Int32) = nI 1 from rfl, nI_ltI (by omega) (by decide)] at g; omega
      · rw [show (40 : Int32) = nI 40 from rfl, nI_ltI (by decide) (by omega)] at g; omega
end REACH
