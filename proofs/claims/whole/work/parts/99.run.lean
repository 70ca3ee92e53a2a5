/-! PART 99: run of both -/
/-- what a call that runs rows leaves -/
def FRun (I I' : Nat → Nat → Int32) (L L' : Nat → Nat → Int64) : Prop :=
  (∀ o, o ≠ 0 → o ≠ 4 → o ≠ 5 → o ≠ 6 → o ≠ 7 → o ≠ 8 → o ≠ 10 → o ≠ 68 → o ≠ 69 → o ≠ 71 → o ≠ 73 → o ≠ 84 → o ≠ 85 → o ≠ 86 → o ≠ 87 → o ≠ 88 → o ≠ 114 → I' o = I o) ∧ (∀ k, k ≠ 17 → I' 0 k = I 0 k) ∧ (∀ k, k ≠ 0 → k ≠ 25 → k ≠ 32 → k ≠ 42 → k ≠ 43 → k ≠ 44 → k ≠ 45 → k ≠ 85 → I' 69 k = I 69 k) ∧ I' 4 19 = I 4 19 ∧ KSl 4 I I' ∧ KSl 6 I I' ∧ (∀ o, o ≠ 4 → o ≠ 9 → o ≠ 69 → L' o = L o) ∧ ∀ k, k ≠ 46 → k ≠ 47 → L' 69 k = L 69 k
theorem FRA.run {I I' : Nat → Nat → Int32} {L : Nat → Nat → Int64} (h : FRA I I') : FRun I I' L L := by
  obtain ⟨a, b, c, e, f⟩ := h
  exact ⟨fun o _ _ _ _ _ _ _ _ h69 h71 h73 _ _ _ _ _ _ => a o h69 h71 h73, fun k _ => by rw [a 0 (by decide) (by decide) (by decide)], fun k h0 _ h32 _ _ _ _ _ => b k h0 h32, by rw [a 4 (by decide) (by decide) (by decide)], e, f, fun _ _ _ _ => rfl, fun _ _ _ => rfl⟩
theorem RP.told {pg : Nat → PT} {I I' : Nat → Nat → Int32} {L L' : Nat → Nat → Int64} {D : Nat → Nat} (h : RP pg I L D) (f : FRun I I' L L') (h32 : I' 69 32 = 1) (hm : ∀ j, j < 4 → MCd (pg j) j I') : RP pg I' L' D := by
  obtain ⟨a, b, c, e⟩ := h
  obtain ⟨f1, -, -, -, -, -, f7, -⟩ := f
  refine ⟨a, fun k hk => ?_, Or.inl ⟨h32, hm⟩, fun j hj => ?_⟩
  · obtain ⟨b1, b2⟩ := codes_bd (a.1 k (by omega))
    exact ⟨(b k hk).1, (b k hk).2.fr (fun o x y => f1 o (by omega) (by omega) (by omega) (by omega) (by omega) (by omega) (by omega) (by omega) (by omega) (by omega) (by omega) (by omega) (by omega) (by omega) (by omega) (by omega) (by omega)) (by rw [f7 _ (by omega) (by omega) (by omega)])⟩
  · rw [f1 77 (by decide) (by decide) (by decide) (by decide) (by decide) (by decide) (by decide) (by decide) (by decide) (by decide) (by decide) (by decide) (by decide) (by decide) (by decide) (by decide) (by decide)]; exact e j hj
theorem RGt.fra {I I' : Nat → Nat → Int32} (h : RGt I) (f : FRA I I') : RGt I' := by
  obtain ⟨a, b, -⟩ := f
  have e0 := a 0 (by decide) (by decide) (by decide)
  have e69 := b 85 (by decide) (by decide)
  have e68 := a 68 (by decide) (by decide) (by decide)
  have e114 := a 114 (by decide) (by decide) (by decide)
  rcases h with ⟨x, y⟩ | ⟨x, y, z⟩
  · exact Or.inl ⟨by rw [e0]; exact x, e69.trans y⟩
  · exact Or.inr ⟨by rw [e0]; exact x, e69.trans y, fun j hj => by rw [e68, e114]; exact z j hj⟩
section RUNS
variable {X : aw_X} {d d2 : Nat} {Q : Option Value → aw_H → Prop} {I : Nat → Nat → Int32} {L : Nat → Nat → Int64} {D : Nat → Nat} {v1 v2 v3 : Int32}
theorem q_run {pg : Nat → PT} (hP : RP pg I L D) (hS : RSz I) (h48 : I 69 48 = 0) (hG : RGt I) (hQ : ∀ r I1 L1,
      (∀ (Q2 : Option Value → aw_H → Prop), (∀ I2 L2, RP pg I2 L2 D → RGt I2 → I2 69 0 = 0 → FRun I I2 L L2 → Q2 (some (.int r)) (aw_s I2 L2 D)) → aw_m X (d2 + 4) y_M_run [.ref 69, .int v1, .int v2, .int v3] (aw_s I1 L1 D) Q2) → Q (some (.int r)) (aw_s I1 L1 D)) :
    aw_m X (d + 6) y_AW_run [.ref 0, .int v1, .int v2, .int v3] (aw_s I L D) Q := by
  obtain ⟨B, T, O, hk, s1, s2, s3, sz⟩ := hS
  obtain ⟨hD, hpg, hsl, hbo⟩ := id hP
  have hR := rows_lt hk
  have hpg' : ∀ j, j < 4 → PG (pg j) := fun j hj => (hpg j hj).1
  -- the reference, where something is not told
  have mbad : ((v1 < 0 ∨ (4 : Int32) ≤ v1) ∨ (v2 < 0 ∨ (¬ v2 < 0 ∧ nI (2 ^ (B * (T + O))) ≤ v2)) ∨ (v3 < 1 ∨ (40 : Int32) < v3)) → Q (some (.int (-1))) (aw_s I L D) := fun hx => by
    refine hQ (-1) I L (fun Q2 hQ2 => aw_go rfl rfl (b_M_run_0 (c_M_areTold (d := d2 + 2) hsl hpg' (fun I' e32 hm f ht => ?_) (fun I' e32 hm f _ => b_M_run_6 (fun _ => hQ2 I' L (hP.told f.run e32 hm) (hG.fra f) f.2.2.1 f.run) (fun x => absurd rfl x) (fun x => absurd rfl x)))))
    have fin : Q2 (some (.int (-1))) (aw_s I' L D) := hQ2 I' L (hP.told f.run e32 hm) (hG.fra f) f.2.2.1 f.run
    obtain ⟨s, F, hs, e1, f0, f4, e3⟩ := ht
    have sz' : SZ I' B T O := ⟨by rw [f.2.1 33 (by decide) (by decide)]; exact sz.1, by rw [f.2.1 34 (by decide) (by decide)]; exact sz.2.1, by rw [f.2.1 35 (by decide) (by decide)]; exact sz.2.2⟩
    refine b_M_run_6 (fun x => absurd x (by decide)) (fun _ _ => fin) (fun _ x => c_M_rows hk sz' (b_M_run_18 (fun y => ?_) (fun _ => fin)))
    exfalso
    rcases hx with g | g | g
    · rw [e1] at g
      rcases g with g | g
      · exact absurd g (nI_pos (by omega))
      · rw [show (4 : Int32) = nI 4 from rfl, nI_leI (by decide) (by omega)] at g; omega
    · rcases g with g | ⟨-, g⟩
      · exact x g
      · exact absurd y (Int32.not_lt.mpr g)
    · rw [e3] at g
      rcases g with g | g
      · rw [show (1 : Int32) = nI 1 from rfl, nI_ltI (by omega) (by decide)] at g; omega
      · rw [show (40 : Int32) = nI 40 from rfl, nI_ltI (by decide) (by omega)] at g; omega
  rcases i32_4 v1 with h1 | ⟨k, hk4, rfl⟩
  · exact aw_go rfl rfl (b_AW_run_0 (c_AW_programAt0 h1 (b_AW_run_5a (mbad (Or.inl h1)))))
  refine aw_go rfl rfl (b_AW_run_0 (c_AW_programAt hk4 ?_))
  rcases i32_R (show 2 ^ (B * (T + O)) < 2 ^ 31 by omega) v2 with h2 | ⟨r, hr, rfl, n2, m2⟩
  · refine b_AW_run_5 (fun x => mbad (Or.inr (Or.inl h2))) (fun x => c_Sz_rows hk s1 s2 s3 (b_AW_run_24 (fun _ => mbad (Or.inr (Or.inl h2))) (fun y => ?_)))
    rcases h2 with g | ⟨-, g⟩
    · exact absurd g x
    · exact absurd g y
  refine b_AW_run_5 (fun x => absurd x n2) (fun x => c_Sz_rows hk s1 s2 s3 (b_AW_run_24 (fun y => absurd y m2) (fun y => ?_)))
  rcases i32_F v3 with h3 | ⟨F, f0, f4, rfl⟩
  · exact c_AW_isFuel0 h3 (b_AW_run_31 (fun x => absurd rfl x) (fun _ => mbad (Or.inr (Or.inr h3))))
  refine c_AW_isFuel f0 f4 (b_AW_run_31 (fun _ => ?_) (fun x => absurd x (by decide)))
  -- a run
  obtain ⟨pgk, cdk⟩ := hpg k hk4
  have hW := pgk.1
  have han := ansF_rg (T := T) (O := O) (row := nI r) (rule := -1) hk.2.1 (fun h => absurd (by decide) h)
  obtain ⟨N, E, hrun, hE⟩ := run_ex (F := F) hW hk.2.1 f0 han (nm := rowNm B T (nI r)) (cl := fun _ => 0) (fun k _ => rowNm_rg hk.2.1 k) (fun _ _ => rg_0 B)
  refine c_Mc_launch (d := d) hW (hD.1 k (by omega)) cdk.1 cdk.2.1 s1 s2 hk f0 f4 hr hrun (fun I1 L1 h => b_AW_run_47 (c_AW_keepRun (fun I2 g1 g2 g3 g4 => b_AW_run_52 ?_)))
  obtain ⟨e, sp, pc, stk, cs, nm, cl, sp0, bg, ds, ak, ys, tr⟩ := E
  obtain ⟨a1, a2, a3, a4, a5, a6, a7⟩ := h
  have hi : ∀ o, 69 ≤ o → I2 o = I o := fun o ho => funext fun x => by rw [g1 o x (by omega) (by omega), a1 o (by omega) (by omega) (by omega) (by omega) (by omega) (by omega)]
  rw [g1 4 15 (by decide) (by decide), a6]
  refine hQ e I2 L1 (fun Q2 hQ2 => ?_)
  have sl2 : MSl pg I2 := hsl.fr hpg' (by rw [hi 69 (by decide)]) (fun o x y => hi o (by omega))
  refine aw_go rfl rfl (b_M_run_0 (c_M_areTold (d := d2 + 2) sl2 hpg' (fun I3 e32 hm f ht => ?_) (fun I3 e32 hm f hx => ?_)))
  · have x69 : ∀ x, x ≠ 0 → x ≠ 32 → I3 69 x = I 69 x := fun x p q => by rw [f.2.1 x p q, hi 69 (by decide)]
    have sz' : SZ I3 B T O := ⟨by rw [x69 33 (by decide) (by decide)]; exact sz.1, by rw [x69 34 (by decide) (by decide)]; exact sz.2.1, by rw [x69 35 (by decide) (by decide)]; exact sz.2.2⟩
    have h48' : I3 69 48 = 0 := by rw [x69 48 (by decide) (by decide)]; exact h48
    refine b_M_run_6 (fun x => absurd x (by decide)) (fun _ x => absurd x n2) (fun _ _ => c_M_rows hk sz' (b_M_run_18 (fun _ => ?_) (fun x => absurd (Int32.not_le.mp m2) x)))
    refine c_M_runs (d := d2) (slot := k) (rule := -1) hW ⟨sz', hk, by omega, f4, fun h => absurd (by decide) h, Or.inl h48', (hm k hk4).2.2.2.2.1⟩ f0 (hm k hk4).2.1 hrun (fun I4 L4 h => b_M_run_31 ?_)
    obtain ⟨⟨b1, b2, b3, b4⟩, ⟨c1, c2, c3, c4, c5, c6, c7, c8, c9⟩, e42, e43⟩ := h
    rw [h48', if_neg (by decide)] at c8 c9
    refine l_M_keep (I0 := I4) (fun I5 k1 k2 => ?_) 8 0 I4 rfl (fun _ _ => rfl) (fun j h => absurd h (Nat.not_lt_zero j))
    generalize eI : aw_u (aw_u I5 114 16 (I4 69 43)) 69 85 1 = I6
    have u1 : ∀ o, o ≠ 69 → o ≠ 114 → I6 o = I4 o := fun o p q => by rw [← eI, au_o p, au_o q, k1 o q]
    have u2 : ∀ x, x ≠ 85 → I6 69 x = I4 69 x := fun x p => by rw [← eI, au_k p, au_o (by decide), k1 69 (by decide)]
    have u3 : ∀ j, j ≠ 16 → I6 114 j = I5 114 j := fun j p => by rw [← eI, au_o (by decide), au_k p]
    have lo : ∀ o, o < 69 → I6 o = I2 o := fun o p => by rw [u1 o (by omega) (by omega), b1 o (by omega) (by omega) (by omega) (by omega) (by omega) (by omega) (by omega), f.1 o (by omega) (by omega) (by omega)]
    have md : ∀ o, 71 ≤ o → o ≤ 78 → I6 o = I3 o := fun o p q => by rw [u1 o (by omega) (by omega), b1 o (by omega) (by omega) (by omega) (by omega) (by omega) (by omega) (by omega)]
    have i90 : I4 90 = I3 90 := c9
    have fr : FRun I I6 L L4 := by
      refine ⟨fun o p0 p4 p5 p6 p7 p8 p10 p68 p69 p71 p73 p84 p85 p86 p87 p88 p114 => ?_, fun x p => ?_, fun x p0 p25 p32 p42 p43 p44 p45 p85 => ?_, ?_, ?_, ?_, fun o p4 p9 p69 => ?_, fun x p q => ?_⟩
      · rw [u1 o p69 p114]
        have e34 : I4 o = I3 o := by
          by_cases q : o = 90
          · subst q; exact i90
          · exact b1 o p69 p84 p85 p86 p87 p88 q
        rw [e34, f.1 o p69 p71 p73]
        funext x
        rw [g1 o x p68 (by omega), a1 o p4 p5 p6 p7 p8 p10]
      · rw [lo 0 (by decide), g1 0 x (by decide) (by omega), a1 0 (by decide) (by decide) (by decide) (by decide) (by decide) (by decide)]
      · rw [u2 x p85, b2 x p25 p42 p43 p44 p45, x69 x p0 p32]
      · rw [lo 4 (by decide), g1 4 19 (by decide) (by decide), a2 19 (by decide) (by decide) (by decide) (by decide) (by decide) (by decide) (by decide) (by decide) (by decide) (by decide) (by decide)]
      · exact ((KSl.same (fun o p _ => hi o (by omega))).tr f.2.2.2.1).tr (KSl.same md)
      · exact ((KSl.same (fun o p _ => hi o (by omega))).tr f.2.2.2.2).tr (KSl.same md)
      · have e34 : L4 o = L1 o := by
          by_cases q : o = 89
          · subst q; exact c8
          · exact b3 o p69 q
        rw [e34, a3 o p4 p9]
      · rw [b4 x p q, a3 69 (by decide) (by decide)]
    refine hQ2 I6 L4 (hP.told fr (by rw [u2 32 (by decide), b2 32 (by decide) (by decide) (by decide) (by decide) (by decide)]; exact e32) (fun j hj => (hm j hj).ks (KSl.same md) (hpg' j hj).1.1 (hpg' j hj).2.1)) (Or.inr ⟨by rw [lo 0 (by decide)]; exact g2, by rw [← eI, au_s], fun j hj => ?_⟩) (by rw [u2 0 (by decide), b2 0 (by decide) (by decide) (by decide) (by decide) (by decide)]; exact f.2.2.1) fr
    rw [lo 68 (by decide)]
    rcases (show j < 8 ∨ (∃ i, i < 8 ∧ j = 8 + i) ∨ j = 16 by
      rcases Nat.lt_or_ge j 8 with p | p
      · exact Or.inl p
      · rcases Nat.lt_or_ge j 16 with q | q
        · exact Or.inr (Or.inl ⟨j - 8, by omega, by omega⟩)
        · exact Or.inr (Or.inr (by omega))) with p | ⟨i, p, rfl⟩ | rfl
    · rw [u3 j (by omega), (k2 j p).1, (g3 j p).1, c1 j p]; exact a5.1 j p
    · rw [u3 (8 + i) (by omega), (k2 i p).2, (g3 i p).2, c2 i p]; exact a5.2.1 i p
    · rw [g4, ← eI, au_o (by decide), au_s, e43]; exact a7
  · exfalso
    rcases hx with g | g
    · rcases g with g | g
      · exact absurd g (nI_pos (by omega))
      · rw [show (4 : Int32) = nI 4 from rfl, nI_leI (by decide) (by omega)] at g; omega
    · rcases g with g | g
      · rw [show (1 : Int32) = nI 1 from rfl, nI_ltI (by omega) (by decide)] at g; omega
      · rw [show (40 : Int32) = nI 40 from rfl, nI_ltI (by decide) (by omega)] at g; omega
end RUNS
