/-! PART 9c: alike of both -/
theorem out_inj {x y : Nat} (hx : x < 106) (h : 64 ≤ x → 101 ≤ x) (hy : y < 106) (h' : 64 ≤ y → 101 ≤ y) : (nI (if x < 64 then 100 + x else x - 100) = nI (if y < 64 then 100 + y else y - 100)) ↔ (nI x = nI y) := by
  have h1 : (nI (if x < 64 then 100 + x else x - 100) = nI (if y < 64 then 100 + y else y - 100)) ↔ ((if x < 64 then 100 + x else x - 100) = (if y < 64 then 100 + y else y - 100)) := nI_eq (by split <;> omega) (by split <;> omega)
  rw [h1, nI_eq (by omega) (by omega)]
  split <;> split <;> omega
theorem told_p {k : Nat} (hk : k < 4) : ¬ (nI k < 0 ∨ (4 : Int32) ≤ nI k) := fun g => by
  rcases g with g | g
  · exact absurd g (nI_pos (by omega))
  · rw [show (4 : Int32) = nI 4 from rfl, nI_leI (by decide) (by omega)] at g; omega
theorem told_f {F : Nat} (f0 : 0 < F) (f4 : F ≤ 40) : ¬ (nI F < 1 ∨ (40 : Int32) < nI F) := fun g => by
  rcases g with g | g
  · rw [show (1 : Int32) = nI 1 from rfl, nI_ltI (by omega) (by decide)] at g; omega
  · rw [show (40 : Int32) = nI 40 from rfl, nI_ltI (by decide) (by omega)] at g; omega
section ALIKE
variable {X : aw_X} {d d2 : Nat} {Q : Option Value → aw_H → Prop} {I : Nat → Nat → Int32} {L : Nat → Nat → Int64} {D : Nat → Nat} {S S' : PT} {c c' s s' B T O F r : Nat} {v1 v2 v3 : Int32}
theorem l_AW_alike {E G : Nat → PE} {res : Int32} (f0 : 0 < F) (f4 : F ≤ 40) (hE : ∀ r, RT1 S B T O F r (-1) (E r)) (hG : ∀ r, RT1 S' B T O F r (-1) (G r)) {I0 : Nat → Nat → Int32} {L0 : Nat → Nat → Int64} (hQ : ∀ I' L', KFr I0 I' L0 L' → Q (some (.int res)) (aw_s I' L' D)) :
    ∀ (m k : Nat) (I : Nat → Nat → Int32) (L : Nat → Nat → Int64), k + m = 2 ^ (B * (T + O)) → KIn S c B T O I L → KIn S' c' B T O I L → KFr I0 I L0 L → fstR (fun r => decide (¬ p_out (E r) = p_out (G r))) m k = res →
      aw_z X (d + 7) y_AW_alike Q 37 [some (.ref 0), none, none, some (.int (nI F)), some (.ref c), some (.ref c'), some (.int (nI k))] [] (aw_s I L D) := by
  intro m
  induction m with
  | zero =>
    intro k I L e h h' f hr
    have hR := rows_lt h.2.2.2.1
    refine b_AW_alike_37 (c_Sz_rows h.2.2.2.1 h.2.2.2.2.1 h.2.2.2.2.2.1 h.2.2.2.2.2.2 (b_AW_alike_46 (fun _ => ?_) (fun q => absurd ?_ q)))
    · rw [show (-1 : Int32) = res from hr]; exact hQ I L f
    · rw [nI_leI (by omega) (by omega)]; omega
  | succ m ih =>
    intro k I L e h h' f hr
    have hR := rows_lt h.2.2.2.1
    refine b_AW_alike_37 (c_Sz_rows h.2.2.2.1 h.2.2.2.2.1 h.2.2.2.2.2.1 h.2.2.2.2.2.2 (b_AW_alike_46 (fun q => ?_) (fun _ => k_outcome h f0 f4 (by omega) (hE k) (fun I1 L1 f1 => b_AW_alike_61 (k_outcome (h'.fr f1) f0 f4 (by omega) (hG k) (fun I2 L2 f2 => b_AW_alike_73 (fun q => ?_) (fun q => ?_)))))))
    · rw [nI_leI (by omega) (by omega)] at q; omega
    · rw [nI_1]
      refine ih (k + 1) I2 L2 (by omega) (h.fr (f1.tr f2)) (h'.fr (f1.tr f2)) (f.tr (f1.tr f2)) ?_
      rw [fstR, decide_eq_false (fun x => x q)] at hr; exact hr
    · rw [fstR, decide_eq_true q, if_pos rfl] at hr
      rw [hr]; exact hQ I2 L2 (f.tr (f1.tr f2))
theorem l_M_alike {E G : Nat → PE} {res : Int32} (f0 : 0 < F) (f4 : F ≤ 40) (hE : ∀ r, RT1 S B T O F r (-1) (E r)) (hG : ∀ r, RT1 S' B T O F r (-1) (G r)) {I0 : Nat → Nat → Int32} {L0 : Nat → Nat → Int64} (hQ : ∀ I' L', MFr I0 I' L0 L' → Q (some (.int res)) (aw_s I' L' D)) :
    ∀ (m k : Nat) (I : Nat → Nat → Int32) (L : Nat → Nat → Int64), k + m = 2 ^ (B * (T + O)) → MIn S s B T O I → MIn S' s' B T O I → MFr I0 I L0 L → fstR (fun r => decide (¬ p_outM (E r) = p_outM (G r))) m k = res →
      aw_z X (d + 5) y_M_alike Q 22 [some (.ref 69), some (.int (nI s)), some (.int (nI s')), some (.int (nI F)), some (.int (nI k))] [] (aw_s I L D) := by
  intro m
  induction m with
  | zero =>
    intro k I L e h h' f hr
    have hR := rows_lt h.2.2.2.1
    refine b_M_alike_22 (c_M_rows h.2.2.2.1 h.2.2.2.2.1 (b_M_alike_28 (fun _ => ?_) (fun q => absurd ?_ q)))
    · rw [show (-1 : Int32) = res from hr]; exact hQ I L f
    · rw [nI_leI (by omega) (by omega)]; omega
  | succ m ih =>
    intro k I L e h h' f hr
    have hR := rows_lt h.2.2.2.1
    refine b_M_alike_22 (c_M_rows h.2.2.2.1 h.2.2.2.2.1 (b_M_alike_28 (fun q => ?_) (fun _ => m_outcome h f0 f4 (hE k) (fun I1 L1 f1 => b_M_alike_39 (m_outcome (h'.fr f1) f0 f4 (hG k) (fun I2 L2 f2 => b_M_alike_47 (fun q => ?_) (fun q => ?_)))))))
    · rw [nI_leI (by omega) (by omega)] at q; omega
    · rw [nI_1]
      refine ih (k + 1) I2 L2 (by omega) (h.fr (f1.tr f2)) (h'.fr (f1.tr f2)) (f.tr (f1.tr f2)) ?_
      rw [fstR, decide_eq_false (fun x => x q)] at hr; exact hr
    · rw [fstR, decide_eq_true q, if_pos rfl] at hr
      rw [hr]; exact hQ I2 L2 (f.tr (f1.tr f2))
theorem q_alike {pg : Nat → PT} (hP : RP pg I L D) (hS : RSz I) (h48 : I 69 48 = 0) (hQ : ∀ r I1 L1,
      (∀ (Q2 : Option Value → aw_H → Prop), (∀ I2 L2, RP pg I2 L2 D → I2 69 0 = 0 → FRn I I2 L L2 → Q2 (some (.int r)) (aw_s I2 L2 D)) → aw_m X (d2 + 5) y_M_alike [.ref 69, .int v1, .int v2, .int v3] (aw_s I1 L1 D) Q2) → Q (some (.int r)) (aw_s I1 L1 D)) :
    aw_m X (d + 7) y_AW_alike [.ref 0, .int v1, .int v2, .int v3] (aw_s I L D) Q := by
  obtain ⟨B, T, O, hk, s1, s2, s3, sz⟩ := hS
  obtain ⟨hD, hpg, hsl, hbo⟩ := id hP
  have hR := rows_lt hk
  have hpg' : ∀ j, j < 4 → PG (pg j) := fun j hj => (hpg j hj).1
  have mbad : ((v1 < 0 ∨ (4 : Int32) ≤ v1) ∨ (v2 < 0 ∨ (4 : Int32) ≤ v2) ∨ (v3 < 1 ∨ (40 : Int32) < v3)) → Q (some (.int (-2))) (aw_s I L D) := fun hx => by
    refine hQ (-2) I L (fun Q2 hQ2 => aw_go rfl rfl (b_M_alike_0 (c_M_areTold (d := d2 + 3) hsl hpg' (fun I' e32 hm f ht => ?_) (fun I' e32 hm f _ => ?_))))
    · have fr : FRn I I' L L := FRn.mk1 KFr.rf f MFr.rf
      have fin : Q2 (some (.int (-2))) (aw_s I' L D) := hQ2 I' L (hP.told fr.run e32 hm) f.2.2.1 fr
      obtain ⟨s, F, hs, e1, f0, f4, e3⟩ := ht
      refine b_M_alike_6 (fun x => absurd x (by decide)) (fun _ => c_M_isProgram0 ?_ (b_M_alike_13 (fun x => absurd rfl x) (fun _ => fin)))
      rcases hx with g | g | g
      · exact g
      · rw [e1] at g; exact absurd g (told_p hs)
      · rw [e3] at g; exact absurd g (told_f f0 f4)
    · have fr : FRn I I' L L := FRn.mk1 KFr.rf f MFr.rf
      exact b_M_alike_6 (fun _ => hQ2 I' L (hP.told fr.run e32 hm) f.2.2.1 fr) (fun x => absurd rfl x)
  rcases i32_4 v1 with h1 | ⟨j, hj4, rfl⟩
  · refine aw_go rfl rfl (b_AW_alike_0 (c_AW_programAt0 h1 (b_AW_alike_5a ?_)))
    rcases i32_4 v2 with h2 | ⟨k, hk4, rfl⟩
    · exact c_AW_programAt0 h2 (b_AW_alike_12c (mbad (Or.inl h1)))
    · exact c_AW_programAt hk4 (b_AW_alike_12b (mbad (Or.inl h1)))
  refine aw_go rfl rfl (b_AW_alike_0 (c_AW_programAt hj4 (b_AW_alike_5 ?_)))
  rcases i32_4 v2 with h2 | ⟨k, hk4, rfl⟩
  · exact c_AW_programAt0 h2 (b_AW_alike_12a (mbad (Or.inr (Or.inl h2))))
  refine c_AW_programAt hk4 (b_AW_alike_12 ?_)
  rcases i32_F v3 with h3 | ⟨F, f0, f4, rfl⟩
  · exact c_AW_isFuel0 h3 (b_AW_alike_28 (fun x => absurd rfl x) (fun _ => mbad (Or.inr (Or.inr h3))))
  refine c_AW_isFuel f0 f4 (b_AW_alike_28 (fun _ => ?_) (fun x => absurd x (by decide)))
  obtain ⟨E, hE⟩ := runs_ex (F := F) (T := T) (O := O) (rule := -1) (hpg' j hj4) hk f0 (fun h => absurd (by decide) h)
  obtain ⟨G, hG⟩ := runs_ex (F := F) (T := T) (O := O) (rule := -1) (hpg' k hk4) hk f0 (fun h => absurd (by decide) h)
  have kin : ∀ i, i < 4 → KIn (pg i) (D i) B T O I L := fun i hi => ⟨hpg' i hi, hD.1 i (by omega), (hpg i hi).2, hk, s1, s2, s3⟩
  refine l_AW_alike (d := d) (S := pg j) (S' := pg k) (E := E) (G := G) (res := fstR (fun r => decide (¬ p_out (E r) = p_out (G r))) (2 ^ (B * (T + O))) 0) f0 f4 (fun r => (hE r).1) (fun r => (hG r).1) (I0 := I) (L0 := L) (fun I1 L1 fk => hQ _ I1 L1 (fun Q2 hQ2 => ?_)) (2 ^ (B * (T + O))) 0 I L (by omega) (kin j hj4) (kin k hk4) KFr.rf rfl
  have hi : ∀ o, 11 ≤ o → I1 o = I o := fun o h => fk.1 o (by omega) (by omega) (by omega) (by omega) (by omega) (by omega)
  have sl1 : MSl pg I1 := hsl.fr hpg' (by rw [hi 69 (by decide)]) (fun o x y => hi o (by omega))
  refine aw_go rfl rfl (b_M_alike_0 (c_M_areTold (d := d2 + 3) sl1 hpg' (fun I2 e32 hm f ht => ?_) (fun I2 e32 hm f hx => ?_)))
  · have x69 : ∀ x, x ≠ 0 → x ≠ 32 → I2 69 x = I 69 x := fun x p q => by rw [f.2.1 x p q, hi 69 (by decide)]
    have sz' : SZ I2 B T O := ⟨by rw [x69 33 (by decide) (by decide)]; exact sz.1, by rw [x69 34 (by decide) (by decide)]; exact sz.2.1, by rw [x69 35 (by decide) (by decide)]; exact sz.2.2⟩
    have min' : ∀ i, i < 4 → MIn (pg i) i B T O I2 := fun i hi => ⟨hpg' i hi, by omega, hm i hi, hk, sz', by rw [x69 48 (by decide) (by decide)]; exact h48⟩
    refine b_M_alike_6 (fun x => absurd x (by decide)) (fun _ => c_M_isProgram hj4 (b_M_alike_13 (fun _ => ?_) (fun x => absurd x (by decide))))
    refine l_M_alike (d := d2) (S := pg j) (S' := pg k) (E := E) (G := G) (res := fstR (fun r => decide (¬ p_out (E r) = p_out (G r))) (2 ^ (B * (T + O))) 0) f0 f4 (fun r => (hE r).1) (fun r => (hG r).1) (I0 := I2) (L0 := L1) (fun I3 L3 fm => ?_) (2 ^ (B * (T + O))) 0 I2 L1 (by omega) (min' j hj4) (min' k hk4) MFr.rf (fstR_c _ _ (fun r _ => ?_))
    · have fr := FRn.mk1 fk f fm
      have md : ∀ o, 71 ≤ o → o ≤ 78 → I3 o = I2 o := fun o p q => fm.1 o (by omega) (by omega) (by omega) (by omega) (by omega) (by omega)
      exact hQ2 I3 L3 (hP.told fr.run (by rw [fm.2.1 32 (by decide) (by decide) (by decide) (by decide) (by decide)]; exact e32) (fun j hj => (hm j hj).ks (KSl.same md) (hpg' j hj).1.1 (hpg' j hj).2.1)) (by rw [fm.2.1 0 (by decide) (by decide) (by decide) (by decide) (by decide)]; exact f.2.2.1) fr
    · obtain ⟨x, hx, e1, e2, h64⟩ := out_val hk.2.1 (hE r).2
      obtain ⟨y, hy, e3, e4, h65⟩ := out_val hk.2.1 (hG r).2
      show decide (¬ p_outM (E r) = p_outM (G r)) = decide (¬ p_out (E r) = p_out (G r))
      rw [e1, e2, e3, e4]
      exact decide_eq_decide.mpr (not_congr (out_inj hx h64 hy h65))
  · exact absurd hx (fun g => g.elim (told_p hk4) (told_f f0 f4))
end ALIKE
