/-! PART 9n: mend of both -/
section MEND6
variable {X : aw_X} {d d2 : Nat} {Q : Option Value → aw_H → Prop} {I : Nat → Nat → Int32} {L : Nat → Nat → Int64} {D : Nat → Nat} {v1 v2 : Int32}
theorem q_mend {pg : Nat → PT} (hP : RP pg I L D) (hS : RSz I) (h48 : I 69 48 = 0) (hQ : ∀ r I1 L1,
      (∀ (Q2 : Option Value → aw_H → Prop), (∀ I2 L2 u, RP pg I2 L2 D → I2 69 0 = 0 → FRx u I I2 L L2 → Q2 (some (.int r)) (aw_s I2 L2 D)) → aw_m X (d2 + 5) y_M_mend [.ref 69, .int v1, .int v2] (aw_s I1 L1 D) Q2) → Q (some (.int r)) (aw_s I1 L1 D)) :
    aw_m X (d + 7) y_AW_mend [.ref 0, .int v1, .int v2] (aw_s I L D) Q := by
  obtain ⟨B, T, O, hk, s1, s2, s3, sz⟩ := hS
  obtain ⟨hD, hpg, hsl, hbo⟩ := id hP
  have hpg' : ∀ j, j < 4 → PG (pg j) := fun j hj => (hpg j hj).1
  have h12 := hk.2.2.2.2.2
  have frx : ∀ I', FRA I I' → FRx none I I' L L := fun I' f => ⟨fun o h0 _ _ _ _ _ _ h69 h71 _ _ _ _ _ => f.1 o h69 (by omega) (by omega), fun k _ => by rw [f.1 0 (by decide) (by decide) (by decide)], by show I' 0 15 = I 0 15; rw [f.1 0 (by decide) (by decide) (by decide)], by show I' 69 73 = I 69 73; exact f.2.1 73 (by decide) (by decide), fun k h0 _ h32 _ _ _ _ _ => f.2.1 k h0 h32, by rw [f.1 4 (by decide) (by decide) (by decide)], f.2.2.2.1, f.2.2.2.2, fun _ _ _ _ => rfl, fun _ _ _ => rfl⟩
  have mbad : ((v1 < 0 ∨ (4 : Int32) ≤ v1) ∨ (v2 < 1 ∨ (40 : Int32) < v2) ∨ ¬ B * (T + O) ≤ 8) → Q (some (.int (-2))) (aw_s I L D) := fun hx => by
    refine hQ (-2) I L (fun Q2 hQ2 => aw_go rfl rfl (b_M_mend_0 (c_M_areTold (d := d2 + 3) hsl hpg' (fun I' e32 hm f ht => ?_) (fun I' e32 hm f _ => ?_))))
    · have fr : FRn I I' L L := FRn.mk1 KFr.rf f MFr.rf
      have fin : Q2 (some (.int (-2))) (aw_s I' L D) := hQ2 I' L none (hP.told fr.run e32 hm) f.2.2.1 (frx I' f)
      obtain ⟨s, F, hs, e1, f0, f4, e3⟩ := ht
      have x69 : ∀ x, x ≠ 0 → x ≠ 32 → I' 69 x = I 69 x := f.2.1
      refine b_M_mend_6 (fun x => absurd x (by decide)) (fun _ => aw_go rfl rfl (b_M_isSmall_0 (fun _ => b_M_mend_13 (fun x => absurd rfl x) (fun _ => fin)) (fun q => ?_)))
      exfalso
      rw [x69 33 (by decide) (by decide), x69 34 (by decide) (by decide), x69 35 (by decide) (by decide), sz.1, sz.2.1, sz.2.2, nI_add, pk_mul, show (8 : Int32) = nI 8 from rfl, nI_ltI (by decide) (by omega)] at q
      rcases hx with g | g | g
      · rw [e1] at g; exact absurd g (told_p hs)
      · rw [e3] at g; exact absurd g (told_f f0 f4)
      · omega
    · have fr : FRn I I' L L := FRn.mk1 KFr.rf f MFr.rf
      exact b_M_mend_6 (fun _ => hQ2 I' L none (hP.told fr.run e32 hm) f.2.2.1 (frx I' f)) (fun x => absurd rfl x)
  rcases i32_4 v1 with h1 | ⟨k, hk4, rfl⟩
  · exact aw_go rfl rfl (b_AW_mend_0 (c_AW_programAt0 h1 (b_AW_mend_5a (mbad (Or.inl h1)))))
  refine aw_go rfl rfl (b_AW_mend_0 (c_AW_programAt hk4 (b_AW_mend_5 ?_)))
  rcases i32_F v2 with h3 | ⟨F, f0, f4, rfl⟩
  · exact c_AW_isFuel0 h3 (b_AW_mend_14 (fun _ => mbad (Or.inr (Or.inl h3))) (fun x => absurd rfl x))
  refine c_AW_isFuel f0 f4 (b_AW_mend_14 (fun x => absurd x (by decide)) (fun _ => aw_go rfl rfl (b_Sz_rowBits_0 ?_)))
  have eb : I 1 0 * (I 1 1 + I 1 2) = nI (B * (T + O)) := by rw [s1, s2, s3, nI_add, pk_mul]
  have e8 : (nI (B * (T + O)) ≤ (8 : Int32)) = (B * (T + O) ≤ 8) := nI_le' (b := 8) (by omega) (by decide)
  rw [eb]
  obtain ⟨E0, hE0⟩ := runs_ex (F := F) (T := T) (O := O) (rule := -1) (hpg' k hk4) hk f0 (fun h => absurd (by decide) h)
  have hex : ∀ x : Nat × Nat, ∃ E : Nat → PE, x.1 < min (cM (pg k)) 20 → ∀ r, RT1 (setN (cA (pg k) x.1) (nI x.2) (pg k)) B T O F r (-1) (E r) ∧ p_end B F (E r) := fun x => by
    by_cases g : x.1 < min (cM (pg k)) 20
    · obtain ⟨n1, n2⟩ := (hpg' k hk4).2.2.1 x.1 (by omega)
      obtain ⟨E, hE⟩ := runs_ex (F := F) (T := T) (O := O) (rule := -1) (PG_set (v := nI x.2) (hpg' k hk4) n1 n2) hk f0 (fun h => absurd (by decide) h)
      exact ⟨E, fun _ => hE⟩
    · exact ⟨E0, fun z => absurd z g⟩
  obtain ⟨G, hG⟩ := Classical.axiomOfChoice hex
  have hE : ∀ j, j < min (cM (pg k)) 20 → ∀ u, u < 2 ^ B → ∀ r, RT1 (setN (cA (pg k) j) (nI u) (pg k)) B T O F r (-1) (G (j, u) r) ∧ p_end B F (G (j, u) r) := fun j hj u _ => hG (j, u) hj
  have kin : KIn (pg k) (D k) B T O I L := ⟨hpg' k hk4, hD.1 k (by omega), (hpg k hk4).2, hk, s1, s2, s3⟩
  refine b_AW_mend_24 (fun q8 => ?_) (fun q8 => mbad (Or.inr (Or.inr (by rw [e8] at q8; exact q8))))
  rw [e8] at q8
  -- what follows on both sides
  have go : ∀ (out : Int32) (u : Option Int32) (I1 : Nat → Nat → Int32) (L1 : Nat → Nat → Int64), (((∀ r, r < 2 ^ (B * (T + O)) → ¬ harm (E0 r).1) ∧ out = -1 ∧ u = none) ∨ ((¬ ∀ r, r < 2 ^ (B * (T + O)) → ¬ harm (E0 r).1) ∧ isMd (fun j u => ∀ r, r < 2 ^ (B * (T + O)) → ¬ harm (G (j, u) r).1) (min (cM (pg k)) 20) (2 ^ B) out u)) → KFr (u15 u I) I1 L L1 → Q (some (.int out)) (aw_s I1 L1 D) := by
    intro out u I1 L1 hout fk
    have ui : ∀ o, o ≠ 0 → u15 u I o = I o := fun o h => by
      cases u with
      | none => rfl
      | some w => exact au_o h
    have hi : ∀ o, o ≠ 0 → o ≠ 4 → o ≠ 5 → o ≠ 6 → o ≠ 7 → o ≠ 8 → o ≠ 10 → I1 o = I o := fun o h0 h4 h5 h6 h7 h8 h10 => (fk.1 o h4 h5 h6 h7 h8 h10).trans (ui o h0)
    have hj : ∀ o, 11 ≤ o → I1 o = I o := fun o h => hi o (by omega) (by omega) (by omega) (by omega) (by omega) (by omega) (by omega)
    refine hQ out I1 L1 (fun Q2 hQ2 => ?_)
    have sl1 : MSl pg I1 := hsl.fr hpg' (by rw [hj 69 (by decide)]) (fun o x y => hj o (by omega))
    have i69 := hj 69 (by decide)
    refine m_mend (d := d2) (E0 := E0) (E := fun j u => G (j, u)) hk4 f0 f4 hpg' hk q8 ⟨by rw [i69]; exact sz.1, by rw [i69]; exact sz.2.1, by rw [i69]; exact sz.2.2⟩ (by rw [i69]; exact h48) sl1 (fun j hj' => by rw [hj 77 (by decide)]; exact hbo j hj') hE0 hE hout (fun I2 L2 e32 z0 hm b2 fo f69 f73 k4 k6 fl fl69 => ?_)
    refine hQ2 I2 L2 u ⟨hD, fun j hj4 => ?_, Or.inl ⟨e32, hm⟩, b2⟩ z0 ⟨fun o h0 h4 h5 h6 h7 h8 h10 h69 h71 h84 h85 h86 h87 h88 => by rw [fo o h69 h71 h84 h85 h86 h87 h88, hi o h0 h4 h5 h6 h7 h8 h10], fun x hx => ?_, ?_, by rw [f73, i69], fun x h0 h25 h32 h42 h43 h44 h45 h73 => by rw [f69 x h0 h25 h32 h42 h43 h44 h45 h73, i69], ?_, (KSl.same (fun o p _ => hj o (by omega))).tr k4, (KSl.same (fun o p _ => hj o (by omega))).tr k6, fun o h4 h9 h69 => by rw [fl o h69, fk.2.2 o h4 h9], fun x p q => by rw [fl69 x p q, fk.2.2 69 (by decide) (by decide)]⟩
    · obtain ⟨b1, b2⟩ := codes_bd (hD.1 j (by omega))
      exact ⟨hpg' j hj4, (hpg j hj4).2.fr (fun o x y => by rw [fo o (by omega) (by omega) (by omega) (by omega) (by omega) (by omega) (by omega), hj o (by omega)]) (by rw [fl _ (by omega), fk.2.2 _ (by omega) (by omega)])⟩
    · rw [fo 0 (by decide) (by decide) (by decide) (by decide) (by decide) (by decide) (by decide), fk.1 0 (by decide) (by decide) (by decide) (by decide) (by decide) (by decide)]
      cases u with
      | none => rfl
      | some w => exact au_k hx
    · rw [fo 0 (by decide) (by decide) (by decide) (by decide) (by decide) (by decide) (by decide), fk.1 0 (by decide) (by decide) (by decide) (by decide) (by decide) (by decide)]
      cases u with
      | none => rfl
      | some w => exact au_s _ _ _ _
    · rw [fo 4 (by decide) (by decide) (by decide) (by decide) (by decide) (by decide) (by decide), fk.2.1, ui 4 (by decide)]
  refine c_AW_harmedRow (d := d + 1) (lk := 0) kin f0 f4 (Or.inl ⟨rfl, rfl⟩) (Nat.two_pow_pos _) (fun r => (hE0 r).1) (fun hn I1 L1 f1 => b_AW_mend_40 (fun q => absurd rfl q) (fun _ => go (-1) none I1 L1 (Or.inl ⟨hn, rfl, rfl⟩) f1)) (fun r hr hh I1 L1 f1 => b_AW_mend_40 (fun _ => ?_) (fun q => absurd q (nI_ne1 (by have := rows_lt hk; omega))))
  refine l_AW_mend (d := d) (S := pg k) (E := fun j u => G (j, u)) f0 f4 (fun j hj u hu r => (hE j hj u hu r).1) (I0 := I1) (L0 := L1) hr (fun out u hmd I3 L3 f3 => go out u I3 L3 (Or.inr ⟨fun z => z r hr hh, hmd⟩) ?_) (min (cM (pg k)) 20) 0 I1 L1 (by omega) (kin.fr f1) KFr.rf (fun i x => absurd x (Nat.not_lt_zero i))
  cases u with
  | none => exact f1.tr f3
  | some w => exact (KFr.u15 f1).tr f3
end MEND6
