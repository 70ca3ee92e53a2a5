/-! PART 9g: safe of the reference, of both -/
section SAFE2
variable {X : aw_X} {d d2 : Nat} {Q : Option Value → aw_H → Prop} {I : Nat → Nat → Int32} {L : Nat → Nat → Int64} {D : Nat → Nat} {S : PT} {c s B T O F r : Nat} {v v1 v2 v3 rule : Int32}
theorem l_M_safe1 {E : Nat → PE} {x : Nat} {w4 : Int32} {w5 : Nat} (f0 : 0 < F) (f4 : F ≤ 40) (hx : x < 2 ^ (B * T)) (hE : ∀ r, RT1 S B T O F r (-1) (E r) ∧ p_end B F (E r)) {I0 : Nat → Nat → Int32} {L0 : Nat → Nat → Int64}
    (hQ1 : (∀ a, a < 2 ^ (B * O) → ¬ harm (E (x + a * 2 ^ (B * T))).1) → ∀ I' L', MFr I0 I' L0 L' → MIn S s B T O I' → aw_z X (d + 4) y_M_safe Q 90 [some (.ref 69), some (.int (nI s)), some (.int (nI F)), some (.int (nI (2 ^ (B * T)))), some (.int w4), some (.int (nI w5)), some (.int (nI x)), some (.int 1), none] [] (aw_s I' L' D)) (hQ0 : ¬ (∀ a, a < 2 ^ (B * O) → ¬ harm (E (x + a * 2 ^ (B * T))).1) → ∀ I' L', MFr I0 I' L0 L' → MIn S s B T O I' → aw_z X (d + 4) y_M_safe Q 90 [some (.ref 69), some (.int (nI s)), some (.int (nI F)), some (.int (nI (2 ^ (B * T)))), some (.int w4), some (.int (nI w5)), some (.int (nI x)), some (.int 0), none] [] (aw_s I' L' D)) :
    ∀ (n a : Nat) (I : Nat → Nat → Int32) (L : Nat → Nat → Int64), a + n = 2 ^ (B * O) → MIn S s B T O I → MFr I0 I L0 L → (∀ b, b < a → ¬ harm (E (x + b * 2 ^ (B * T))).1) →
      aw_z X (d + 4) y_M_safe Q 45 [some (.ref 69), some (.int (nI s)), some (.int (nI F)), some (.int (nI (2 ^ (B * T)))), some (.int w4), some (.int (nI w5)), some (.int (nI x)), some (.int 1), some (.int (nI (x + a * 2 ^ (B * T))))] [] (aw_s I L D) := by
  intro n
  induction n with
  | zero =>
    intro a I L e h f hb
    have hk := h.2.2.2.1
    have hR := rows_lt hk
    have rm := rows_mul (B := B) (T := T) (O := O)
    have ea : a = 2 ^ (B * O) := by omega
    subst ea
    have lt12 : 2 ^ (B * T) ≤ 2 ^ 12 := Nat.pow_le_pow_right (by decide) (lets_le hk).2
    refine b_M_safe_45 (c_M_rows hk h.2.2.2.2.1 (b_M_safe_51 (fun _ => hQ1 hb I L f h) (fun q => absurd ?_ q) (fun q => absurd ?_ q)))
    · rw [← rm, nI_leI (by omega) (by omega)]; omega
    · rw [← rm, nI_leI (by omega) (by omega)]; omega
  | succ n ih =>
    intro a I L e h f hb
    have hk := h.2.2.2.1
    have hR := rows_lt hk
    have rm := rows_mul (B := B) (T := T) (O := O)
    have lt12 : 2 ^ (B * T) ≤ 2 ^ 12 := Nat.pow_le_pow_right (by decide) (lets_le hk).2
    have hr : x + a * 2 ^ (B * T) < 2 ^ (B * (T + O)) := by rw [rm]; exact row_lt (by omega) hx
    have nx : nI (x + a * 2 ^ (B * T)) + nI (2 ^ (B * T)) = nI (x + (a + 1) * 2 ^ (B * T)) := by
      rw [nI_add, Nat.add_mul, Nat.one_mul, Nat.add_assoc]
    refine b_M_safe_45 (c_M_rows hk h.2.2.2.2.1 (b_M_safe_51 (fun q => ?_) (fun _ q => absurd q (by decide)) (fun _ _ => m_runs (rule := -1) h f0 f4 (fun z => absurd (by decide) z) (hE _).1 (fun I1 L1 f1 _ => b_M_safe_68 (c_M_isHarm (hE _).2 (fun g => b_M_safe_71 (fun _ => ?_) (fun q => absurd q (by decide))) (fun g => b_M_safe_71 (fun q => absurd rfl q) (fun _ => ?_)))))))
    · rw [nI_leI (by omega) (by omega)] at q; omega
    · have h1 := h.fr f1
      have no : ¬ ∀ a, a < 2 ^ (B * O) → ¬ harm (E (x + a * 2 ^ (B * T))).1 := fun z => z a (by omega) g
      exact b_M_safe_45 (c_M_rows hk h1.2.2.2.2.1 (b_M_safe_51 (fun _ => hQ0 no I1 L1 (f.tr f1) h1) (fun _ _ => hQ0 no I1 L1 (f.tr f1) h1) (fun _ q => absurd rfl q)))
    · rw [nx]
      refine ih (a + 1) I1 L1 (by omega) (h.fr f1) (f.tr f1) (fun b hb' => ?_)
      by_cases q : b = a
      · subst q; exact g
      · exact hb b (by omega)
theorem l_M_safe {E : Nat → PE} {g : Nat → Bool} (f0 : 0 < F) (f4 : F ≤ 40) (hE : ∀ r, RT1 S B T O F r (-1) (E r) ∧ p_end B F (E r)) (hg : ∀ x, g x = true ↔ ∀ a, a < 2 ^ (B * O) → ¬ harm (E (x + a * 2 ^ (B * T))).1) {I0 : Nat → Nat → Int32} {L0 : Nat → Nat → Int64}
    (hQ : ∀ I' L', MFr I0 I' L0 L' → Q (some (.int (nI (sfc g (2 ^ (B * T))).1))) (aw_s (aw_u I' 69 72 (sfc g (2 ^ (B * T))).2) L' D)) :
    ∀ (n x : Nat) (I : Nat → Nat → Int32) (L : Nat → Nat → Int64), x + n = 2 ^ (B * T) → MIn S s B T O I → MFr I0 I L0 L →
      aw_z X (d + 4) y_M_safe Q 32 [some (.ref 69), some (.int (nI s)), some (.int (nI F)), some (.int (nI (2 ^ (B * T)))), some (.int (sfc g x).2), some (.int (nI (sfc g x).1)), some (.int (nI x)), none, none] [] (aw_s I L D) := by
  intro n
  induction n with
  | zero =>
    intro x I L e h f
    have hk := h.2.2.2.1
    have lt12 : 2 ^ (B * T) ≤ 2 ^ 12 := Nat.pow_le_pow_right (by decide) (lets_le hk).2
    have ex : x = 2 ^ (B * T) := by omega
    refine b_M_safe_32 (fun _ => ?_) (fun q => absurd ?_ q)
    · rw [ex]; exact hQ I L f
    · rw [nI_leI (by omega) (by omega)]; omega
  | succ n ih =>
    intro x I L e h f
    have hk := h.2.2.2.1
    have lt12 : 2 ^ (B * T) ≤ 2 ^ 12 := Nat.pow_le_pow_right (by decide) (lets_le hk).2
    have z0 : x + 0 * 2 ^ (B * T) = x := by rw [Nat.zero_mul]; rfl
    have l1 := l_M_safe1 (X := X) (d := d) (Q := Q) (D := D) (s := s) (S := S) (E := E) (x := x) (w4 := (sfc g x).2) (w5 := (sfc g x).1) (I0 := I) (L0 := L) f0 f4 (by omega) hE (fun hs I1 L1 f1 h1 => by
      have gx : g x = true := (hg x).mpr hs
      have es : sfc g (x + 1) = ((sfc g x).1 + 1, (sfc g x).2) := by rw [sfc, if_pos gx]
      have t := ih (x + 1) I1 L1 (by omega) h1 (f.tr f1)
      rw [es] at t
      refine b_M_safe_90 (fun z => absurd z (by decide)) (fun z => absurd z (by decide)) (fun _ => ?_)
      rw [nI_1, nI_1]; exact t) (fun hs I1 L1 f1 h1 => by
      have gx : ¬ g x = true := fun z => hs ((hg x).mp z)
      have t := ih (x + 1) I1 L1 (by omega) h1 (f.tr f1)
      refine b_M_safe_90 (fun _ hu => ?_) (fun _ hu => ?_) (fun z => absurd rfl z)
      · have es : sfc g (x + 1) = ((sfc g x).1, (sfc g x).2) := by rw [sfc, if_neg gx, if_neg hu]
        rw [es] at t
        rw [nI_1]; exact t
      · have es : sfc g (x + 1) = ((sfc g x).1, nI x) := by rw [sfc, if_neg gx, if_pos hu]
        rw [es] at t
        rw [nI_1]; exact t) (2 ^ (B * O)) 0 I L (Nat.zero_add _) h MFr.rf (fun b z => absurd z (Nat.not_lt_zero b))
    rw [z0] at l1
    refine b_M_safe_32 (fun q => ?_) (fun _ => l1)
    rw [nI_leI (by omega) (by omega)] at q; omega
theorem FRn.u69 {I I' : Nat → Nat → Int32} {L L' : Nat → Nat → Int64} {u : Int32} (h : FRn I I' L L') : FRn (aw_u I 69 72 u) (aw_u I' 69 72 u) L L' := by
  obtain ⟨a, b, c, e, f, g, k⟩ := h
  refine ⟨fun o p4 p5 p6 p7 p8 p10 p69 p71 p73 p84 p85 p86 p87 p88 => by rw [au_o p69, au_o p69]; exact a o p4 p5 p6 p7 p8 p10 p69 p71 p73 p84 p85 p86 p87 p88, fun x p0 p25 p32 p42 p43 p44 p45 => ?_, by rw [au_o (by decide), au_o (by decide)]; exact c, ?_, ?_, g, k⟩
  · by_cases q : x = 72
    · subst q; rw [au_s, au_s]
    · rw [au_k q, au_k q]; exact b x p0 p25 p32 p42 p43 p44 p45
  · exact ((KSl.same (fun o p _ => (au_o (by omega)).symm)).tr e).u (by omega)
  · exact ((KSl.same (fun o p _ => (au_o (by omega)).symm)).tr f).u (by omega)
theorem q_safe {pg : Nat → PT} (hP : RP pg I L D) (hS : RSz I) (h48 : I 69 48 = 0) (hQ : ∀ r I1 L1,
      (∀ (Q2 : Option Value → aw_H → Prop), (∀ I2 L2, RP pg I2 L2 D → I2 69 0 = 0 → (FRn I I2 L L2 ∨ ∃ u, FRn (aw_u (aw_u I 0 12 u) 69 72 u) I2 L L2) → Q2 (some (.int r)) (aw_s I2 L2 D)) → aw_m X (d2 + 4) y_M_safe [.ref 69, .int v1, .int v2] (aw_s I1 L1 D) Q2) → Q (some (.int r)) (aw_s I1 L1 D)) :
    aw_m X (d + 7) y_AW_safe [.ref 0, .int v1, .int v2] (aw_s I L D) Q := by
  obtain ⟨B, T, O, hk, s1, s2, s3, sz⟩ := hS
  obtain ⟨hD, hpg, hsl, hbo⟩ := id hP
  have hpg' : ∀ j, j < 4 → PG (pg j) := fun j hj => (hpg j hj).1
  have mbad : ((v1 < 0 ∨ (4 : Int32) ≤ v1) ∨ (v2 < 1 ∨ (40 : Int32) < v2)) → Q (some (.int (-1))) (aw_s I L D) := fun hx => by
    refine hQ (-1) I L (fun Q2 hQ2 => aw_go rfl rfl (b_M_safe_0 (c_M_areTold (d := d2 + 2) hsl hpg' (fun I' e32 hm f ht => ?_) (fun I' e32 hm f _ => ?_))))
    · obtain ⟨s, F, hs, e1, f0, f4, e3⟩ := ht
      rcases hx with g | g
      · rw [e1] at g; exact absurd g (told_p hs)
      · rw [e3] at g; exact absurd g (told_f f0 f4)
    · have fr : FRn I I' L L := FRn.mk1 KFr.rf f MFr.rf
      exact b_M_safe_6 (fun x => absurd rfl x) (fun _ => hQ2 I' L (hP.told fr.run e32 hm) f.2.2.1 (Or.inl fr))
  rcases i32_4 v1 with h1 | ⟨k, hk4, rfl⟩
  · exact aw_go rfl rfl (b_AW_safe_0 (c_AW_programAt0 h1 (b_AW_safe_5a (mbad (Or.inl h1)))))
  refine aw_go rfl rfl (b_AW_safe_0 (c_AW_programAt hk4 (b_AW_safe_5 ?_)))
  rcases i32_F v2 with h3 | ⟨F, f0, f4, rfl⟩
  · exact c_AW_isFuel0 h3 (b_AW_safe_14 (fun x => absurd rfl x) (fun _ => mbad (Or.inr h3)))
  refine c_AW_isFuel f0 f4 (b_AW_safe_14 (fun _ => ?_) (fun x => absurd x (by decide)))
  obtain ⟨E, hE⟩ := runs_ex (F := F) (T := T) (O := O) (rule := -1) (hpg' k hk4) hk f0 (fun h => absurd (by decide) h)
  have hex : ∀ x : Nat, ∃ b : Bool, (b = true ↔ ∀ a, a < 2 ^ (B * O) → ¬ harm (E (x + a * 2 ^ (B * T))).1) := fun x => by
    by_cases q : ∀ a, a < 2 ^ (B * O) → ¬ harm (E (x + a * 2 ^ (B * T))).1
    · exact ⟨true, fun _ => q, fun _ => rfl⟩
    · exact ⟨false, fun z => Bool.noConfusion z, fun z => absurd z q⟩
  obtain ⟨g, hg⟩ := Classical.axiomOfChoice hex
  have kin : KIn (pg k) (D k) B T O I L := ⟨hpg' k hk4, hD.1 k (by omega), (hpg k hk4).2, hk, s1, s2, s3⟩
  refine l_AW_safe (d := d) (S := pg k) (E := E) (g := g) f0 f4 (fun r => (hE r).1) hg (I0 := I) (L0 := L) (fun I1 L1 fk => hQ _ I1 L1 (fun Q2 hQ2 => ?_)) (2 ^ (B * T)) 0 (aw_u I 0 12 (-1)) L (by omega) kin.u12 KFr.rf
  have hi : ∀ o, 11 ≤ o → I1 o = I o := fun o h => by rw [fk.1 o (by omega) (by omega) (by omega) (by omega) (by omega) (by omega), au_o (by omega)]
  have sl1 : MSl pg I1 := hsl.fr hpg' (by rw [hi 69 (by decide)]) (fun o x y => hi o (by omega))
  refine aw_go rfl rfl (b_M_safe_0 (c_M_areTold (d := d2 + 2) sl1 hpg' (fun I2 e32 hm f ht => ?_) (fun I2 e32 hm f hx => ?_)))
  · have x69 : ∀ x, x ≠ 0 → x ≠ 32 → I2 69 x = I 69 x := fun x p q => by rw [f.2.1 x p q, hi 69 (by decide)]
    have sz' : SZ I2 B T O := ⟨by rw [x69 33 (by decide) (by decide)]; exact sz.1, by rw [x69 34 (by decide) (by decide)]; exact sz.2.1, by rw [x69 35 (by decide) (by decide)]; exact sz.2.2⟩
    have min' : MIn (pg k) k B T O I2 := ⟨hpg' k hk4, by omega, hm k hk4, hk, sz', by rw [x69 48 (by decide) (by decide)]; exact h48⟩
    have B0 := @b_M_safe_6 X (d2 + 3) Q2 I2 L1 D (nI k) (nI F) 1
    rw [sz'.1, sz'.2.1, lets_e hk] at B0
    refine B0 (fun _ => l_M_safe (d := d2) (S := pg k) (E := E) (g := g) f0 f4 hE hg (I0 := I2) (L0 := L1) (fun I3 L3 fm => ?_) (2 ^ (B * T)) 0 I2 L1 (by omega) min' MFr.rf) (fun x => absurd x (by decide))
    have md : ∀ o, 71 ≤ o → o ≤ 78 → aw_u I3 69 72 (sfc g (2 ^ (B * T))).2 o = I2 o := fun o p q => by rw [au_o (by omega)]; exact fm.1 o (by omega) (by omega) (by omega) (by omega) (by omega) (by omega)
    have fr := (FRn.mk1 fk f fm).u69 (u := (sfc g (2 ^ (B * T))).2)
    have i69 : ∀ x, x ≠ 72 → x ≠ 25 → x ≠ 42 → x ≠ 43 → x ≠ 44 → x ≠ 45 → aw_u I3 69 72 (sfc g (2 ^ (B * T))).2 69 x = I2 69 x := fun x p a b c e f' => by rw [au_k p]; exact fm.2.1 x a b c e f'
    refine hQ2 _ L3 ⟨hD, fun j hj => ?_, Or.inl ⟨by rw [i69 32 (by decide) (by decide) (by decide) (by decide) (by decide) (by decide)]; exact e32, fun j hj => (hm j hj).ks (KSl.same md) (hpg' j hj).1.1 (hpg' j hj).2.1⟩, fun j hj => ?_⟩ (by rw [i69 0 (by decide) (by decide) (by decide) (by decide) (by decide) (by decide)]; exact f.2.2.1) (Or.inr ⟨_, fr⟩)
    · obtain ⟨b1, b2⟩ := codes_bd (hD.1 j (by omega))
      refine ⟨hpg' j hj, (hpg j hj).2.fr (fun o x y => ?_) ?_⟩
      · rw [fr.1 o (by omega) (by omega) (by omega) (by omega) (by omega) (by omega) (by omega) (by omega) (by omega) (by omega) (by omega) (by omega) (by omega) (by omega), au_o (by omega), au_o (by omega)]
      · rw [fr.2.2.2.2.2.1 _ (by omega) (by omega) (by omega)]
    · rw [md 77 (by decide) (by decide), f.1 77 (by decide) (by decide) (by decide), hi 77 (by decide)]; exact hbo j hj
  · exact absurd hx (fun g => g.elim (told_p hk4) (told_f f0 f4))
end SAFE2
