/-! PART a1: the class's proofs: small methods; which tests hold for no row of a part -/
theorem dg_I {p j : Nat} (hp : p < 6561) (hj : j < 9) : nI p / nI (3 ^ j) - nI p / nI (3 ^ j) / 3 * 3 = nI (dg p j) := by
  have h3 : 3 ^ j ≤ 3 ^ 8 := Nat.pow_le_pow_right (by decide) (by omega)
  have p0 := p3 j
  have le : p / 3 ^ j ≤ p := Nat.div_le_self _ _
  rw [pk_div (by omega) p0 (by omega), show (3 : Int32) = nI 3 from rfl, pk_div (by omega) (by decide) (by decide), pk_mul, pk_sub (by omega)]
  unfold dg
  exact congrArg nI (by omega)
theorem h0_I {p j : Nat} (h : dg p j = 2) : nI p - (2 - 0) * nI (3 ^ j) = nI (h0 p j) := by
  have := dg_le (a := 2) (Nat.le_of_eq h.symm)
  rw [show ((2 : Int32) - 0) = nI 2 from rfl, pk_mul, pk_sub (by omega)]; rfl
theorem h1_I {p j : Nat} (h : dg p j = 2) : nI p - (2 - 1) * nI (3 ^ j) = nI (h1 p j) := by
  have := dg_le (a := 1) (p := p) (j := j) (by omega)
  rw [show ((2 : Int32) - 1) = nI 1 from rfl, pk_mul, pk_sub (by omega), h1_e]
theorem p_lt {p n : Nat} (h : p < 3 ^ n) (hn : n ≤ 8) : p < 6561 := Nat.lt_of_lt_of_le h (Nat.le_trans (Nat.pow_le_pow_right (by decide) hn) (show 3 ^ 8 ≤ 6561 by decide))
section KPF
variable {X : aw_X} {d : Nat} {Q : Option Value → aw_H → Prop} {I : Nat → Nat → Int32} {L : Nat → Nat → Int64} {D : Nat → Nat} {S : PT} {c B T O : Nat}
theorem c_valueAtN {o j N : Nat} (ho : o ∈ aw_ta20) (hs : (aw_sh o).2 = N) (hN : N < 2 ^ 31) (hj : j < N) (h : Q (some (.int (I o j))) (aw_s I L D)) : aw_m X d y_AW_valueAt_aII [.ref o, .int (nI j)] (aw_s I L D) Q := by
  have B0 := @b_AW_valueAt_aII_0 X d Q I L D o (nI j) ho
  have p0 : ¬ nI j < 0 := nI_pos (by omega)
  have p1 : ¬ (Int32.ofNat N) ≤ nI j := by
    have : ((Int32.ofNat N) ≤ nI j) = (N ≤ j) := nI_le' (a := N) hN (by omega)
    rw [this]; omega
  rw [hs, nI_clamp (show j < 2 ^ 31 by omega)] at B0
  exact aw_go rfl rfl (B0 (fun q => absurd q p0) (fun _ q => absurd q p1) (fun _ _ => aw_in_nI hj hN) (fun _ _ => h))
theorem c_Pf_digit {p j : Nat} (hp : p < 6561) (hj : j < 9) (h : Q (some (.int (nI (dg p j)))) (aw_s I L D)) : aw_m X (d + 1) y_Pf_digit [.int (nI p), .int (nI j)] (aw_s I L D) Q := by
  have h3 : 3 ^ j ≤ 3 ^ 8 := Nat.pow_le_pow_right (by decide) (by omega)
  have p0 := p3 j
  have np : ¬ nI (3 ^ j) ≤ 0 := by rw [show (0 : Int32) = nI 0 from rfl, nI_leI (by omega) (by decide)]; omega
  refine aw_go rfl rfl (b_Pf_digit_0 (c_Pf_three hj (b_Pf_digit_4 (fun q => absurd q np) (fun _ q => ?_) (fun _ => ?_))))
  · rw [show (0 : Int32) = nI 0 from rfl, nI_eq (by omega) (by decide)] at q; omega
  · rw [dg_I hp hj]; exact h
theorem c_Pf_half0 {p j : Nat} (hj : j < 9) (h2 : dg p j = 2) (h : Q (some (.int (nI (h0 p j)))) (aw_s I L D)) : aw_m X (d + 1) y_Pf_half [.int (nI p), .int (nI j), .int 0] (aw_s I L D) Q :=
  aw_go rfl rfl (b_Pf_half_0 (c_Pf_three hj (b_Pf_half_8 (by rw [h0_I h2]; exact h))))
theorem c_Pf_half1 {p j : Nat} (hj : j < 9) (h2 : dg p j = 2) (h : Q (some (.int (nI (h1 p j)))) (aw_s I L D)) : aw_m X (d + 1) y_Pf_half [.int (nI p), .int (nI j), .int 1] (aw_s I L D) Q :=
  aw_go rfl rfl (b_Pf_half_0 (c_Pf_three hj (b_Pf_half_8 (by rw [h1_I h2]; exact h))))
theorem l_Pf_low {p n : Nat} (hp : p < 6561) (hn : n ≤ 8) (e : I 1 0 * (I 1 1 + I 1 2) = nI n) (h1 : ∀ j, j < n → fre p n 0 = j → Q (some (.int (nI j))) (aw_s I L D)) (h0 : fre p n 0 = n → Q (some (.int (-1))) (aw_s I L D)) :
    ∀ m j, j + m = n → fre p m j = fre p n 0 → aw_z X (d + 2) y_Pf_lowestEither Q 2 [some (.ref 23), some (.int (nI p)), some (.int (nI j))] [] (aw_s I L D) := by
  intro m
  induction m with
  | zero =>
    intro j ej ef
    refine b_Pf_lowestEither_2 (aw_go rfl rfl (b_Sz_rowBits_0 ?_))
    rw [e]
    refine b_Pf_lowestEither_10 (fun _ => h0 (by rw [← ef]; show j = n; omega)) (fun q => absurd ?_ q)
    rw [nI_leI (by omega) (by omega)]; omega
  | succ m ih =>
    intro j ej ef
    refine b_Pf_lowestEither_2 (aw_go rfl rfl (b_Sz_rowBits_0 ?_))
    rw [e]
    have c2 : (nI (dg p j) = 2) = (dg p j = 2) := eqI (k := 2) (by have := dg_lt p j; omega) (by decide)
    rw [fre] at ef
    refine b_Pf_lowestEither_10 (fun q => ?_) (fun _ => c_Pf_digit hp (by omega) (b_Pf_lowestEither_18 (fun q => ?_) (fun q => ?_)))
    · rw [nI_leI (by omega) (by omega)] at q; omega
    · rw [c2] at q
      rw [if_neg q] at ef
      rw [nI_1]
      exact ih (j + 1) (by omega) ef
    · rw [c2] at q
      rw [if_pos q] at ef
      exact h1 j (by omega) ef.symm
theorem c_Pf_low {p n : Nat} (hp : p < 6561) (hn : n ≤ 8) (e : I 1 0 * (I 1 1 + I 1 2) = nI n) (h1 : ∀ j, j < n → fre p n 0 = j → Q (some (.int (nI j))) (aw_s I L D)) (h0 : fre p n 0 = n → Q (some (.int (-1))) (aw_s I L D)) : aw_m X (d + 2) y_Pf_lowestEither [.ref 23, .int (nI p)] (aw_s I L D) Q :=
  aw_go rfl rfl (b_Pf_lowestEither_0 (l_Pf_low (d := d) hp hn e h1 h0 n 0 (by omega) rfl))
theorem l_Pf_row {p n : Nat} (hp : p < 6561) (hn : n ≤ 8) (e : I 1 0 * (I 1 1 + I 1 2) = nI n) (hd : ∀ i, i < n → dg p i ≠ 2) (hQ : Q (some (.int (nI (rowF p n)))) (aw_s I L D)) :
    ∀ m j, j + m = n → aw_z X (d + 2) y_Pf_rowOf Q 4 [some (.ref 23), some (.int (nI p)), some (.int (nI (rowF p j))), some (.int (nI j))] [] (aw_s I L D) := by
  intro m
  induction m with
  | zero =>
    intro j ej
    have : j = n := by omega
    subst this
    refine b_Pf_rowOf_4 (aw_go rfl rfl (b_Sz_rowBits_0 ?_))
    rw [e]
    exact b_Pf_rowOf_12 (fun _ => hQ) (fun q => absurd (by rw [nI_leI (by omega) (by omega)]; exact Nat.le_refl _) q)
  | succ m ih =>
    intro j ej
    refine b_Pf_rowOf_4 (aw_go rfl rfl (b_Sz_rowBits_0 ?_))
    rw [e]
    refine b_Pf_rowOf_12 (fun q => ?_) (fun _ => c_Pf_digit hp (by omega) (b_Pf_rowOf_21 ?_))
    · rw [nI_leI (by omega) (by omega)] at q; omega
    · have g := ih (j + 1) (by omega)
      have := dg_lt p j
      have := hd j (by omega)
      rw [nI_1, shl_nI (by omega), nI_or]
      rcases (show dg p j = 0 ∨ dg p j = 1 by omega) with q | q
      · rw [rowF, if_neg (by omega)] at g
        rw [q, Nat.zero_mul, Nat.or_zero]; exact g
      · rw [rowF, if_pos q] at g
        rw [q, Nat.one_mul, rowF_or]; exact g
theorem c_Pf_row {p n : Nat} (hp : p < 6561) (hn : n ≤ 8) (e : I 1 0 * (I 1 1 + I 1 2) = nI n) (hd : ∀ i, i < n → dg p i ≠ 2) (hQ : Q (some (.int (nI (rowF p n)))) (aw_s I L D)) : aw_m X (d + 2) y_Pf_rowOf [.ref 23, .int (nI p)] (aw_s I L D) Q :=
  aw_go rfl rfl (b_Pf_rowOf_0 (l_Pf_row (d := d) hp hn e hd hQ n 0 (by omega)))
/-- what the search for proofs leaves; no proof is written down -/
def KFq (I0 I : Nat → Nat → Int32) (L0 L : Nat → Nat → Int64) : Prop := (∀ o, o ≠ 4 → o ≠ 5 → o ≠ 6 → o ≠ 7 → o ≠ 8 → o ≠ 10 → o ≠ 23 → o ≠ 24 → o ≠ 25 → o ≠ 26 → o ≠ 27 → I o = I0 o) ∧ I 4 19 = I0 4 19 ∧ (∀ k, k ≠ 6 → I 23 k = I0 23 k) ∧ ∀ o, o ≠ 4 → o ≠ 9 → L o = L0 o
theorem KFq.rf : KFq I I L L := ⟨fun _ _ _ _ _ _ _ _ _ _ _ _ => rfl, rfl, fun _ _ => rfl, fun _ _ _ => rfl⟩
theorem KFq.tr {I0 I1 I2 : Nat → Nat → Int32} {L0 L1 L2 : Nat → Nat → Int64} (a : KFq I0 I1 L0 L1) (b : KFq I1 I2 L1 L2) : KFq I0 I2 L0 L2 :=
  ⟨fun o h1 h2 h3 h4 h5 h6 h7 h8 h9 h10 h11 => (b.1 o h1 h2 h3 h4 h5 h6 h7 h8 h9 h10 h11).trans (a.1 o h1 h2 h3 h4 h5 h6 h7 h8 h9 h10 h11), b.2.1.trans a.2.1, fun k h => (b.2.2.1 k h).trans (a.2.2.1 k h), fun o h1 h2 => (b.2.2.2 o h1 h2).trans (a.2.2.2 o h1 h2)⟩
theorem KFr.q {I0 I : Nat → Nat → Int32} {L0 L : Nat → Nat → Int64} (h : KFr I0 I L0 L) : KFq I0 I L0 L :=
  ⟨fun o h1 h2 h3 h4 h5 h6 _ _ _ _ _ => h.1 o h1 h2 h3 h4 h5 h6, h.2.1, fun k _ => by rw [h.1 23 (by decide) (by decide) (by decide) (by decide) (by decide) (by decide)], h.2.2⟩
theorem KFq.u {I : Nat → Nat → Int32} {L : Nat → Nat → Int64} {o k : Nat} {v : Int32} (ho : o = 24 ∨ o = 25 ∨ o = 26 ∨ o = 27 ∨ (o = 23 ∧ k = 6)) : KFq I (aw_u I o k v) L L :=
  ⟨fun x h1 h2 h3 h4 h5 h6 h7 h8 h9 h10 h11 => au_o (by omega), by rw [au_o (by omega)], fun x hx => au_ok (by omega), fun _ _ _ => rfl⟩
theorem KIc.q {I I' : Nat → Nat → Int32} {L L' : Nat → Nat → Int64} (h : KIc S c B T O I) (f : KFq I I' L L') : KIc S c B T O I' := by
  obtain ⟨a, b, k, e, s1, s2, s3⟩ := h
  obtain ⟨b1, b2⟩ := codes_bd b
  have e1 := f.1 1 (by decide) (by decide) (by decide) (by decide) (by decide) (by decide) (by decide) (by decide) (by decide) (by decide) (by decide)
  exact ⟨a, b, k.fr (fun o x y => f.1 o (by omega) (by omega) (by omega) (by omega) (by omega) (by omega) (by omega) (by omega) (by omega) (by omega) (by omega)), e, by rw [e1]; exact s1, by rw [e1]; exact s2, by rw [e1]; exact s3⟩
theorem KIc.bits (h : KIc S c B T O I) : I 1 0 * (I 1 1 + I 1 2) = nI (B * (T + O)) := by
  obtain ⟨-, -, -, -, s1, s2, s3⟩ := h
  rw [s1, s2, s3, nI_add, pk_mul]
/-- the tests that do not hold of a row -/
def fR (S : PT) (B T : Nat) (r : Nat) : Nat := fBt (tHo S B (rowNm B T (nI r))) (cK S)
theorem fR_lt (h : CG S) (r : Nat) : fR S B T r < 2 ^ 20 := Nat.lt_of_lt_of_le (fBt_lt _ _) (Nat.pow_le_pow_right (by decide) h.2.1)
theorem l_Pf_fill {n : Nat} {N : Nat → Nat} (hn : n = B * (T + O)) (h8 : n ≤ 8) (hN : isNN n (fR S B T) N) {I0 : Nat → Nat → Int32} {L0 : Nat → Nat → Int64} (hQ : ∀ I' L', KFq I0 I' L0 L' → (∀ p, p < 3 ^ n → I' 24 p = nI (N p)) → Q none (aw_s I' L' D)) :
    ∀ (m k : Nat) (I : Nat → Nat → Int32) (L : Nat → Nat → Int64), k + m = 3 ^ n → KIc S c B T O I → KFq I0 I L0 L → (∀ p, p < k → I 24 p = nI (N p)) →
      aw_z X (d + 5) y_Pf_fillFailing Q 7 [some (.ref 23), some (.ref c), some (.int (nI (3 ^ n))), some (.int (nI k)), none] [] (aw_s I L D) := by
  have h3 : 3 ^ n ≤ 3 ^ 8 := Nat.pow_le_pow_right (by decide) h8
  have h38 : 3 ^ 8 = 6561 := by decide
  intro m
  induction m with
  | zero =>
    intro k I L e h f hk
    have ek : k = 3 ^ n := by omega
    subst ek
    have le : nI (3 ^ n) ≤ nI (3 ^ n) := by rw [nI_leI (by omega) (by omega)]; exact Nat.le_refl _
    exact b_Pf_fillFailing_7 (fun _ => hQ I L f hk) (fun q => absurd le q) (fun q => absurd le q)
  | succ m ih =>
    intro k I L e h f hk
    have nle : ¬ nI (3 ^ n) ≤ nI k := by rw [nI_leI (by omega) (by omega)]; omega
    have nle2 : ¬ (6561 : Int32) ≤ nI k := by rw [show (6561 : Int32) = nI 6561 from rfl, nI_leI (by decide) (by omega)]; omega
    have hk6 : k < 6561 := by omega
    have eb := h.bits
    rw [← hn] at eb
    have sp := fre_sp k n 0
    have eN := hN k
    unfold nnG at eN
    have next : ∀ (x : Nat) I1 L1, KFr I I1 L L1 → x = N k → aw_z X (d + 5) y_Pf_fillFailing Q 7 [some (.ref 23), some (.ref c), some (.int (nI (3 ^ n))), some (.int (nI k + 1)), none] [] (aw_s (aw_u I1 24 k (nI x)) L1 D) := fun x I1 L1 f1 ex => by
      have f2 : KFq I (aw_u I1 24 k (nI x)) L L1 := f1.q.tr (KFq.u (Or.inl rfl))
      rw [nI_1]
      refine ih (k + 1) _ L1 (by omega) (h.q f2) (f.tr f2) (fun p hp => ?_)
      by_cases g : p = k
      · subst g; rw [au_s, ex]
      · rw [au_k g, f1.1 24 (by decide) (by decide) (by decide) (by decide) (by decide) (by decide)]; exact hk p (by omega)
    refine b_Pf_fillFailing_7 (fun q => absurd q nle) (fun _ q => absurd q nle2) (fun _ _ => c_Pf_low (d := d + 2) hk6 h8 eb (fun j hj ej => ?_) (fun ej => ?_))
    · have h2 : dg k j = 2 := by rw [← ej]; exact sp.2.2.1 (by omega)
      have l0 := h0_lt h2
      have l1 := h1_lt h2
      rw [if_pos (by omega), ej] at eN
      refine b_Pf_fillFailing_24 (fun _ => c_Pf_half0 (d := d + 3) (by omega) h2 (b_Pf_fillFailing_70 (c_valueAtN (N := 6561) (by decide) rfl (by decide) (by omega) (b_Pf_fillFailing_73 (c_Pf_half1 (d := d + 3) (by omega) h2 (b_Pf_fillFailing_84 (c_valueAtN (N := 6561) (by decide) rfl (by decide) (by omega) (b_Pf_fillFailing_87 (aw_in_nI hk6 (by decide)) ?_)))))))) (fun q => absurd q (nI_ne1 (by omega)))
      rw [nI_clamp (by omega), hk _ l0, hk _ l1, nI_and]
      exact next _ I L KFr.rf eN.symm
    · rw [if_neg (by omega)] at eN
      have rl := rowF_lt k n
      have r8 : 2 ^ n ≤ 2 ^ 8 := Nat.pow_le_pow_right (by decide) h8
      refine b_Pf_fillFailing_24 (fun q => absurd rfl q) (fun _ => c_Pf_row (d := d + 2) hk6 h8 eb (fun i hi => sp.2.2.2 i (Nat.zero_le _) (by omega)) (b_Pf_fillFailing_47 (c_Mc_failing (d := d) (by omega) h (fun I1 L1 f1 => b_Pf_fillFailing_50 (aw_in_nI hk6 (by decide)) ?_))))
      rw [nI_clamp (by omega)]
      exact next _ I1 L1 f1 eN.symm
theorem c_Pf_fill {n : Nat} {N : Nat → Nat} (hn : n = B * (T + O)) (h8 : n ≤ 8) (hN : isNN n (fR S B T) N) (h : KIc S c B T O I) (hQ : ∀ I' L', KFq I I' L L' → (∀ p, p < 3 ^ n → I' 24 p = nI (N p)) → Q none (aw_s I' L' D)) : aw_m X (d + 5) y_Pf_fillFailing [.ref 23, .ref c] (aw_s I L D) Q :=
  aw_go rfl rfl (b_Pf_fillFailing_0 (c_Pf_parts (d := d + 3) h8 (by rw [hn]; exact h.bits) (b_Pf_fillFailing_4 (l_Pf_fill (d := d) (I0 := I) (L0 := L) hn h8 hN hQ (3 ^ n) 0 I L (by omega) h KFq.rf (fun p hp => absurd hp (Nat.not_lt_zero p))))))
end KPF
