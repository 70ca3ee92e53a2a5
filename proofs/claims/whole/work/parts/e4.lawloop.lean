/-! PART e4: the law's loop -/
theorem lw_c6 : ∀ l i : Nat, l < 6 → i < 6 → nI l - 6 < nI i := by
  intro l i hl hi
  have : ∀ l : Fin 6, ∀ i : Fin 6, nI l.1 - 6 < nI i.1 := by decide +kernel
  exact this ⟨l, hl⟩ ⟨i, hi⟩
theorem lw_cnt {l i : Nat} (hl : l ≤ 3072) (hi : i ≤ l) (h : ¬ (nI l - 6 < nI i)) : i + 6 ≤ l := by
  by_cases q : 6 ≤ l
  · rw [show (6 : Int32) = nI 6 from rfl, pk_sub q, nI_ltI (by omega) (by omega)] at h
    omega
  · exact absurd (lw_c6 l i (by omega) (by omega)) h
theorem lwL_6 (i : Nat) : lwL (i + 6) = [some (.ref 1005), some (.ref 0), some (.ref 69), some (.ref 115), some (.int (nI i + 6)), none, none] := by
  rw [show (6 : Int32) = nI 6 from rfl, nI_add]
theorem law_loop {X : aw_X} (hl : X.1.stackTraces = false) (hL : aw_xl X ≤ 3072) {Q : Option Value → aw_H → Prop} (hQ : ∀ A, Q (some (.int 1)) A) : ∀ (f i kc ks : Nat) (I : Nat → Nat → Int32) (L : Nat → Nat → Int64) (D : Nat → Nat), aw_xl X ≤ i + f → i ≤ aw_xl X → kc + (aw_xl X - i) ≤ 601024 → ks + 6 * (aw_xl X - i) ≤ 7293034 → Rel I L D → aw_Z X 2048 601024 7293034 y_Law_law Q kc ks 23 (lwL i) [] (aw_s I L D) := by
  intro f
  induction f with
  | zero =>
    intro i kc ks I L D hf hi hc hs h
    refine s_Law_law_23.go (lwL i) [.ref 1005, .int (nI i)] (aw_s I L D) rfl (z_slen d_Law_law_26 ?_)
    refine s_Law_law_27.go (lwL i) [.int (nI (aw_xl X) - 6), .int (nI i)] (aw_s I L D) rfl (z_icmp_gt (tgt := 1278) d_Law_law_30 rfl (fun _ => ?_) (fun q => ?_))
    · exact s_Law_law_1278.go (lwL i) [.int 1] (aw_s I L D) rfl (z_iret d_Law_law_1279 rfl (aw_nz (by decide +kernel)) (hQ _))
    · have := lw_cnt hL hi q; omega
  | succ f ih =>
    intro i kc ks I L D hf hi hc hs h
    refine s_Law_law_23.go (lwL i) [.ref 1005, .int (nI i)] (aw_s I L D) rfl (z_slen d_Law_law_26 ?_)
    refine s_Law_law_27.go (lwL i) [.int (nI (aw_xl X) - 6), .int (nI i)] (aw_s I L D) rfl (z_icmp_gt (tgt := 1278) d_Law_law_30 rfl (fun _ => ?_) (fun q => ?_))
    · exact s_Law_law_1278.go (lwL i) [.int 1] (aw_s I L D) rfl (z_iret d_Law_law_1279 rfl (aw_nz (by decide +kernel)) (hQ _))
    have hi6 := lw_cnt hL hi q
    refine s_Law_law_33.go (lwL i) [.int (nI i), .ref 1005] (aw_s I L D) rfl (z_sald (aw_in_nI (by omega) (by omega)) d_Law_law_36 ?_)
    have hc1 : kc + 1 ≤ 601024 := by omega
    have hs1 : ks + 6 ≤ 7293034 := by omega
    have hc0 : kc ≤ 601024 := by omega
    have hs0 : ks ≤ 7293034 := by omega
    have hk : ∀ kc2 ks2 : Nat, kc2 ≤ kc + 1 → ks2 ≤ ks + 6 → ∀ I2 L2 D2, Rel I2 L2 D2 → aw_Z X 2048 601024 7293034 y_Law_law Q kc2 ks2 1272 (lwL i) [] (aw_s I2 L2 D2) := by
      intro kc2 ks2 g1 g2 I2 L2 D2 h2
      refine s_Law_law_1272.go (lwL (i + 6)) [] (aw_s I2 L2 D2) (by rw [lwL_6]; rfl) (z_goto (tgt := 23) d_Law_law_1275 rfl ?_)
      exact ih (i + 6) kc2 ks2 I2 L2 D2 (by omega) hi6 (by omega) (by omega) h2
    have hk0 := hk kc ks (by omega) (by omega)
    refine s_Law_law_37.go (lwL i) [.int (aw_xs X (nI i).toNatClampNeg &&& 63)] (aw_s I L D) rfl ?_
    exact law_sw (lc_0 hL hi6 h hc0 hs0 hk0) (lc_1 hL hi6 h hc0 hs0 hk0) (lc_2 hL hi6 h hc0 hs0 hk0) (lc_3 hL hi6 h hc0 hs0 hk0) (lc_4 hL hi6 h hc0 hs0 hk0) (lc_5 hL hi6 h hc0 hs0 hk0) (lc_6 hl hL hi6 h hc1 hs1 (hk (kc + 1) (ks + 6) (by omega) (by omega))) (lc_7 hL hi6 h hc0 hs0 hk0) (lc_8 hL hi6 h hc0 hs0 hk0) (lc_9 hL hi6 h hc0 hs0 hk0) (lc_10 hL hi6 h hc0 hs0 hk0) (lc_11 hL hi6 h hc0 hs0 hk0) (lc_12 hL hi6 h hc0 hs0 hk0) (lc_13 hL hi6 h hc0 hs0 hk0) (lc_14 hL hi6 h hc0 hs0 hk0) (lc_15 hL hi6 h hc0 hs0 hk0) (lc_16 hL hi6 h hc0 hs0 hk0) (lc_17 hL hi6 h hc0 hs0 hk0) (lc_18 hL hi6 h hc0 hs0 hk0) (lc_19 hL hi6 h hc0 hs0 hk0) (lc_20 hL hi6 h hc0 hs0 hk0) (lc_21 hL hi6 h hc0 hs0 hk0) (lc_22 hL hi6 h hc0 hs0 hk0) (lc_23 hL hi6 h hc0 hs0 hk0) (lc_24 hL hi6 h hc0 hs0 hk0) (lc_25 hL hi6 h hc0 hs0 hk0) (lc_26 hL hi6 h hc0 hs0 hk0) (lc_27 hL hi6 h hc0 hs0 hk0) (lc_28 hL hi6 h hc0 hs0 hk0) (lc_29 hL hi6 h hc0 hs0 hk0) (lc_30 hL hi6 h hc0 hs0 hk0) (lc_31 hL hi6 h hc0 hs0 hk0) (lc_32 hL hi6 h hc0 hs0 hk0)
      (hk0 _ _ _ h)
