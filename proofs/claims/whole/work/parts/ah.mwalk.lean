/-! PART ah: the reference walks row by row -/
theorem MRE.w {I0 I : Nat → Nat → Int32} {L0 L : Nat → Nat → Int64} {E : PE} (h : MRE I0 L0 I L E) : MRfr I0 I L0 L ∧ I 69 44 = nI (eB E) ∧ I 69 45 = nI (eD E).length ∧ L 69 46 = decL (eD E) ∧ L 69 47 = setL (eT E) ∧ (∀ s, s < 60 → I 88 s = nI (eY E s)) ∧ I 69 42 = eE E ∧ I 69 43 = eS E ∧ L 89 = (if I0 69 48 = 1 then mayT (L0 89) (eT E) else L0 89) ∧ I 90 = (if I0 69 48 = 2 then stT (I0 90) (eT E) else I0 90) := by
  obtain ⟨e, sp, pc, stk, cs, nm, cl, sp0, bg, ds, ak, ys, tr⟩ := E
  obtain ⟨a, ⟨-, -, b3, b4, b5, b6, b7, b8, b9⟩, c1, c2⟩ := h
  exact ⟨a, b3, b4, b5, b6, b7, c1, c2, b8, b9⟩
/-- what the reference has noted of the first rows -/
def MS (E : Nat → PE) (r : Nat) (I : Nat → Nat → Int32) (L : Nat → Nat → Int64) : Prop :=
  (∀ q, q < r → L 91 q = decL (eD (E q)) ∧ L 92 q = setL (eT (E q)) ∧ I 93 q = nI (eD (E q)).length ∧ I 94 q = nI (eB (E q)) ∧ I 95 q = eE (E q) ∧ I 96 q = eS (E q)) ∧ (∀ k, k < 480 → L 89 k = mayW E r k) ∧ (∀ s, s < 60 → I 100 s = nI (mnW E s r) ∧ I 101 s = nI (mxW E s r)) ∧ I 69 67 = nI (anyW E r)
theorem MS.fr {E : Nat → PE} {r : Nat} {I I' : Nat → Nat → Int32} {L L' : Nat → Nat → Int64} (h : MS E r I L) (h67 : I' 69 67 = I 69 67) (hI : ∀ o, (93 ≤ o ∧ o ≤ 96) ∨ o = 100 ∨ o = 101 → I' o = I o) (hL : ∀ o, o = 89 ∨ o = 91 ∨ o = 92 → L' o = L o) : MS E r I' L' := by
  obtain ⟨a1, a2, a3, a4⟩ := h
  refine ⟨fun q hq => ?_, fun k hk => ?_, fun s hs => ?_, h67.trans a4⟩
  · rw [hL 91 (by omega), hL 92 (by omega), hI 93 (by omega), hI 94 (by omega), hI 95 (by omega), hI 96 (by omega)]; exact a1 q hq
  · rw [hL 89 (by omega)]; exact a2 k hk
  · rw [hI 100 (by omega), hI 101 (by omega)]; exact a3 s hs
/-- what the reference's walking over rows leaves -/
def FMr (I I' : Nat → Nat → Int32) (L L' : Nat → Nat → Int64) : Prop := (∀ o, o ≠ 69 → ¬ (84 ≤ o ∧ o ≤ 88) → ¬ (93 ≤ o ∧ o ≤ 101) → I' o = I o) ∧ (∀ k, k ≠ 25 → k ≠ 42 → k ≠ 43 → k ≠ 44 → k ≠ 45 → k ≠ 48 → k ≠ 67 → I' 69 k = I 69 k) ∧ (∀ o, o ≠ 69 → o ≠ 89 → o ≠ 91 → o ≠ 92 → L' o = L o) ∧ ∀ k, k ≠ 46 → k ≠ 47 → L' 69 k = L 69 k
theorem FMr.rf {I : Nat → Nat → Int32} {L : Nat → Nat → Int64} : FMr I I L L := ⟨fun _ _ _ _ => rfl, fun _ _ _ _ _ _ _ _ => rfl, fun _ _ _ _ _ => rfl, fun _ _ _ => rfl⟩
theorem FMr.tr {I0 I1 I2 : Nat → Nat → Int32} {L0 L1 L2 : Nat → Nat → Int64} (a : FMr I0 I1 L0 L1) (b : FMr I1 I2 L1 L2) : FMr I0 I2 L0 L2 :=
  ⟨fun o h1 h2 h3 => (b.1 o h1 h2 h3).trans (a.1 o h1 h2 h3), fun k h1 h2 h3 h4 h5 h6 h7 => (b.2.1 k h1 h2 h3 h4 h5 h6 h7).trans (a.2.1 k h1 h2 h3 h4 h5 h6 h7), fun o h1 h2 h3 h4 => (b.2.2.1 o h1 h2 h3 h4).trans (a.2.2.1 o h1 h2 h3 h4), fun k h1 h2 => (b.2.2.2 k h1 h2).trans (a.2.2.2 k h1 h2)⟩
theorem MRfr.mr {I I' : Nat → Nat → Int32} {L L' : Nat → Nat → Int64} (h : MRfr I I' L L') (h90 : I' 90 = I 90) : FMr I I' L L' :=
  ⟨fun o h1 h2 h3 => by
    by_cases q : o = 90
    · subst q; exact h90
    · exact h.1 o h1 (by omega) (by omega) (by omega) (by omega) (by omega) q, fun k h1 h2 h3 h4 h5 _ _ => h.2.1 k h1 h2 h3 h4 h5, fun o h1 h2 _ _ => h.2.2.1 o h1 h2, h.2.2.2⟩
theorem FMr.u {I0 I : Nat → Nat → Int32} {L0 L : Nat → Nat → Int64} {o k : Nat} {v : Int32} (h : FMr I0 I L0 L) (ho : (93 ≤ o ∧ o ≤ 101) ∨ (o = 69 ∧ (k = 48 ∨ k = 67))) : FMr I0 (aw_u I o k v) L0 L :=
  ⟨fun q h1 h2 h3 => by rw [au_o (by omega)]; exact h.1 q h1 h2 h3, fun q h1 h2 h3 h4 h5 h6 h7 => by rw [au_ok (by omega)]; exact h.2.1 q h1 h2 h3 h4 h5 h6 h7, h.2.2.1, h.2.2.2⟩
theorem FMr.l {I0 I : Nat → Nat → Int32} {L0 L : Nat → Nat → Int64} {o k : Nat} {v : Int64} (h : FMr I0 I L0 L) (ho : o = 91 ∨ o = 92 ∨ o = 89) : FMr I0 I L0 (aw_u L o k v) :=
  ⟨h.1, h.2.1, fun q h1 h2 h3 h4 => by rw [au_o (by omega)]; exact h.2.2.1 q h1 h2 h3 h4, fun q h1 h2 => by rw [au_o (by omega)]; exact h.2.2.2 q h1 h2⟩
theorem FMr.c4 {S : PT} {I I' : Nat → Nat → Int32} {L L' : Nat → Nat → Int64} (f : FMr I I' L L') (h : MCd S 4 I) (g : PG S) : MCd S 4 I' := h.ks (KSl.same (fun o x y => f.1 o (by omega) (by omega) (by omega))) g.1.1 g.2.1
section MROW
variable {X : aw_X} {d : Nat} {Q : Option Value → aw_H → Prop} {I : Nat → Nat → Int32} {L : Nat → Nat → Int64} {D : Nat → Nat} {S : PT} {B T O F r : Nat} {E : Nat → PE}
theorem m_runsW {g : Int32} (hS : PG S) (hM : MCd S 4 I) (hk : SZok B T O) (sz : SZ I B T O) (h0 : 0 < F) (h4 : F ≤ 40) (hg : g = 0 ∨ g = 1) {E : PE} (hE : RT1 S B T O F r (-1) E) (hQ : ∀ I' L', MRE (aw_u I 69 48 g) L I' L' E → Q (some (.int E.1)) (aw_s I' L' D)) : aw_m X (d + 3) y_M_runs [.ref 69, .int (nI 4), .int (nI r), .int (nI F), .int (-1)] (aw_s (aw_u I 69 48 g) L D) Q := by
  obtain ⟨N, hN⟩ := hE
  have hM' : MCd S 4 (aw_u I 69 48 g) := hM.ks (KSl.same (fun o x y => au_o (by omega))) hS.1.1 hS.2.1
  refine c_M_runs hS.1 ⟨⟨by rw [au_k (by decide)]; exact sz.1, by rw [au_k (by decide)]; exact sz.2.1, by rw [au_k (by decide)]; exact sz.2.2⟩, hk, by decide, h4, fun h => absurd (by decide) h, ?_, hM'.2.2.2.2.1⟩ h0 hM'.2.1 hN hQ
  rw [au_s]
  exact hg.elim Or.inl (fun x => Or.inr (Or.inl x))
theorem l_M_mm {mn mx ys : Nat → Nat} (hys : ∀ s, ys s ≤ 1000) (hmn : ∀ s, mn s ≤ 1000) (hmx : ∀ s, mx s ≤ 1000) {v : Int32} {I0 : Nat → Nat → Int32} (hv : ∀ s, s < 60 → I0 100 s = nI (mn s) ∧ I0 101 s = nI (mx s)) (hy : ∀ s, s < 60 → I0 88 s = nI (ys s))
    (hk : ∀ I', (∀ o, o ≠ 100 → o ≠ 101 → I' o = I0 o) → (∀ s, s < 60 → I' 100 s = nI (if ys s < mn s then ys s else mn s) ∧ I' 101 s = nI (if mx s < ys s then ys s else mx s)) → aw_m X (d + 3) y_M_runs [.ref 69, .int 4, .int v, .int (I' 69 65), .int (-1)] (aw_s (aw_u I' 69 48 1) L D) (fun r A => aw_z X (d + 4) y_M_walkRow Q 175 [some (.ref 69), none, none] (r.toList ++ []) A)) :
    ∀ (m k : Nat) (J : Nat → Nat → Int32), k + m = 60 → (∀ o, o ≠ 100 → o ≠ 101 → J o = I0 o) → (∀ s, k ≤ s → J 100 s = I0 100 s ∧ J 101 s = I0 101 s) → (∀ s, s < k → J 100 s = nI (if ys s < mn s then ys s else mn s) ∧ J 101 s = nI (if mx s < ys s then ys s else mx s)) →
      aw_z X (d + 4) y_M_walkRow Q 93 [some (.ref 69), some (.int v), some (.int (nI k))] [] (aw_s J L D) := by
  intro m
  induction m with
  | zero =>
    intro k J e hf hs hd
    have : k = 60 := by omega
    subst this
    exact b_M_walkRow_93 (fun _ => hk J hf hd) (fun q => absurd (by decide) q) (fun q => absurd (by decide) q) (fun q => absurd (by decide) q) (fun q => absurd (by decide) q) (fun q => absurd (by decide) q) (fun q => absurd (by decide) q)
  | succ m ih =>
    intro k J e hf hs hd
    have h60 : ¬ (60 : Int32) ≤ nI k := by rw [show (60 : Int32) = nI 60 from rfl, nI_leI (by decide) (by omega)]; omega
    have vk := aw_in_nI (show k < 60 by omega) (show 60 < 2 ^ 31 by decide)
    have kc : (nI k).toNatClampNeg = k := nI_clamp (by omega)
    have b1 := hys k
    have b2 := hmn k
    have b3 := hmx k
    have go : ∀ (J' : Nat → Nat → Int32), (∀ o, o ≠ 100 → J' o = J o) → (∀ s, s ≠ k → J' 100 s = J 100 s) → J' 100 k = nI (if ys k < mn k then ys k else mn k) → aw_z X (d + 4) y_M_walkRow Q 126 [some (.ref 69), some (.int v), some (.int (nI k))] [] (aw_s J' L D) := fun J' f1 f2 f3 => by
      have e88 : J' 88 (nI k).toNatClampNeg = nI (ys k) := by rw [kc, f1 88 (by decide), hf 88 (by decide) (by decide)]; exact hy k (by omega)
      have e101 : J' 101 (nI k).toNatClampNeg = nI (mx k) := by rw [kc, f1 101 (by decide), (hs k (Nat.le_refl _)).2]; exact (hv k (by omega)).2
      refine b_M_walkRow_126 vk vk (fun q => ?_) (fun _ => vk) (fun _ => vk) (fun q => ?_)
      · rw [e88, e101, nI_leI (by omega) (by omega)] at q
        rw [nI_1]
        refine ih (k + 1) J' (by omega) (fun o p1 p2 => (f1 o p1).trans (hf o p1 p2)) (fun s p => ?_) (fun s p => ?_)
        · rw [f2 s (by omega), f1 101 (by decide)]; exact hs s (by omega)
        · by_cases g : s = k
          · subst g; rw [kc] at e101; rw [f3, e101, if_neg (show ¬ mx s < ys s by omega)]; exact ⟨rfl, rfl⟩
          · rw [f2 s g, f1 101 (by decide)]; exact hd s (by omega)
      · rw [e88, e101, nI_leI (by omega) (by omega)] at q
        rw [e88, kc, nI_1]
        refine ih (k + 1) _ (by omega) (fun o p1 p2 => by rw [au_o p2]; exact (f1 o p1).trans (hf o p1 p2)) (fun s p => ?_) (fun s p => ?_)
        · rw [au_o (by decide), au_k (by omega), f2 s (by omega), f1 101 (by decide)]; exact hs s (by omega)
        · by_cases g : s = k
          · subst g; rw [au_o (by decide), au_s, f3, if_pos (show mx s < ys s by omega)]; exact ⟨rfl, rfl⟩
          · rw [au_o (by decide), au_k g, f2 s g, f1 101 (by decide)]; exact hd s (by omega)
    have e88 : J 88 (nI k).toNatClampNeg = nI (ys k) := by rw [kc, hf 88 (by decide) (by decide)]; exact hy k (by omega)
    have e100 : J 100 (nI k).toNatClampNeg = nI (mn k) := by rw [kc, (hs k (Nat.le_refl _)).1]; exact (hv k (by omega)).1
    refine b_M_walkRow_93 (fun q => absurd q h60) (fun _ => vk) (fun _ => vk) (fun _ q => ?_) (fun _ _ => vk) (fun _ _ => vk) (fun _ q => ?_)
    · rw [e88, e100, nI_leI (by omega) (by omega)] at q
      refine go J (fun _ _ => rfl) (fun _ _ => rfl) ?_
      rw [kc] at e100
      rw [e100, if_neg (show ¬ ys k < mn k by omega)]
    · rw [e88, e100, nI_leI (by omega) (by omega)] at q
      rw [e88, kc]
      exact go _ (fun o p => by rw [au_o p]) (fun s p => by rw [au_k p]) (by rw [au_s, if_pos (show ys k < mn k by omega)])
theorem c_M_walkRow (hS : PG S) (hM : MCd S 4 I) (hk : SZok B T O) (sz : SZ I B T O) (h0 : 0 < F) (h4 : F ≤ 40) (hr : r < 4096) (hE : RT1 S B T O F r (-1) (E r)) (hW : WE B F (cS S) E) (h65 : I 69 65 = nI F) (h : MS E r I L)
    (hQ : ∀ I' L', MS E (r + 1) I' L' → FMr I I' L L' → I' 69 48 = 0 → Q none (aw_s I' L' D)) : aw_m X (d + 4) y_M_walkRow [.ref 69, .int (nI r)] (aw_s I L D) Q := by
  have vr := aw_in_nI hr (show 4096 < 2 ^ 31 by decide)
  have rc : (nI r).toNatClampNeg = r := nI_clamp (by omega)
  obtain ⟨k1, k2, k3, k4⟩ := h
  refine aw_go rfl rfl (b_M_walkRow_0 ?_)
  rw [h65]
  refine m_runsW (g := 0) hS hM hk sz h0 h4 (Or.inl rfl) hE (fun I1 L1 hr1 => ?_)
  obtain ⟨w0, w1, w2, w3, w4, w5, w6, w7, w8, w9⟩ := hr1.w
  rw [au_s, if_neg (by decide)] at w8 w9
  rw [au_o (by decide)] at w9
  have f1 : FMr I I1 L L1 := (FMr.rf.u (Or.inr ⟨rfl, Or.inl rfl⟩)).tr (w0.mr (by rw [w9, au_o (by decide)]))
  have e48 : I1 69 48 = 0 := by rw [w0.2.1 48 (by decide) (by decide) (by decide) (by decide) (by decide), au_s]
  have e67 : I1 69 67 = I 69 67 := by rw [w0.2.1 67 (by decide) (by decide) (by decide) (by decide) (by decide), au_k (by decide)]
  have i1 : ∀ o, 93 ≤ o → I1 o = I o := fun o p => by rw [w0.1 o (by omega) (by omega) (by omega) (by omega) (by omega) (by omega) (by omega), au_o (by omega)]
  have l1 : ∀ o, 89 ≤ o → L1 o = L o := fun o p => by
    by_cases g : o = 89
    · subst g; exact w8
    · rw [w0.2.2.1 o (by omega) g]
  -- the rows before and this one
  have row : ∀ (I2 : Nat → Nat → Int32) (L2 : Nat → Nat → Int64), (∀ o q, 93 ≤ o → o ≤ 96 → q ≠ r → I2 o q = I1 o q) → (∀ o q, o = 91 ∨ o = 92 → q ≠ r → L2 o q = L1 o q) → I2 93 r = nI (eD (E r)).length → I2 94 r = nI (eB (E r)) → I2 95 r = eE (E r) → I2 96 r = eS (E r) → L2 91 r = decL (eD (E r)) → L2 92 r = setL (eT (E r)) →
      ∀ q, q < r + 1 → L2 91 q = decL (eD (E q)) ∧ L2 92 q = setL (eT (E q)) ∧ I2 93 q = nI (eD (E q)).length ∧ I2 94 q = nI (eB (E q)) ∧ I2 95 q = eE (E q) ∧ I2 96 q = eS (E q) := fun I2 L2 g1 g2 a3 a4 a5 a6 a1 a2 q hq => by
    by_cases g : q = r
    · subst g; exact ⟨a1, a2, a3, a4, a5, a6⟩
    · rw [g1 93 q (by decide) (by decide) g, g1 94 q (by decide) (by decide) g, g1 95 q (by decide) (by decide) g, g1 96 q (by decide) (by decide) g, g2 91 q (Or.inl rfl) g, g2 92 q (Or.inr rfl) g, i1 93 (by decide), i1 94 (by decide), i1 95 (by decide), i1 96 (by decide), l1 91 (by decide), l1 92 (by decide)]
      exact k1 q (by omega)
  have hys : ∀ s, eY (E r) s ≤ 1000 := fun s => by obtain ⟨-, -, -, l, -, -, y⟩ := hW.1 r; have := y s; omega
  refine b_M_walkRow_16 vr vr vr vr vr vr (fun q => ?_) (fun q => ?_)
  · have q : ¬ eE (E r) = 4 := fun z => q (w6.trans z)
    rw [rc, w1, w2, w3, w4, w6, w7]
    generalize eJ : aw_u (aw_u (aw_u (aw_u (aw_u I1 93 r (nI (eD (E r)).length)) 94 r (nI (eB (E r)))) 95 r (eE (E r))) 96 r (eS (E r))) 69 67 1 = J
    generalize eM : aw_u (aw_u L1 91 r (decL (eD (E r)))) 92 r (setL (eT (E r))) = M
    have fJ : FMr I1 J L1 M := by rw [← eJ, ← eM]; exact (((((((FMr.rf.u (Or.inl (by omega))).u (Or.inl (by omega))).u (Or.inl (by omega))).u (Or.inl (by omega))).u (Or.inr ⟨rfl, Or.inr rfl⟩)).l (Or.inl rfl)).l (Or.inr (Or.inl rfl)))
    have jo : ∀ o, o ≠ 69 → ¬ (93 ≤ o ∧ o ≤ 96) → J o = I1 o := fun o p1 p2 => by rw [← eJ, au_o p1, au_o (by omega), au_o (by omega), au_o (by omega), au_o (by omega)]
    have mo : ∀ o, o ≠ 91 → o ≠ 92 → M o = L1 o := fun o p1 p2 => by rw [← eM, au_o p2, au_o p1]
    refine l_M_mm (d := d) (ys := eY (E r)) (mn := fun s => mnW E s r) (mx := fun s => mxW E s r) hys (fun s => mn_le E s r) (fun s => Nat.le_trans (mx_le h4 hW s r) (by decide)) (I0 := J) (fun s hs => by rw [jo 100 (by decide) (by omega), jo 101 (by decide) (by omega), i1 100 (by decide), i1 101 (by decide)]; exact k3 s hs) (fun s hs => by rw [jo 88 (by decide) (by omega)]; exact w5 s hs) (fun I2 g1 g2 => ?_) 60 0 J rfl (fun _ _ _ => rfl) (fun _ _ => ⟨rfl, rfl⟩) (fun _ h => absurd h (Nat.not_lt_zero _))
    have f2 : FMr I I2 L M := (f1.tr fJ).tr ⟨fun o p1 p2 p3 => g1 o (by omega) (by omega), fun k _ _ _ _ _ _ _ => by rw [g1 69 (by decide) (by decide)], fun _ _ _ _ _ => rfl, fun _ _ _ => rfl⟩
    rw [f2.2.1 65 (by decide) (by decide) (by decide) (by decide) (by decide) (by decide) (by decide), h65]
    refine m_runsW (g := 1) hS (f2.c4 hM hS) hk ⟨by rw [f2.2.1 33 (by decide) (by decide) (by decide) (by decide) (by decide) (by decide) (by decide)]; exact sz.1, by rw [f2.2.1 34 (by decide) (by decide) (by decide) (by decide) (by decide) (by decide) (by decide)]; exact sz.2.1, by rw [f2.2.1 35 (by decide) (by decide) (by decide) (by decide) (by decide) (by decide) (by decide)]; exact sz.2.2⟩ h0 h4 (Or.inr rfl) hE (fun I3 L3 hr3 => b_M_walkRow_175 ?_)
    obtain ⟨v0, -, -, -, -, -, -, -, v8, v9⟩ := hr3.w
    rw [au_s, if_pos rfl] at v8
    rw [au_s, if_neg (by decide), au_o (by decide)] at v9
    have i3 : ∀ o, 93 ≤ o → I3 o = I2 o := fun o p => by rw [v0.1 o (by omega) (by omega) (by omega) (by omega) (by omega) (by omega) (by omega), au_o (by omega)]
    refine hQ _ _ ⟨row _ _ (fun o s p1 p2 p3 => ?_) (fun o s p1 p2 => ?_) ?_ ?_ ?_ ?_ ?_ ?_, fun k hk => ?_, fun s hs => ?_, ?_⟩ (FMr.u ((f2.u (Or.inr ⟨rfl, Or.inl rfl⟩)).tr (v0.mr (by rw [v9, au_o (by decide)]))) (Or.inr ⟨rfl, Or.inl rfl⟩)) (au_s _ _ _ _)
    · rw [au_o (by omega), i3 o p1, g1 o (by omega) (by omega), ← eJ, au_o (by omega), au_ok (Or.inr p3), au_ok (Or.inr p3), au_ok (Or.inr p3), au_ok (Or.inr p3)]
    · rw [v0.2.2.1 o (by omega) (by omega), ← eM, au_ok (Or.inr p2), au_ok (Or.inr p2)]
    · rw [au_o (by decide), i3 93 (by decide), g1 93 (by decide) (by decide), ← eJ, au_o (by decide), au_o (by decide), au_o (by decide), au_o (by decide), au_s]
    · rw [au_o (by decide), i3 94 (by decide), g1 94 (by decide) (by decide), ← eJ, au_o (by decide), au_o (by decide), au_o (by decide), au_s]
    · rw [au_o (by decide), i3 95 (by decide), g1 95 (by decide) (by decide), ← eJ, au_o (by decide), au_o (by decide), au_s]
    · rw [au_o (by decide), i3 96 (by decide), g1 96 (by decide) (by decide), ← eJ, au_o (by decide), au_s]
    · rw [v0.2.2.1 91 (by decide) (by decide), ← eM, au_o (by decide), au_s]
    · rw [v0.2.2.1 92 (by decide) (by decide), ← eM, au_s]
    · rw [v8, mayW, if_neg q]
      exact mayT_e _ (by rw [mo 89 (by decide) (by decide), l1 89 (by decide)]; exact k2 k hk)
    · rw [au_o (by decide), au_o (by decide), i3 100 (by decide), i3 101 (by decide), mnW, mxW, if_neg q, if_neg q]
      exact g2 s hs
    · rw [au_k (by decide), v0.2.1 67 (by decide) (by decide) (by decide) (by decide) (by decide), au_k (by decide), g1 69 (by decide) (by decide), ← eJ, au_s, anyW, if_neg q]; rfl
  · have q : eE (E r) = 4 := w6.symm.trans q
    rw [rc, w1, w2, w3, w4, w6, w7]
    refine hQ _ _ ⟨row _ _ (fun o s p1 p2 p3 => ?_) (fun o s p1 p2 => ?_) ?_ ?_ ?_ ?_ ?_ ?_, fun k hk => ?_, fun s hs => ?_, ?_⟩ (f1.tr ((((((FMr.rf.u (Or.inl (by omega))).u (Or.inl (by omega))).u (Or.inl (by omega))).u (Or.inl (by omega))).l (Or.inl rfl)).l (Or.inr (Or.inl rfl)))) ?_
    · rw [au_ok (Or.inr p3), au_ok (Or.inr p3), au_ok (Or.inr p3), au_ok (Or.inr p3)]
    · rw [au_ok (Or.inr p2), au_ok (Or.inr p2)]
    · rw [au_o (by decide), au_o (by decide), au_o (by decide), au_s]
    · rw [au_o (by decide), au_o (by decide), au_s]
    · rw [au_o (by decide), au_s]
    · rw [au_s]
    · rw [au_o (by decide), au_s]
    · rw [au_s]
    · rw [au_o (by decide), au_o (by decide), l1 89 (by decide), mayW, if_pos q]; exact k2 k hk
    · rw [au_o (by decide), au_o (by decide), au_o (by decide), au_o (by decide), au_o (by decide), au_o (by decide), au_o (by decide), au_o (by decide), i1 100 (by decide), i1 101 (by decide), mnW, mxW, if_pos q, if_pos q]; exact k3 s hs
    · rw [au_o (by decide), au_o (by decide), au_o (by decide), au_o (by decide), e67, anyW, if_pos q]; exact k4
    · rw [au_o (by decide), au_o (by decide), au_o (by decide), au_o (by decide)]; exact e48
end MROW
