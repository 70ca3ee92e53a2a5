/-! PART 9y: claim of both -/
theorem rdC_e (T : TD) (S : PT) : rdC T S = pb (pb (cts T S) (ctl T 501)) (fun S' => if tK T (ti S') = 1 then .ok S' else .error (1, ti S')) := by
  unfold rdC
  cases cts T S <;> rfl
theorem i32_nI (x : Int32) : x = nI x.toBitVec.toNat := by
  apply Int32.toBitVec_inj.mp
  show x.toBitVec = BitVec.ofNat 32 x.toBitVec.toNat
  rw [BitVec.ofNat_toNat, BitVec.setWidth_eq]
/-- what the reading of a claim leaves of the reference -/
def FRQc (I0 I : Nat → Nat → Int32) (L0 L : Nat → Nat → Int64) : Prop := (∀ o, ¬ (69 ≤ o ∧ o ≤ 83) → o ≠ 106 → o ≠ 107 → I o = I0 o) ∧ (∀ x, 33 ≤ x ∨ x = 1 → x ≠ 75 → I 69 x = I0 69 x) ∧ I 70 = I0 70 ∧ (∀ o k, ¬ (o = 69 ∧ k = 11) → L o k = L0 o k)
theorem GFR.ks {x : Nat} {I0 I : Nat → Nat → Int32} {L0 L : Nat → Nat → Int64} (h : GFR I0 I L0 L) (hx : x ≠ 5) : KSl x I0 I := by
  obtain ⟨f1, f2, f3, f4, f5, f6, f7⟩ := h
  exact ⟨fun j hj => f3 _ (by omega), ⟨by rw [f1 73 (by decide) (by decide) (by decide) (by decide) (by decide) (by decide) (by decide) (by decide) (by decide) (by decide) (by decide) (by decide) (by decide)], by rw [f1 74 (by decide) (by decide) (by decide) (by decide) (by decide) (by decide) (by decide) (by decide) (by decide) (by decide) (by decide) (by decide) (by decide)], (f4 x hx).1, (f4 x hx).2⟩, fun s hs => f5 _ (by omega), fun j hj => f6 _ (by omega)⟩
section MCLW
variable {X : aw_X} {d d2 : Nat} {Q : Option Value → aw_H → Prop} {I : Nat → Nat → Int32} {L : Nat → Nat → Int64} {D : Nat → Nat}
/-- orders alone are copied -/
theorem c_M_copyR {n s m : Nat} (hn : n ≤ 600) (hs : s ≤ 60) (h73 : I 73 5 = nI n) (h75 : I 75 5 = nI s) (h77 : ∀ j, j < s → I 77 (300 + j) = 0 ∨ I 77 (300 + j) = 1) (h76 : I 76 5 = nI m) (hbo : MBo I)
    (hQ : ∀ I', (∀ j, j < n → I' 71 (4800 + j) = I 71 (4000 + j) ∧ I' 72 (4800 + j) = I 72 (4000 + j)) → FRS 6 I I' → MBo I' → Q none (aw_s I' L D)) : aw_m X d y_M_copy [.ref 69, .int 5, .int 6] (aw_s I L D) Q := by
  have hm : MCd ((0, n, fun j => ((I 71 (4000 + j)).toBitVec.toNat, I 72 (4000 + j)), fun _ => [], fun _ => 0, 0, m, fun j => (I 78 (100 + j)).toBitVec.toNat, s, fun j => decide (I 77 (300 + j) = 1), fun _ => 0, (I 74 5).toBitVec.toNat, 0, fun _ => 0) : PT) 5 I := by
    refine ⟨h73, i32_nI _, h75, h76, fun j hj => ⟨i32_nI _, rfl⟩, fun j hj => ?_, fun j hj => i32_nI _⟩
    show I 77 (300 + j) = p_b (decide (I 77 (300 + j) = 1))
    rcases h77 j hj with g | g
    · rw [g]; rfl
    · rw [g]; rfl
  refine c_M_copy (a := 5) (b := 6) (by decide) (by decide) (by decide) hm hn hs hbo (fun I' h6 f b => hQ I' (fun j hj => ?_) f b)
  obtain ⟨a1, a2⟩ := h6.2.2.2.2.1 j hj
  exact ⟨a1.trans (i32_nI _).symm, a2⟩
theorem l_M_cl3 {n : Nat} (hn : n ≤ 20) {I0 : Nat → Nat → Int32} (hQ : ∀ I', (∀ o, o ≠ 106 → I' o = I0 o) → (∀ j, j < n → I' 106 j = I0 107 j) → Q (some (.int (nI n))) (aw_s (aw_u I' 69 75 (nI n)) L D)) :
    ∀ (m k : Nat) (I : Nat → Nat → Int32), k + m = n → (∀ o, o ≠ 106 → I o = I0 o) → (∀ j, j < k → I 106 j = I0 107 j) → aw_z X (d + 1) y_M_claim Q 149 [some (.ref 69), some (.int (nI n)), none, some (.int (nI k))] [] (aw_s I L D) := by
  intro m
  induction m with
  | zero =>
    intro k I e hf hj
    have ek : k = n := by omega
    subst ek
    have le : nI k ≤ nI k := by rw [nI_leI (by omega) (by omega)]; exact Nat.le_refl _
    exact b_M_claim_149 (fun _ => hQ I hf hj) (fun q => absurd le q) (fun q => absurd le q) (fun q => absurd le q)
  | succ m ih =>
    intro k I e hf hj
    have nle : ¬ nI n ≤ nI k := by rw [nI_leI (by omega) (by omega)]; omega
    refine b_M_claim_149 (fun q => absurd q nle) (fun _ => aw_in_nI (by omega) (by decide)) (fun _ => aw_in_nI (by omega) (by decide)) (fun _ => ?_)
    rw [nI_clamp (show k < 2 ^ 31 by omega), nI_1]
    refine ih (k + 1) _ (by omega) (fun o ho => by rw [au_o ho]; exact hf o ho) (fun j hj' => ?_)
    by_cases g : j = k
    · subst g; rw [au_s, hf 107 (by decide)]
    · rw [au_k g]; exact hj j (by omega)
theorem c_M_claim {bt : Nat → Int32} {z : Nat} {T : TD} {ps : Nat → Nat} {pg : Nat → PT} (hz : z ≤ 540) (h2 : I 69 2 = nI z) (hb : ∀ j, j < z → I 70 j = bt j) (hts : isToks bt z T.1 ps (tK T) (tV T) (tP T)) (hT : tFul T) (hsl : MSl pg I) (hbo : MBo I) (hpg : ∀ j, j < 4 → cn (pg j) ≤ 600 ∧ cS (pg j) ≤ 60)
    (hok : ∀ S I' L', rdC T PT0 = .ok S → I' 69 32 = 1 → (∀ j, j < 4 → MCd (pg j) j I') → MBo I' → FRQc I I' L L' → KSl 4 I I' → MCl S I' → I' 69 0 = 0 → I' 69 2 = 0 → I' 69 9 = 0 → Q (some (.int (nI (cK S)))) (aw_s I' L' D))
    (her : ∀ e I' L', rdC T PT0 = .error e → I' 69 32 = 1 → (∀ j, j < 4 → MCd (pg j) j I') → MBo I' → FRQc I I' L L' → KSl 4 I I' → KSl 6 I I' → I' 69 75 = I 69 75 → I' 106 = I 106 → I' 69 0 = 0 → I' 69 2 = 0 → I' 69 9 = e.1 → Q (some (.int (-1 - nI (tP T e.2)))) (aw_s I' L' D)) :
    aw_m X (d + 7) y_M_claim [.ref 69] (aw_s I L D) Q := by
  refine aw_go rfl rfl (b_M_claim_0 (aw_go rfl rfl (b_M_take_0 (b_M_claim_10 ?_))))
  generalize eI : aw_u (aw_u (aw_u I 69 0 0) 69 2 0) 69 3 (aw_u I 69 0 0 69 2) = I1
  have o1 : ∀ o, o ≠ 69 → I1 o = I o := fun o a => by rw [← eI, au_o a, au_o a, au_o a]
  have x1 : ∀ x, x ≠ 0 → x ≠ 2 → x ≠ 3 → I1 69 x = I 69 x := fun x a b c => by rw [← eI, au_k c, au_k b, au_k a]
  have z0 : I1 69 0 = 0 := by rw [← eI, au_k (by decide), au_k (by decide), au_s]
  have z2 : I1 69 2 = 0 := by rw [← eI, au_k (by decide), au_s]
  have z3 : I1 69 3 = nI z := by rw [← eI, au_s, au_k (by decide)]; exact h2
  have s1 : MSl pg I1 := by
    rcases hsl with ⟨a, b⟩ | ⟨a, b⟩
    · exact Or.inl ⟨by rw [x1 32 (by decide) (by decide) (by decide)]; exact a, fun j hj => (b j hj).ks (KSl.same (fun o h _ => o1 o (by omega))) (hpg j hj).1 (hpg j hj).2⟩
    · refine Or.inr ⟨by rw [x1 32 (by decide) (by decide) (by decide)]; exact a, fun j hj => ?_⟩
      rw [o1 74 (by decide), o1 75 (by decide), o1 76 (by decide), o1 72 (by decide)]; exact b j hj
  refine c_M_layEmpty s1 (fun I2 l2 p2 f2 => b_M_claim_17 ?_)
  have t2 : MTp I2 bt z := ⟨by rw [f2.2.1 3 (by decide)]; exact z3, hz, fun j hj => by rw [f2.1 70 (by decide) (by decide) (by decide), o1 70 (by decide)]; exact hb j hj⟩
  have k2 : ∀ x, 4 ≤ x → KSl x I I2 := fun x hx => (KSl.same (fun o h _ => o1 o (by omega))).tr (f2.ks hx)
  have b2 : MBo I2 := fun j hj => by rw [f2.1 77 (by decide) (by decide) (by decide), o1 77 (by decide)]; exact hbo j hj
  have i2 : ∀ o, ¬ (69 ≤ o ∧ o ≤ 83) → I2 o = I o := fun o ho => by rw [f2.1 o (by omega) (by omega) (by omega), o1 o (by omega)]
  -- what is as it was
  have C0 : ∀ I3 L3, GFR (aw_u (aw_u I2 69 29 5) 69 9 0) I3 L L3 → I3 69 32 = 1 ∧ (∀ x, x ≠ 5 → KSl x I2 I3) ∧ MBo I3 ∧ ((∀ o, ¬ (69 ≤ o ∧ o ≤ 83) → o ≠ 107 → I3 o = I o) ∧ (∀ x, 33 ≤ x ∨ x = 1 → I3 69 x = I 69 x) ∧ I3 70 = I 70 ∧ (∀ o k, ¬ (o = 69 ∧ k = 11) → L3 o k = L o k)) ∧ I3 69 0 = 0 ∧ I3 69 2 = 0 ∧ I3 69 9 = 0 := by
    intro I3 L3 fr
    have eo : ∀ o, o ≠ 69 → aw_u (aw_u I2 69 29 5) 69 9 0 o = I2 o := fun o a => by rw [au_o a, au_o a]
    have e69 : ∀ x, x ≠ 29 → x ≠ 9 → aw_u (aw_u I2 69 29 5) 69 9 0 69 x = I2 69 x := fun x a b => by rw [au_k b, au_k a]
    obtain ⟨g1, g2, g3, g4, g5, g6, g7⟩ := id fr
    refine ⟨by rw [g2 32 (by omega) (by omega) (by decide), e69 32 (by decide) (by decide)]; exact l2, fun x hx => ?_, fun j hj => ?_, ⟨fun o ho h107 => ?_, fun x hx => ?_, ?_, g7⟩, by rw [g2 0 (by omega) (by omega) (by decide), e69 0 (by decide) (by decide), f2.2.1 0 (by decide)]; exact z0, by rw [g2 2 (by omega) (by omega) (by decide), e69 2 (by decide) (by decide), f2.2.1 2 (by decide)]; exact z2, by rw [g2 9 (by omega) (by omega) (by decide), au_s]⟩
    · exact (KSl.same (x := x) (fun o p q => eo o (by omega))).tr (fr.ks hx)
    · by_cases q : 300 ≤ j ∧ j < 360 ∧ (I3 77 j = 0 ∨ I3 77 j = 1)
      · exact q.2.2
      · rw [g5 j q, eo 77 (by decide)]; exact b2 j hj
    · rw [g1 o (by omega) (by omega) (by omega) (by omega) (by omega) (by omega) (by omega) (by omega) (by omega) (by omega) (by omega) (by omega) h107, eo o (by omega)]; exact i2 o ho
    · rw [g2 x (by omega) (by omega) (by omega), e69 x (by omega) (by omega), f2.2.1 x (by omega), x1 x (by omega) (by omega) (by omega)]
    · rw [g1 70 (by decide) (by decide) (by decide) (by decide) (by decide) (by decide) (by decide) (by decide) (by decide) (by decide) (by decide) (by decide) (by decide), eo 70 (by decide), f2.1 70 (by decide) (by decide) (by decide)]
      exact o1 70 (by decide)
  -- a fault
  have bad : ∀ (e : Int32 × Nat) (I3 : Nat → Nat → Int32) (L3 : Nat → Nat → Int64), rdC T PT0 = .error e → MFc T (aw_u (aw_u I2 69 29 5) 69 9 0) L e I3 L3 → Q (some (.int (-1 - nI (tP T e.2)))) (aw_s I3 L3 D) := by
    intro e I4 L4 hR hF
    obtain ⟨I3, fr, rfl⟩ := hF
    obtain ⟨c1, c2, c3, c4, c5, c6, c7⟩ := C0 I3 L4 fr
    have u : ∀ x, x ≠ 9 → x ≠ 10 → aw_u (aw_u I3 69 9 e.1) 69 10 (nI (tP T e.2)) 69 x = I3 69 x := fun x a b => by rw [au_k b, au_k a]
    have uo : ∀ o, o ≠ 69 → aw_u (aw_u I3 69 9 e.1) 69 10 (nI (tP T e.2)) o = I3 o := fun o a => by rw [au_o a, au_o a]
    have kx : ∀ x, x ≠ 5 → KSl x I2 (aw_u (aw_u I3 69 9 e.1) 69 10 (nI (tP T e.2))) := fun x hx => ((c2 x hx).u (by omega)).u (by omega)
    exact her e _ L4 hR (by rw [u 32 (by decide) (by decide)]; exact c1) (fun j hj => (p2 j hj).ks (kx j (by omega)) (hpg j hj).1 (hpg j hj).2) (fun j hj => by rw [uo 77 (by decide)]; exact c3 j hj) ⟨fun o ho _ h107 => by rw [uo o (by omega)]; exact c4.1 o ho h107, fun x hx _ => by rw [u x (by omega) (by omega)]; exact c4.2.1 x hx, by rw [uo 70 (by decide)]; exact c4.2.2.1, c4.2.2.2⟩ ((k2 4 (by decide)).tr (kx 4 (by decide))) ((k2 6 (by decide)).tr (kx 6 (by decide))) (by rw [u 75 (by decide) (by decide)]; exact c4.2.1 75 (by omega)) (by rw [uo 106 (by decide)]; exact c4.1 106 (by omega) (by decide)) (by rw [u 0 (by decide) (by decide)]; exact c5) (by rw [u 2 (by decide) (by decide)]; exact c6) (by rw [au_k (by decide), au_s])
  refine m_begin (d := d + 4) t2 hts (fun I3 L3 h3 _ => b_M_claim_22 ?_)
  have h501 : T.1 ≤ 500 := hts.2.2.2.2
  have gr : ∀ (J : Nat → Nat → Int32) (LJ : Nat → Nat → Int64), GFR J J LJ LJ := fun J LJ => ⟨fun _ _ _ _ _ _ _ _ _ _ _ _ _ _ => rfl, fun _ _ _ _ => rfl, fun _ _ => ⟨rfl, rfl⟩, fun _ _ => ⟨rfl, rfl⟩, fun _ _ => rfl, fun _ _ => rfl, fun _ _ _ => rfl⟩
  refine l_M_claim (X := X) (d := d + 1) (Q := Q) (D := D) (T := T) (bt := bt) (z := z) (ps := ps) hts hT (I0 := aw_u (aw_u I2 69 29 5) 69 9 0) (L0 := L) 501 PT0 (aw_u (aw_u I2 69 29 5) 69 9 0) L I3 L3 (by show T.1 < 0 + 501; omega) CI_0 h3 (fun t ht => absurd ht (Nat.not_lt_zero t)) (gr _ _) (fun S J LJ I4 L4 hR hci hk0 h4 hdt hgj hgf => ?_) (fun e I4 L4 hR hF => bad e I4 L4 (by rw [rdC_e, hR]; rfl) hF)
  obtain ⟨c1, c2, c3, c4, c5, c6, c7⟩ := C0 I4 L4 hgf
  have n1 : (I4 69 6 = 0 ↔ tK T (ti S) = 1) := h4.num.2.2.1
  have k20 := hci.2.2.1
  have hcn : cn S ≤ 600 := by
    have a : ti S ≤ T.1 := h4.2.2.1.1
    have b := hci.2.1
    omega
  refine b_M_claim_26 (fun _ q => ?_) (fun _ q => ?_) (fun x => absurd rfl x) (fun x => absurd rfl x)
  · have q1 := n1.mp q
    have hRC : rdC T PT0 = .ok S := by rw [rdC_e, hR, pb_ok, if_pos q1]
    have p30 : I4 69 30 = nI (cn S - cK S) := h4.2.2.2.2.2.2.2.2.2.2.1
    have p75 : I4 75 5 = nI (cS S) := h4.2.2.2.2.2.2.2.2.2.2.2.1
    have p76 : I4 76 5 = nI (cM S) := h4.2.2.2.2.2.2.2.2.2.2.2.2.1
    have p60 : cS S ≤ 60 := h4.2.2.2.2.2.2.2.2.2.2.2.2.2.2.2.2.2.2.1
    rw [p30]
    refine c_M_copyR (n := cn S - cK S) (s := cS S) (m := cM S) (by omega) p60 (au_s _ _ _ _) (by rw [au_o (by decide)]; exact p75) (fun j hj => by rw [au_o (by decide)]; exact c3 _ (by omega)) (by rw [au_o (by decide)]; exact p76) (fun j hj => by rw [au_o (by decide)]; exact c3 j hj) (fun I5 hc5 f5 b5 => b_M_claim_147 ?_)
    have i5 : ∀ o, ¬ (71 ≤ o ∧ o ≤ 78) → I5 o = I4 o := fun o ho => by rw [f5.1 o ho, au_o (by omega)]
    refine l_M_cl3 (n := cK S) k20 (I0 := I5) (fun I6 f6 h6 => ?_) (cK S) 0 I5 (by omega) (fun _ _ => rfl) (fun j hj => absurd hj (Nat.not_lt_zero j))
    have u6 : ∀ o, o ≠ 69 → o ≠ 106 → aw_u I6 69 75 (nI (cK S)) o = I5 o := fun o a b => by rw [au_o a, f6 o b]
    have x6 : ∀ x, x ≠ 75 → aw_u I6 69 75 (nI (cK S)) 69 x = I4 69 x := fun x hx => by rw [au_k hx, f6 69 (by decide), i5 69 (by omega)]
    have kx : ∀ x, x ≠ 5 → x ≠ 6 → KSl x I2 (aw_u I6 69 75 (nI (cK S))) := fun x h5 hx => (((c2 x h5).u (o := 73) (k := 5) (v := nI (cn S - cK S)) (by omega)).tr (f5.ks hx)).tr (KSl.same (fun o p q => u6 o (by omega) (by omega)))
    refine hok S _ L4 hRC (by rw [x6 32 (by decide)]; exact c1) (fun j hj => (p2 j hj).ks (kx j (by omega) (by omega)) (hpg j hj).1 (hpg j hj).2) (fun j hj => by rw [u6 77 (by decide) (by decide)]; exact b5 j hj) ⟨fun o ho h106 h107 => ?_, fun x hx h75 => by rw [x6 x h75]; exact c4.2.1 x hx, ?_, c4.2.2.2⟩ ((k2 4 (by decide)).tr (kx 4 (by decide) (by decide))) ⟨au_s _ _ _ _, fun t ht => ⟨?_, fun j j1 j2 => ?_⟩⟩ (by rw [x6 0 (by decide)]; exact c5) (by rw [x6 2 (by decide)]; exact c6) (by rw [x6 9 (by decide)]; exact c7)
    · rw [u6 o (by omega) h106, i5 o (by omega)]; exact c4.1 o ho h107
    · rw [u6 70 (by decide) (by decide), i5 70 (by omega)]; exact c4.2.2.1
    · rw [au_o (by decide), h6 t ht, i5 107 (by omega)]; exact (hdt t ht).1
    · have bh := CI.beh hci.2.2.2.2.2.2 (cK S - (t + 1)) t (by omega)
      have tg := (hci.2.2.2.2.2.2 t ht).1
      obtain ⟨e1, e2⟩ := hc5 (j - t) (by omega)
      rw [u6 71 (by decide) (by decide), u6 72 (by decide) (by decide), e1, e2, au_o (by decide), au_o (by decide)]
      exact (hdt t ht).2 j j1 j2
  · have q1 : ¬ tK T (ti S) = 1 := fun x => q (n1.mpr x)
    have hRC : rdC T PT0 = .error (1, ti S) := by rw [rdC_e, hR, pb_ok, if_neg q1]
    refine m_bad h4 (fun _ => rfl) (fun I5 hf => b_M_claim_122 ?_)
    obtain ⟨I6, fr, rfl⟩ := hf
    have g := hgj.tr fr.g
    have hm : MFc T (aw_u (aw_u I2 69 29 5) 69 9 0) L (1, ti S) (aw_u (aw_u I6 69 9 1) 69 10 (nI (tP T (ti S)))) L4 := ⟨I6, g, rfl⟩
    have e10 : aw_u (aw_u I6 69 9 1) 69 10 (nI (tP T (ti S))) 69 10 = nI (tP T (ti S)) := au_s _ _ _ _
    have t := bad _ _ L4 hRC hm
    show Q (some (.int (-1 - aw_u (aw_u I6 69 9 1) 69 10 (nI (tP T (ti S))) 69 10))) _
    rw [e10]; exact t
end MCLW
