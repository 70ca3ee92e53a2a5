/-! PART a4: the class: the least proof told; a proof checked -/
theorem shr31 {q s : Nat} (hs : s ≤ 31) (hq : q < 2 ^ 32) : ((nI q).toUInt32 >>> ((nI s).toUInt32 &&& Int32.toUInt32 31)).toInt32 = nI (q / 2 ^ s) := by
  have e : ((nI s).toUInt32 &&& Int32.toUInt32 31).toNat = s := (show ∀ s, s < 32 → ((nI s).toUInt32 &&& Int32.toUInt32 31).toNat = s by decide +kernel) s (by omega)
  have hd : q / 2 ^ s ≤ q := Nat.div_le_self _ _
  apply Int32.toBitVec_inj.mp
  apply BitVec.eq_of_toNat_eq
  rw [pk_tn (by omega)]
  show ((nI q).toUInt32 >>> ((nI s).toUInt32 &&& Int32.toUInt32 31)).toNat = _
  rw [UInt32.toNat_shiftRight, e]
  show (nI q).toBitVec.toNat >>> (s % 32) = _
  rw [pk_tn hq, Nat.shiftRight_eq_div_pow, Nat.mod_eq_of_lt (show s < 32 by omega)]
/-- parts that wait, whether or not there are proofs -/
abbrev okW (n : Nat) (st : List Nat) : Prop := okS n 1 (fun _ => (0, 0)) st
theorem okW_half {n p j : Nat} {st : List Nat} (h : okW n (p :: st)) (hj : j < n) (h2 : dg p j = 2) : okW n (h0 p j :: h1 p j :: st) := by
  obtain ⟨a1, a2, a3, a4⟩ := h
  have c0 := fcn_h0 (n := n) h2 hj
  have c1 := fcn_h1 (n := n) h2 hj
  have l0 := h0_lt h2
  have l1 := h1_lt h2
  exact ⟨by omega, Nat.one_pos, by show st.length + 1 + _ ≤ n; omega, by omega, Nat.one_pos, by omega, a4⟩
/-- the place of the first byte that is wrong: k: the next one's place -/
def ckF (n ts : Nat) (N : Nat → Nat) (b : Nat → Nat) : Nat → Nat → List Nat → Int32
  | 0, k, st => if st = [] then -1 else nI k
  | _ + 1, k, [] => nI k
  | m + 1, k, p :: st =>
    if 100 ≤ b k then (if b k - 100 < ts ∧ N p / 2 ^ (b k - 100) % 2 = 1 then ckF n ts N b m (k + 1) st else nI k)
    else if b k < n ∧ dg p (b k) = 2 then ckF n ts N b m (k + 1) (h0 p (b k) :: h1 p (b k) :: st) else nI k
section KCHK
variable {X : aw_X} {d : Nat} {Q : Option Value → aw_H → Prop} {I : Nat → Nat → Int32} {L : Nat → Nat → Int64} {D : Nat → Nat} {S : PT} {c B T O : Nat}
theorem l_Pf_find {n w : Nat} {N : Nat → Nat} {f : Nat → Nat × Nat} (hn : n = B * (T + O)) (h8 : n ≤ 8) (hN20 : ∀ p, N p < 2 ^ 20) (hf0 : isLV n 100000 N f) (hfl : ∀ p, (f p).1 ≤ 100000) (hw : w + 1 = 3 ^ n) {I0 : Nat → Nat → Int32} {L0 : Nat → Nat → Int64}
    (hQ1 : (f w).1 < 100000 → ∀ I' L', KFq I0 I' L0 L' → (∀ p, p < 3 ^ n → I' 26 p = kb N f p) → aw_m X (d + 5) y_Pf_writeDown [.ref 23, .int (nI w)] (aw_s I' L' D) (fun r A => aw_z X (d + 6) y_Pf_find Q 59 [some (.ref 23), none, none, none] (r.toList ++ []) A))
    (hQ0 : ¬ (f w).1 < 100000 → ∀ I' L', KFq I0 I' L0 L' → Q (some (.int (-1))) (aw_s I' L' D)) :
    ∀ (m k : Nat) (I : Nat → Nat → Int32) (L : Nat → Nat → Int64), k + m = 3 ^ n → KIc S c B T O I → KFq I0 I L0 L → (∀ p, p < 3 ^ n → I 24 p = nI (N p)) → (∀ p, p < k → I 25 p = nI (f p).1 ∧ I 26 p = kb N f p) →
      aw_z X (d + 6) y_Pf_find Q 12 [some (.ref 23), none, some (.int (nI (3 ^ n))), some (.int (nI k))] [] (aw_s I L D) := by
  have h3 : 3 ^ n ≤ 3 ^ 8 := Nat.pow_le_pow_right (by decide) h8
  have h38 : 3 ^ 8 = 6561 := by decide
  intro m
  induction m with
  | zero =>
    intro k I L e h fr h24 hk
    have ek : k = 3 ^ n := by omega
    subst ek
    have le : nI (3 ^ n) ≤ nI (3 ^ n) := by rw [nI_leI (by omega) (by omega)]; exact Nat.le_refl _
    have e1 : nI (3 ^ n) - 1 = nI w := by rw [show (1 : Int32) = nI 1 from rfl, pk_sub (p3 n), ← hw]; rfl
    refine b_Pf_find_12 (fun _ => b_Pf_find_35 ?_) (fun q => absurd le q) (fun q => absurd le q)
    rw [e1]
    refine c_valueAtN (N := 6561) (by decide) rfl (by decide) (by omega) ?_
    rw [(hk w (by omega)).1]
    have cl : (nI (f w).1 < (100000 : Int32)) = ((f w).1 < 100000) := nI_lt' (b := 100000) (by have := hfl w; omega) (by decide)
    have B0 := @b_Pf_find_45 X (d + 5) Q I L D (nI (3 ^ n)) (nI (f w).1)
    rw [cl, e1] at B0
    exact B0 (fun q => hQ1 q I L fr (fun p hp => (hk p hp).2)) (fun q => hQ0 q I L fr)
  | succ m ih =>
    intro k I L e h fr h24 hk
    have nle : ¬ nI (3 ^ n) ≤ nI k := by rw [nI_leI (by omega) (by omega)]; omega
    have nle2 : ¬ (6561 : Int32) ≤ nI k := by rw [show (6561 : Int32) = nI 6561 from rfl, nI_leI (by decide) (by omega)]; omega
    have eb := h.bits
    rw [← hn] at eb
    refine b_Pf_find_12 (fun q => absurd q nle) (fun _ q => absurd q nle2) (fun _ _ => c_Pf_choose (d := d + 3) (by omega) h8 hf0 (hN20 k) eb (h24 k (by omega)) (fun q hq => ⟨(hk q hq).1, hfl q⟩) (fun I1 f1 e25 e26 => b_Pf_find_29 ?_))
    rw [nI_1]
    refine ih (k + 1) I1 L (by omega) (h.q (f1.q (L := L))) (fr.tr f1.q) (fun p hp => by rw [f1 24 p (by omega)]; exact h24 p hp) (fun p hp => ?_)
    by_cases g : p = k
    · subst g; exact ⟨e25, e26⟩
    · rw [f1 25 p (by omega), f1 26 p (by omega)]; exact hk p (by omega)
theorem c_Pf_find {n w Bv : Nat} {N : Nat → Nat} {f g : Nat → Nat × Nat} (hn : n = B * (T + O)) (h8 : n ≤ 8) (hN : isNN n (fR S B T) N) (hf0 : isLV n 100000 N f) (hl : ∀ p, lvP n 100000 Bv N f g p) (hw : w + 1 = 3 ^ n) (h : KIc S c B T O I)
    (hQ1 : (f w).1 < 100000 → ∀ I' L', KFw I I' L L' → I' 23 8 = nI (wrL N f 511 [w]).length → (∀ j, j < (wrL N f 511 [w]).length → I' 28 j = (wrL N f 511 [w]).getD j 0) → Q (some (.int (nI (wrL N f 511 [w]).length))) (aw_s I' L' D))
    (hQ0 : ¬ (f w).1 < 100000 → ∀ I' L', KFq I I' L L' → Q (some (.int (-1))) (aw_s I' L' D)) : aw_m X (d + 6) y_Pf_find [.ref 23, .ref c] (aw_s I L D) Q := by
  have hN20 := nn_lt (fR_lt (B := B) (T := T) h.1) hN
  have hfl : ∀ p, (f p).1 ≤ 100000 := fun p => (hl p).le h8 (by decide)
  refine aw_go rfl rfl (b_Pf_find_0 (c_Pf_fill (d := d) hn h8 hN h (fun I1 L1 f1 h24 => b_Pf_find_5 (c_Pf_parts (d := d + 4) h8 (by rw [hn]; exact (h.q f1).bits) (b_Pf_find_9 ?_)))))
  refine l_Pf_find (d := d) (I0 := I) (L0 := L) hn h8 hN20 hf0 hfl hw (fun hA I2 L2 f2 h26 => c_Pf_write (d := d + 2) h8 hN20 hl (by omega) hA h26 (fun I3 f3 e8 e28 => b_Pf_find_59 ?_)) hQ0 (3 ^ n) 0 I1 L1 (by omega) (h.q f1) f1 h24 (fun p hp => absurd hp (Nat.not_lt_zero p))
  rw [e8]
  exact hQ1 hA I3 L2 (f2.w.tr f3) e8 e28
theorem c_Pf_follow {n p b ts : Nat} {N : Nat → Nat} {st : List Nat} (h8 : n ≤ 8) (eb : I 1 0 * (I 1 1 + I 1 2) = nI n) (hN20 : N p < 2 ^ 20) (h24 : I 24 p = nI (N p)) (hp : p < 6561) (hb : b < 256) (ht : ts ≤ 20) (hw : KWs I st) (hl : st.length < 15)
    (hQ1 : 100 ≤ b → b - 100 < ts ∧ N p / 2 ^ (b - 100) % 2 = 1 → Q (some (.int 1)) (aw_s I L D)) (hQ2 : ¬ 100 ≤ b → b < n ∧ dg p b = 2 → ∀ I', KW1 I I' → KWs I' (h0 p b :: h1 p b :: st) → Q (some (.int 1)) (aw_s I' L D))
    (hQ0 : (100 ≤ b ∧ ¬ (b - 100 < ts ∧ N p / 2 ^ (b - 100) % 2 = 1)) ∨ (¬ 100 ≤ b ∧ ¬ (b < n ∧ dg p b = 2)) → Q (some (.int 0)) (aw_s I L D)) : aw_m X (d + 3) y_Pf_follow [.ref 23, .int (nI p), .int (nI b), .int (nI ts)] (aw_s I L D) Q := by
  have c100 : (nI b < (100 : Int32)) = (b < 100) := nI_lt' (b := 100) (by omega) (by decide)
  have B0 := @b_Pf_follow_0 X (d + 2) Q I L D (nI p) (nI b) (nI ts)
  rw [c100] at B0
  refine aw_go rfl rfl (B0 (fun q => ?_) (fun q q2 => ?_) (fun q q2 => ?_))
  · refine aw_go rfl rfl (b_Sz_rowBits_0 ?_)
    rw [eb]
    have cn : (nI n ≤ nI b) = (n ≤ b) := nI_le' (by omega) (by omega)
    have B1 := @b_Pf_follow_49 X (d + 2) Q I L D (nI p) (nI b) (nI n) (nI b)
    rw [cn] at B1
    refine B1 (fun q2 => hQ0 (Or.inr ⟨by omega, by omega⟩)) (fun q2 => c_Pf_digit (d := d + 1) hp (by omega) ?_)
    have c2 : (nI (dg p b) = 2) = (dg p b = 2) := eqI (k := 2) (by have := dg_lt p b; omega) (by decide)
    have B2 := @b_Pf_follow_57 X (d + 2) Q I L D (nI p) (nI b) (nI (dg p b))
    rw [c2] at B2
    exact B2 (fun q3 => c_Pf_halves (d := d) hw hl (by omega) q3 (fun I1 f1 w1 => b_Pf_follow_69 (hQ2 (by omega) ⟨by omega, q3⟩ I1 f1 w1))) (fun q3 => hQ0 (Or.inr ⟨by omega, fun x => q3 x.2⟩))
  · have e1 : nI b - 100 = nI (b - 100) := by rw [show (100 : Int32) = nI 100 from rfl, pk_sub (by omega)]
    rw [e1, nI_leI (by omega) (by omega)] at q2
    exact hQ0 (Or.inl ⟨by omega, by omega⟩)
  · have e1 : nI b - 100 = nI (b - 100) := by rw [show (100 : Int32) = nI 100 from rfl, pk_sub (by omega)]
    rw [e1] at q2 ⊢
    rw [nI_leI (by omega) (by omega)] at q2
    refine c_valueAtN (N := 6561) (by decide) rfl (by decide) hp ?_
    rw [h24]
    have hd : N p / 2 ^ (b - 100) ≤ N p := Nat.div_le_self _ _
    have B1 := @b_Pf_follow_26 X (d + 2) Q I L D (nI (b - 100)) (nI (N p))
    rw [shr31 (by omega) (by omega), and1 (by omega)] at B1
    have c1 : (nI (N p / 2 ^ (b - 100) % 2) = (1 : Int32)) = (N p / 2 ^ (b - 100) % 2 = 1) := eqI (k := 1) (by omega) (by decide)
    rw [c1] at B1
    exact B1 (fun q3 => hQ0 (Or.inl ⟨by omega, fun x => q3 x.2⟩)) (fun q3 => hQ1 (by omega) ⟨by omega, q3⟩)
theorem l_Pf_wrong {n z : Nat} {N b : Nat → Nat} {r : Int32} (hn : n = B * (T + O)) (h8 : n ≤ 8) (hN20 : ∀ p, N p < 2 ^ 20) (hb : ∀ j, j < z → b j < 256) {I0 : Nat → Nat → Int32} {L0 : Nat → Nat → Int64} (hQ : ∀ I', KFq I0 I' L0 L → Q (some (.int r)) (aw_s I' L D)) :
    ∀ (m k : Nat) (st : List Nat) (I : Nat → Nat → Int32), k + m = z → KIc S c B T O I → KFq I0 I L0 L → KTp I (fun j => nI (b j)) z → (∀ p, p < 3 ^ n → I 24 p = nI (N p)) → okW n st → KWs I st → ckF n (cK S) N b m k st = r →
      aw_z X (d + 4) y_Pf_firstWrong Q 22 [some (.ref 23), some (.ref c), some (.ref 2), some (.int (nI k))] [] (aw_s I L D) := by
  have h3 : 3 ^ n ≤ 3 ^ 8 := Nat.pow_le_pow_right (by decide) h8
  have h38 : 3 ^ 8 = 6561 := by decide
  have len0 : ∀ (st : List Nat) (I : Nat → Nat → Int32), okW n st → KWs I st → (I 23 6 = 0 ↔ st = []) := fun st I ho hw => by
    have := okS_len ho
    rw [hw.1, show (0 : Int32) = nI 0 from rfl, nI_eq (by omega) (by decide)]
    exact ⟨fun x => List.length_eq_zero_iff.mp x, fun x => by rw [x]; rfl⟩
  intro m
  induction m with
  | zero =>
    intro k st I e h fr ht h24 ho hw hr
    have ek : k = z := by omega
    subst ek
    have z540 := ht.2.1
    have le : I 2 1 ≤ nI k := by rw [ht.1, nI_leI (by omega) (by omega)]; exact Nat.le_refl _
    have l0 := len0 st I ho hw
    rw [ckF] at hr
    refine b_Pf_firstWrong_22 (fun _ q => ?_) (fun _ q => ?_) (fun q => absurd le q) (fun q => absurd le q)
    · rw [if_neg (fun x => q (l0.mpr x))] at hr
      rw [ht.1, hr]; exact hQ I fr
    · rw [if_pos (l0.mp q)] at hr
      rw [hr]; exact hQ I fr
  | succ m ih =>
    intro k st I e h fr ht h24 ho hw hr
    have z540 := ht.2.1
    have nle : ¬ I 2 1 ≤ nI k := by rw [ht.1, nI_leI (by omega) (by omega)]; omega
    have l0 := len0 st I ho hw
    have k20 := h.1.2.1
    have eb := h.bits
    rw [← hn] at eb
    cases st with
    | nil =>
      rw [ckF] at hr
      exact b_Pf_firstWrong_22 (fun q => absurd q nle) (fun q => absurd q nle) (fun _ _ => by rw [hr]; exact hQ I fr) (fun _ q => absurd (l0.mpr rfl) q)
    | cons p st =>
      have hlen := okS_len ho
      simp only [List.length_cons] at hlen
      have hp3 := ho.1
      refine b_Pf_firstWrong_22 (fun q => absurd q nle) (fun q => absurd q nle) (fun _ q => absurd (l0.mp q) (by simp)) (fun _ _ => c_Pf_pop hw (by omega) (fun I1 f1 w1 => b_Pf_firstWrong_42 ?_))
      have t1 : KTp I1 (fun j => nI (b j)) z := ⟨by rw [f1.1 2 (by decide) (by decide)]; exact ht.1, ht.2.1, fun j hj => by rw [f1.1 3 (by decide) (by decide)]; exact ht.2.2 j hj⟩
      have q1 : KFq I I1 L L := f1.q
      have h1' := h.q q1
      refine c_Tp_byteAt t1 (by omega) (b_Pf_firstWrong_47 h.2.1 ?_)
      rw [h1'.2.2.1.2.1]
      have hr' := hr
      rw [ckF] at hr'
      have go : ∀ (st' : List Nat) (I2 : Nat → Nat → Int32), KW1 I1 I2 → KWs I2 st' → okW n st' → ckF n (cK S) N b m (k + 1) st' = r → aw_z X (d + 4) y_Pf_firstWrong Q 22 [some (.ref 23), some (.ref c), some (.ref 2), some (.int (nI k + 1))] [] (aw_s I2 L D) := fun st' I2 f2 w2 o2 er => by
        have q2 : KFq I I2 L L := (f1.tr f2).q
        rw [nI_1]
        exact ih (k + 1) st' I2 (by omega) (h.q q2) (fr.tr q2) ⟨by rw [f2.1 2 (by decide) (by decide)]; exact t1.1, ht.2.1, fun j hj => by rw [f2.1 3 (by decide) (by decide)]; exact t1.2.2 j hj⟩ (fun p hp => by rw [f2.1 24 (by decide) (by decide), f1.1 24 (by decide) (by decide)]; exact h24 p hp) o2 w2 er
      refine c_Pf_follow (d := d) (ts := cK S) (N := N) h8 (by have := h1'.bits; rwa [← hn] at this) (hN20 p) (by rw [f1.1 24 (by decide) (by decide)]; exact h24 p hp3) (by omega) (hb k (by omega)) k20 w1 (by omega) (fun g1 g2 => b_Pf_firstWrong_54 (fun _ => ?_) (fun x => absurd x (by decide))) (fun g1 g2 I2 f2 w2 => b_Pf_firstWrong_54 (fun _ => ?_) (fun x => absurd x (by decide))) (fun g => b_Pf_firstWrong_54 (fun x => absurd rfl x) (fun _ => ?_))
      · rw [if_pos g1, if_pos g2] at hr'
        exact go st I1 KW1.rf w1 ho.2.2.2 hr'
      · rw [if_neg g1, if_pos g2] at hr'
        exact go _ I2 f2 w2 (okW_half ho g2.1 g2.2) hr'
      · have er : nI k = r := by
          rcases g with ⟨g1, g2⟩ | ⟨g1, g2⟩
          · rw [if_pos g1, if_neg g2] at hr'; exact hr'
          · rw [if_neg g1, if_neg g2] at hr'; exact hr'
        rw [er]; exact hQ I1 (fr.tr q1)
theorem c_Pf_wrong {n w z : Nat} {N b : Nat → Nat} (hn : n = B * (T + O)) (h8 : n ≤ 8) (hN : isNN n (fR S B T) N) (hw : w + 1 = 3 ^ n) (hb : ∀ j, j < z → b j < 256) (h : KIc S c B T O I) (ht : KTp I (fun j => nI (b j)) z)
    (hQ : ∀ I' L', KFq I I' L L' → Q (some (.int (ckF n (cK S) N b z 0 [w]))) (aw_s I' L' D)) : aw_m X (d + 6) y_Pf_firstWrong [.ref 23, .ref c, .ref 2] (aw_s I L D) Q := by
  have hN20 := nn_lt (fR_lt (B := B) (T := T) h.1) hN
  have e1 : nI (3 ^ n) - 1 = nI w := by rw [show (1 : Int32) = nI 1 from rfl, pk_sub (p3 n), ← hw]; rfl
  have fc := fcn_le w n
  refine aw_go rfl rfl (b_Pf_firstWrong_0 (c_Pf_fill (d := d) hn h8 hN h (fun I1 L1 f1 h24 => b_Pf_firstWrong_5 ?_)))
  have fu : KFq I1 (aw_u I1 23 6 0) L1 L1 := KFq.u (Or.inr (Or.inr (Or.inr (Or.inr ⟨rfl, rfl⟩))))
  refine c_Pf_parts (d := d + 4) h8 (by rw [hn]; exact ((h.q f1).q fu).bits) (b_Pf_firstWrong_15 ?_)
  rw [e1]
  refine c_Pf_push (st := []) ⟨au_s _ _ _ _, trivial⟩ (by decide) (fun I2 f2 w2 => b_Pf_firstWrong_20 ?_)
  have q2 : KFq I I2 L L1 := (f1.tr fu).tr f2.q
  have i2 : ∀ o, o = 2 ∨ o = 3 → I2 o = I o := fun o ho => q2.1 o (by omega) (by omega) (by omega) (by omega) (by omega) (by omega) (by omega) (by omega) (by omega) (by omega) (by omega)
  exact l_Pf_wrong (d := d + 2) (I0 := I) (L0 := L) hn h8 hN20 hb (fun I3 f3 => hQ I3 L1 f3) z 0 [w] I2 (by omega) (h.q q2) q2 ⟨by rw [i2 2 (Or.inl rfl)]; exact ht.1, ht.2.1, fun j hj => by rw [i2 3 (Or.inr rfl)]; exact ht.2.2 j hj⟩ (fun p hp => by rw [f2.1 24 (by decide) (by decide), au_o (by decide)]; exact h24 p hp) ⟨by omega, Nat.one_pos, by show 0 + _ ≤ n; omega, trivial⟩ w2 rfl
end KCHK
