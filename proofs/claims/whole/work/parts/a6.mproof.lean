/-! PART a6: the reference writes its proof down; checks one -/
section MPRF
variable {X : aw_X} {d : Nat} {Q : Option Value → aw_H → Prop} {I : Nat → Nat → Int32} {L : Nat → Nat → Int64} {D : Nat → Nat} {S : PT} {B T O : Nat}
/-- what the writing of a proof leaves -/
def MFw (I0 I : Nat → Nat → Int32) : Prop := (∀ o, o ≠ 69 → o ≠ 112 → o ≠ 113 → I o = I0 o) ∧ ∀ k, k ≠ 83 → I 69 k = I0 69 k
theorem l_M_write {n : Nat} {N : Nat → Nat} {f g : Nat → Nat × Nat} {Lf : List Int32} (h8 : n ≤ 8) (hN20 : ∀ p, N p < 2 ^ 20) (hl : ∀ p, lvP n 100000 1000000 N f g p) {I0 : Nat → Nat → Int32} (hpw : RPw I0) (h108 : ∀ p, p < 3 ^ n → I0 108 p = nI (N p)) (h110 : ∀ p, p < 3 ^ n → I0 110 p = cc N g p)
    (hQ : ∀ I', MFw I0 I' → I' 69 83 = nI Lf.length → (∀ j, j < Lf.length → I' 112 j = Lf.getD j 0) → Q (some (.int (nI Lf.length))) (aw_s I' L D)) :
    ∀ (m : Nat) (st : List Nat) (pre : List Int32) (I : Nat → Nat → Int32), wg n st ≤ m → pre.length + wg n st ≤ 511 → okS n 100000 f st → PL (I 113) st → MFw I0 I → (∀ j, j < pre.length → I 112 j = pre.getD j 0) → pre ++ wrL N f m st = Lf →
      aw_z X (d + 2) y_M_proof Q 63 [some (.ref 69), none, some (.int (nI pre.length)), some (.int (nI st.length)), none, none] [] (aw_s I L D) := by
  have h3 : 3 ^ n ≤ 3 ^ 8 := Nat.pow_le_pow_right (by decide) h8
  have h38 : 3 ^ 8 = 6561 := by decide
  have fin : ∀ (pre : List Int32) (I : Nat → Nat → Int32), MFw I0 I → (∀ j, j < pre.length → I 112 j = pre.getD j 0) → pre = Lf → aw_z X (d + 2) y_M_proof Q 63 [some (.ref 69), none, some (.int (nI pre.length)), some (.int (nI ([] : List Nat).length)), none, none] [] (aw_s I L D) := fun pre I fr e12 ep => by
    subst ep
    have z : nI ([] : List Nat).length ≤ 0 := by decide
    exact b_M_proof_63 (fun _ => hQ _ ⟨fun o a b c => by rw [au_o a]; exact fr.1 o a b c, fun k a => by rw [au_k a]; exact fr.2 k a⟩ (au_s _ _ _ _) (fun j hj => by rw [au_o (by decide)]; exact e12 j hj)) (fun q => absurd z q) (fun q => absurd z q) (fun q => absurd z q) (fun q => absurd z q) (fun q => absurd z q) (fun q => absurd z q) (fun q => absurd z q) (fun q => absurd z q) (fun q => absurd z q) (fun q => absurd z q) (fun q => absurd z q)
  intro m
  induction m with
  | zero =>
    intro st pre I hm hpl ho hw fr e12 ep
    cases st with
    | nil => exact fin pre I fr e12 (by rw [← ep]; exact (List.append_nil _).symm)
    | cons p st => have := wg_pos n p st; omega
  | succ m ih =>
    intro st pre I hm hpl ho hw fr e12 ep
    cases st with
    | nil => exact fin pre I fr e12 (by rw [← ep]; exact (List.append_nil _).symm)
    | cons p st =>
      have wp := wg_pos n p st
      have hlen := okS_len ho
      simp only [List.length_cons] at hlen
      have a1 := ho.1
      have hp : p < 6561 := by omega
      have c0 : ¬ (nI (st.length + 1) ≤ 0) := by rw [show (0 : Int32) = nI 0 from rfl, nI_leI (by omega) (by decide)]; omega
      have e1 : nI (st.length + 1) + (-1) = nI st.length := by
        rw [show (nI (st.length + 1) + (-1 : Int32)) = nI (st.length + 1) - 1 from (Int32.sub_eq_add_neg _ _).symm, show (1 : Int32) = nI 1 from rfl, pk_sub (by omega)]; rfl
      have e113 : I 113 st.length = nI p := hw.1
      have e108 : I 108 p = nI (N p) := by rw [fr.1 108 (by decide) (by decide) (by decide)]; exact h108 p a1
      have e110 : I 110 p = cc N g p := by rw [fr.1 110 (by decide) (by decide) (by decide)]; exact h110 p a1
      have hN2 := hN20 p
      have e0 : (nI (N p) = 0) = (N p = 0) := nI_eq' (b := 0) (by omega) (by decide)
      have pl : pre.length < 2 ^ 31 := by omega
      -- one byte more
      have grow : ∀ (x : Int32) (st' : List Nat) (I2 : Nat → Nat → Int32), (∀ o, o ≠ 112 → o ≠ 113 → I2 o = I o) → I2 112 = va_up (I 112) pre.length x → PL (I2 113) st' → okS n 100000 f st' → wg n st' + 1 ≤ wg n (p :: st) → pre ++ (x :: wrL N f m st') = Lf → aw_z X (d + 2) y_M_proof Q 63 [some (.ref 69), none, some (.int (nI (pre.length + 1))), some (.int (nI st'.length)), none, none] [] (aw_s I2 L D) := by
        intro x st' I2 f2 w12 w2 o2 hwg el
        have len : (pre ++ [x]).length = pre.length + 1 := by simp
        have gg := ih st' (pre ++ [x]) I2 (by omega) (by rw [len]; omega) o2 w2 ⟨fun o z1 z2 z3 => ?_, fun k hk => ?_⟩ (fun j hj => ?_) (by rw [List.append_assoc]; exact el)
        · rw [len] at gg; exact gg
        · rw [f2 o z2 z3]; exact fr.1 o z1 z2 z3
        · rw [f2 69 (by decide) (by decide)]; exact fr.2 k hk
        · rw [w12]
          rw [len] at hj
          by_cases gj : j = pre.length
          · subst gj
            rw [up_s, List.getD_eq_getElem?_getD, List.getElem?_append_right (Nat.le_refl _), Nat.sub_self]; rfl
          · rw [up_n _ _ gj, e12 j (by omega), List.getD_eq_getElem?_getD, List.getD_eq_getElem?_getD, List.getElem?_append_left (by omega)]
      have B0 := @b_M_proof_63 X (d + 1) Q I L D (nI pre.length) (nI (st.length + 1))
      rw [e1, nI_clamp (show st.length < 2 ^ 31 by omega), e113, nI_clamp (show p < 2 ^ 31 by omega), e108, e110, e0] at B0
      have v6 := aw_in_nI hp (show 6561 < 2 ^ 31 by decide)
      have vs := aw_in_nI (show st.length < 600 by omega) (show 600 < 2 ^ 31 by decide)
      rw [wrL] at ep
      show aw_z X (d + 2) y_M_proof Q 63 [some (.ref 69), none, some (.int (nI pre.length)), some (.int (nI (st.length + 1))), none, none] [] (aw_s I L D)
      by_cases hn0 : N p ≠ 0
      · rw [if_pos hn0] at ep
        obtain ⟨t20, u, eu⟩ := tz_sp 20 (N p) (by omega) hN2
        refine B0 (fun q => absurd q c0) (fun _ => vs) (fun _ => v6) (fun _ q => absurd q hn0) (fun _ q => absurd q hn0) (fun _ q => absurd q hn0) (fun _ q => absurd q hn0) (fun _ q => absurd q hn0) (fun _ q => absurd q hn0) (fun _ q => absurd q hn0) (fun _ _ => v6) (fun _ _ => c_M_lowest (d := d) eu (by omega) (by omega) (b_M_proof_105 (aw_in_nI (by omega) (by decide)) ?_))
        rw [nI_clamp pl, nI_1, show (100 : Int32) = nI 100 from rfl, nI_add]
        exact grow _ st _ (fun o a b => au_o a) (aw_u_same ..) (by rw [au_o (by decide)]; exact hw.2) ho.2.2.2 (by omega) ep
      · have hn0 := Classical.not_not.mp hn0
        rw [if_neg (fun x => x hn0)] at ep
        obtain ⟨y1, y2, y3, y4⟩ := okS_part (by decide) hl ho hn0
        have efg : g p = f p := by
          rcases hl p with ⟨x, -, -⟩ | ⟨x, -⟩
          · have := ho.2.1; rw [x] at this; exact absurd this (Nat.lt_irrefl _)
          · exact x.symm
        have ec : cc N g p = nI (f p).2 := by
          unfold cc bb
          rw [if_neg (fun x => x hn0), efg, if_neg (by omega)]
        have l0 := h0_lt y2
        have l1 := h1_lt y2
        generalize ej : (f p).2 = j at *
        have pw : I 111 j = nI (3 ^ j) := by rw [fr.1 111 (by decide) (by decide) (by decide)]; exact hpw j (by omega)
        rw [ec, nI_clamp (show j < 2 ^ 31 by omega), pw, h0_I2 y2, h1_I2 y2, nI_clamp pl] at B0
        have e2 : nI st.length + 1 = nI (st.length + 1) := nI_1 _
        have e3 : nI st.length + 2 = nI (st.length + 2) := by rw [show (2 : Int32) = nI 2 from rfl, nI_add]
        have e4 : nI pre.length + 1 = nI (pre.length + 1) := nI_1 _
        rw [e2, e3, e4, nI_clamp (show st.length + 1 < 2 ^ 31 by omega)] at B0
        have v9 := aw_in_nI (show j < 9 by omega) (show 9 < 2 ^ 31 by decide)
        refine B0 (fun q => absurd q c0) (fun _ => vs) (fun _ => v6) (fun _ _ => v6) (fun _ _ => aw_in_nI (by omega) (by decide)) (fun _ _ => v9) (fun _ _ => vs) (fun _ _ => v9) (fun _ _ => aw_in_nI (by omega) (by decide)) (fun _ _ => grow _ _ _ (fun o a b => by rw [au_o b, au_o b, au_o a]) (by rw [au_o (by decide), au_o (by decide), aw_u_same]) ?_ y3 (by omega) ep) (fun _ q => absurd hn0 q) (fun _ q => absurd hn0 q)
        refine ⟨?_, ?_, ?_⟩
        · show _ = nI (h0 p j)
          exact au_s _ _ _ _
        · show aw_u _ 113 (st.length + 1) _ 113 st.length = nI (h1 p j)
          rw [au_k (by omega), au_s]
        · rw [aw_u_same, aw_u_same, au_o (by decide)]
          exact PL_up (by omega) (PL_up (Nat.le_refl _) hw.2)
theorem c_M_isSmall {n : Nat} (hn : n = B * (T + O)) (hk : SZok B T O) (sz : SZ I B T O) (h1 : n ≤ 8 → Q (some (.int 1)) (aw_s I L D)) (h0 : ¬ n ≤ 8 → Q (some (.int 0)) (aw_s I L D)) : aw_m X d y_M_isSmall [.ref 69] (aw_s I L D) Q := by
  have e : I 69 33 * (I 69 34 + I 69 35) = nI n := by rw [sz.1, sz.2.1, sz.2.2, nI_add, pk_mul, ← hn]
  have h12 := hk.2.2.2.2.2
  have c8 : ((8 : Int32) < nI n) = (8 < n) := nI_lt' (a := 8) (by decide) (by omega)
  have B0 := @b_M_isSmall_0 X d Q I L D
  rw [e, c8] at B0
  exact aw_go rfl rfl (B0 (fun q => h0 (by omega)) (fun q => h1 (by omega)))
theorem c_M_proof {n w : Nat} {N : Nat → Nat} {f g : Nat → Nat × Nat} (hn : n = B * (T + O)) (h8 : n ≤ 8) (hN : isNN n (fR S B T) N) (hg0 : isLV n 1000000 N g) (hl : ∀ p, lvP n 100000 1000000 N f g p) (hgl : ∀ p, (g p).1 ≤ 1000000) (hw : w + 1 = 3 ^ n) (h : MIc S B T O (aw_u I 69 0 0)) (hpw : RPw I)
    (hQ1 : (f w).1 < 100000 → ∀ I1 I' L', MFq (aw_u I 69 0 0) I1 L L' → MFw I1 I' → I' 69 83 = nI (wrL N f 511 [w]).length → (∀ j, j < (wrL N f 511 [w]).length → I' 112 j = (wrL N f 511 [w]).getD j 0) → Q (some (.int (nI (wrL N f 511 [w]).length))) (aw_s I' L' D))
    (hQ0 : ¬ (f w).1 < 100000 → ∀ I' L', MFq (aw_u I 69 0 0) I' L L' → Q (some (.int (-1))) (aw_s I' L' D)) : aw_m X (d + 6) y_M_proof [.ref 69] (aw_s I L D) Q := by
  have h3 : 3 ^ n ≤ 3 ^ 8 := Nat.pow_le_pow_right (by decide) h8
  have h38 : 3 ^ 8 = 6561 := by decide
  have hN20 := nn_lt (fR_lt (B := B) (T := T) h.1) hN
  have k20 := h.1.2.1
  have k0 := h.1.1
  have hpw0 : RPw (aw_u I 69 0 0) := fun j hj => by rw [au_o (by decide)]; exact hpw j hj
  have nz : ¬ I 69 75 = 0 := by
    have e := h.2.1.1
    rw [au_k (by decide)] at e
    rw [e, show (0 : Int32) = nI 0 from rfl, nI_eq (by omega) (by decide)]; omega
  refine aw_go rfl rfl (b_M_proof_0 (fun q => absurd q nz) (fun _ => c_M_isSmall hn h.2.2.1 h.2.2.2 (fun _ => b_M_proof_16 (fun _ => c_M_layParts (d := d) hn h8 hN hg0 hgl h hpw0 (fun I1 L1 f1 hk => b_M_proof_26 (c_M_partBits hn (h.q f1).2.2.2 ?_))) (fun x => absurd x (by decide))) (fun x => absurd h8 x)))
  have pw1 := hpw0.q f1
  have e1 : nI (3 ^ n) - 1 = nI w := by rw [show (1 : Int32) = nI 1 from rfl, pk_sub (p3 n), ← hw]; rfl
  have B0 := @b_M_proof_34 X (d + 5) Q I1 L1 D (nI n)
  have gw := hgl w
  rw [nI_clamp (show n < 2 ^ 31 by omega), pw1 n (by omega), e1, nI_clamp (show w < 2 ^ 31 by omega), (hk w (by omega)).2.1] at B0
  have cl : (nI (g w).1 < (1000000 : Int32)) = ((g w).1 < 1000000) := nI_lt' (b := 1000000) (by omega) (by decide)
  rw [cl] at B0
  have same : (g w).1 < 1000000 ↔ (f w).1 < 100000 := by
    have t := two_fc (p := w) h8
    rcases hl w with ⟨x, y, -⟩ | ⟨x, -, y, -⟩
    · rw [x, y]; simp
    · rw [← x]; omega
  have fc := fcn_le w n
  have p9 : 2 ^ (fcn w n + 1) ≤ 2 ^ 9 := Nat.pow_le_pow_right (by decide) (by omega)
  have hwg : wg n [w] ≤ 511 := by show (2 ^ (fcn w n + 1) - 1) + 0 ≤ 511; omega
  refine B0 (aw_in_nI (by omega) (by decide)) (aw_in_nI (by omega) (by decide)) (fun q => ?_) (fun q => hQ0 (fun x => q (same.mpr x)) I1 L1 f1)
  have hA := same.mp q
  have fu : MFq I1 (aw_u I1 113 0 (nI w)) L1 L1 := MFq.u (Or.inr (Or.inr (Or.inr rfl)))
  refine l_M_write (d := d + 4) (I0 := aw_u I1 113 0 (nI w)) h8 hN20 hl (pw1.q fu) (fun p hp => by rw [au_o (by decide)]; exact (hk p hp).1) (fun p hp => by rw [au_o (by decide)]; exact (hk p hp).2.2) (fun I' f2 e83 e112 => hQ1 hA (aw_u I1 113 0 (nI w)) I' L1 (f1.tr fu) f2 e83 e112) 511 [w] [] _ hwg (by show 0 + _ ≤ 511; omega) ⟨by omega, hA, by show 0 + _ ≤ n; omega, trivial⟩ ⟨au_s _ _ _ _, trivial⟩ ⟨fun _ _ _ _ => rfl, fun _ _ => rfl⟩ (fun j hj => absurd hj (Nat.not_lt_zero j)) rfl
theorem l_M_check {n z : Nat} {N b : Nat → Nat} {r : Int32} (hn : n = B * (T + O)) (h8 : n ≤ 8) (hN20 : ∀ p, N p < 2 ^ 20) (hb : ∀ j, j < z → b j < 256) (hz : z ≤ 540) {I0 : Nat → Nat → Int32} {L0 : Nat → Nat → Int64} (hQ : ∀ I', MFq I0 I' L0 L → Q (some (.int r)) (aw_s I' L D)) :
    ∀ (m k : Nat) (st : List Nat) (I : Nat → Nat → Int32), k + m = z → MIc S B T O I → RPw I → MFq I0 I L0 L → (∀ j, j < z → I 70 j = nI (b j)) → (∀ p, p < 3 ^ n → I 108 p = nI (N p)) → okW n st → PL (I 113) st → ckF n (cK S) N b m k st = r →
      aw_z X (d + 2) y_M_check Q 52 [some (.ref 69), some (.int (nI z)), some (.int (nI st.length)), some (.int (nI k)), none, none] [] (aw_s I L D) := by
  have h3 : 3 ^ n ≤ 3 ^ 8 := Nat.pow_le_pow_right (by decide) h8
  have h38 : 3 ^ 8 = 6561 := by decide
  intro m
  induction m with
  | zero =>
    intro k st I e h hpw fr hb70 h108 ho hw hr
    have ek : k = z := by omega
    subst ek
    have le : nI k ≤ nI k := by rw [nI_leI (by omega) (by omega)]; exact Nat.le_refl _
    have hlen := okS_len ho
    have c0 : (nI st.length = 0) = (st = []) := by
      rw [show (0 : Int32) = nI 0 from rfl, nI_eq' (by omega) (by decide)]
      exact propext List.length_eq_zero_iff
    rw [ckF] at hr
    have B0 := @b_M_check_52 X (d + 1) Q I L D (nI k) (nI st.length) (nI k)
    rw [c0] at B0
    refine B0 (fun _ q => ?_) (fun _ q => ?_) (fun q => absurd le q) (fun q => absurd le q) (fun q => absurd le q) (fun q => absurd le q) (fun q => absurd le q) (fun q => absurd le q) (fun q => absurd le q) (fun q => absurd le q)
    · rw [if_neg q] at hr; rw [hr]; exact hQ I fr
    · rw [if_pos q] at hr; rw [hr]; exact hQ I fr
  | succ m ih =>
    intro k st I e h hpw fr hb70 h108 ho hw hr
    have nle : ¬ nI z ≤ nI k := by rw [nI_leI (by omega) (by omega)]; omega
    have k20 := h.1.2.1
    cases st with
    | nil =>
      rw [ckF] at hr
      have z0 : nI ([] : List Nat).length = 0 := by decide
      have nz : ¬ ¬ nI ([] : List Nat).length = 0 := fun q => q z0
      exact b_M_check_52 (fun q => absurd q nle) (fun q => absurd q nle) (fun _ q => absurd q nz) (fun _ q => absurd q nz) (fun _ q => absurd q nz) (fun _ q => absurd q nz) (fun _ q => absurd q nz) (fun _ q => absurd q nz) (fun _ q => absurd q nz) (fun _ _ => by rw [hr]; exact hQ I fr)
    | cons p st =>
      have hlen := okS_len ho
      simp only [List.length_cons] at hlen
      have a1 := ho.1
      have hp : p < 6561 := by omega
      have hbk := hb k (by omega)
      have n0 : ¬ nI (st.length + 1) = 0 := by rw [show (0 : Int32) = nI 0 from rfl, nI_eq (by omega) (by decide)]; omega
      have e1 : nI (st.length + 1) + (-1) = nI st.length := by
        rw [show (nI (st.length + 1) + (-1 : Int32)) = nI (st.length + 1) - 1 from (Int32.sub_eq_add_neg _ _).symm, show (1 : Int32) = nI 1 from rfl, pk_sub (by omega)]; rfl
      have e113 : I 113 st.length = nI p := hw.1
      have B0 := @b_M_check_52 X (d + 1) Q I L D (nI z) (nI (st.length + 1)) (nI k)
      have c100 : (nI (b k) < (100 : Int32)) = (b k < 100) := nI_lt' (b := 100) (by omega) (by decide)
      rw [e1, nI_clamp (show st.length < 2 ^ 31 by omega), nI_clamp (show k < 2 ^ 31 by omega), e113, hb70 k (by omega), nI_clamp (show p < 2 ^ 31 by omega), h108 p a1, h.2.1.1, c100] at B0
      have vs := aw_in_nI (show st.length < 600 by omega) (show 600 < 2 ^ 31 by decide)
      have v6 := aw_in_nI hp (show 6561 < 2 ^ 31 by decide)
      rw [ckF] at hr
      show aw_z X (d + 2) y_M_check Q 52 [some (.ref 69), some (.int (nI z)), some (.int (nI (st.length + 1))), some (.int (nI k)), none, none] [] (aw_s I L D)
      by_cases g : 100 ≤ b k
      · rw [if_pos g] at hr
        have eb : nI (b k) - 100 = nI (b k - 100) := by rw [show (100 : Int32) = nI 100 from rfl, pk_sub (by omega)]
        have cts' : (nI (cK S) ≤ nI (b k - 100)) = (cK S ≤ b k - 100) := nI_le' (by omega) (by omega)
        rw [eb, cts'] at B0
        by_cases g2 : b k - 100 < cK S
        · have hN2 := hN20 p
          have hd : N p / 2 ^ (b k - 100) ≤ N p := Nat.div_le_self _ _
          have c1 : (nI (N p / 2 ^ (b k - 100) % 2) = (0 : Int32)) = (N p / 2 ^ (b k - 100) % 2 = 0) := eqI (k := 0) (by omega) (by decide)
          rw [sar31 (by omega) (by omega), and1 (by omega), c1] at B0
          refine B0 (fun q => absurd q nle) (fun q => absurd q nle) (fun _ _ => vs) (fun _ _ => aw_in_nI (by omega) (by decide)) (fun _ _ q => absurd q (by omega)) (fun _ _ _ q => absurd q (by omega)) (fun _ _ _ _ => v6) (fun _ _ _ _ q => ?_) (fun _ _ _ _ q => ?_) (fun _ q => absurd q n0)
          · rw [if_pos ⟨g2, by omega⟩] at hr
            rw [nI_1]
            exact ih (k + 1) st I (by omega) h hpw fr hb70 h108 ho.2.2.2 hw.2 hr
          · rw [if_neg (fun x => by omega)] at hr
            rw [hr]; exact hQ I fr
        · rw [if_neg (fun x => g2 x.1)] at hr
          exact B0 (fun q => absurd q nle) (fun q => absurd q nle) (fun _ _ => vs) (fun _ _ => aw_in_nI (by omega) (by decide)) (fun _ _ q => absurd q (by omega)) (fun _ _ _ q => by rw [hr]; exact hQ I fr) (fun _ _ _ q => absurd (by omega) q) (fun _ _ _ q => absurd (by omega) q) (fun _ _ _ q => absurd (by omega) q) (fun _ q => absurd q n0)
      · rw [if_neg g] at hr
        refine B0 (fun q => absurd q nle) (fun q => absurd q nle) (fun _ _ => vs) (fun _ _ => aw_in_nI (by omega) (by decide)) (fun _ _ _ => c_M_partBits hn h.2.2.2 ?_) (fun _ _ q => absurd (by omega) q) (fun _ _ q => absurd (by omega) q) (fun _ _ q => absurd (by omega) q) (fun _ _ q => absurd (by omega) q) (fun _ q => absurd q n0)
        generalize b k = j at *
        have cn : (nI n ≤ nI j) = (n ≤ j) := nI_le' (by omega) (by omega)
        have B1 := @b_M_check_127 X (d + 1) Q I L D (nI z) (nI st.length) (nI k) (nI p) (nI j) (nI n) (nI j)
        by_cases gj : j < n
        · have p0 := p3 j
          have h3j : 3 ^ j ≤ 3 ^ 8 := Nat.pow_le_pow_right (by decide) (by omega)
          have c2 : (nI (dg p j) = 2) = (dg p j = 2) := eqI (k := 2) (by have := dg_lt p j; omega) (by decide)
          have z3 : ¬ nI (3 ^ j) = 0 := by rw [show (0 : Int32) = nI 0 from rfl, nI_eq (by omega) (by decide)]; omega
          have v9 := aw_in_nI (show j < 9 by omega) (show 9 < 2 ^ 31 by decide)
          rw [nI_clamp (show j < 2 ^ 31 by omega), hpw j (by omega), dg_I hp (by omega), cn, c2, nI_clamp (show st.length < 2 ^ 31 by omega), nI_1 st.length, nI_clamp (show st.length + 1 < 2 ^ 31 by omega)] at B1
          by_cases d2 : dg p j = 2
          · rw [if_pos ⟨gj, d2⟩] at hr
            rw [h0_I2 d2, h1_I2 d2] at B1
            refine B1 (fun q => absurd q (by omega)) (fun _ => v9) (fun _ => z3) (fun _ _ => v9) (fun _ _ => vs) (fun _ _ => v9) (fun _ _ => aw_in_nI (by omega) (by decide)) (fun _ _ => ?_) (fun _ q => absurd d2 q)
            rw [nI_1, show (2 : Int32) = nI 2 from rfl, nI_add]
            have fu : MFq I (aw_u (aw_u I 113 st.length (nI (h1 p j))) 113 (st.length + 1) (nI (h0 p j))) L L := (MFq.u (Or.inr (Or.inr (Or.inr rfl)))).tr (MFq.u (Or.inr (Or.inr (Or.inr rfl))))
            refine ih (k + 1) (h0 p j :: h1 p j :: st) _ (by omega) (h.q fu) (hpw.q fu) (fr.tr fu) (fun i hi => by rw [au_o (by decide), au_o (by decide)]; exact hb70 i hi) (fun q hq => by rw [au_o (by decide), au_o (by decide)]; exact h108 q hq) (okW_half ho gj d2) ⟨?_, ?_, ?_⟩ hr
            · show _ = nI (h0 p j)
              exact au_s _ _ _ _
            · show aw_u _ 113 (st.length + 1) _ 113 st.length = nI (h1 p j)
              rw [au_k (by omega), au_s]
            · rw [aw_u_same, aw_u_same]
              exact PL_up (by omega) (PL_up (Nat.le_refl _) hw.2)
          · rw [if_neg (fun x => d2 x.2)] at hr
            exact B1 (fun q => absurd q (by omega)) (fun _ => v9) (fun _ => z3) (fun _ q => absurd q d2) (fun _ q => absurd q d2) (fun _ q => absurd q d2) (fun _ q => absurd q d2) (fun _ q => absurd q d2) (fun _ _ => by rw [hr]; exact hQ I fr)
        · rw [if_neg (fun x => gj x.1)] at hr
          rw [cn] at B1
          exact B1 (fun _ => by rw [hr]; exact hQ I fr) (fun q => absurd (by omega) q) (fun q => absurd (by omega) q) (fun q => absurd (by omega) q) (fun q => absurd (by omega) q) (fun q => absurd (by omega) q) (fun q => absurd (by omega) q) (fun q => absurd (by omega) q) (fun q => absurd (by omega) q)
end MPRF
