/-! PART at: may of both -/
section QMAY
variable {X : aw_X} {d : Nat} {Q : Option Value → aw_H → Prop} {I : Nat → Nat → Int32} {L : Nat → Nat → Int64} {D : Nat → Nat} {v1 v2 v3 : Int32}
theorem c_isBegun (hK : RWk I L) : (∃ S F B T O E n wl wc wi s, RWd S F B T O E n wl wc wi I L ∧ s < 60 ∧ v1 = nI s ∧ Bgn E (2 ^ (B * (T + O))) s ∧ (∀ d Q, Q (some (.int 1)) (aw_s I L D) → aw_m X d y_Wk_isBegun [.ref 11, .int v1] (aw_s I L D) Q) ∧ ∀ d Q I', I' 69 36 = I 69 36 → I' 75 = I 75 → Q (some (.int 1)) (aw_s I' L D) → aw_m X d y_M_isBegun [.ref 69, .int v1] (aw_s I' L D) Q) ∨
    ((∀ d Q, Q (some (.int 0)) (aw_s I L D) → aw_m X d y_Wk_isBegun [.ref 11, .int v1] (aw_s I L D) Q) ∧ ∀ d Q I', I' 69 36 = I 69 36 → I' 75 = I 75 → Q (some (.int 0)) (aw_s I' L D) → aw_m X d y_M_isBegun [.ref 69, .int v1] (aw_s I' L D) Q) := by
  rcases hK with ⟨a, b⟩ | ⟨S, F, B, T, O, E, n, wl, wc, wi, h⟩
  · exact Or.inr ⟨fun d Q q => aw_go rfl rfl (b_Wk_isBegun_0 (fun _ => q) (fun x => absurd a x) (fun x => absurd a x) (fun x => absurd a x) (fun x => absurd a x)), fun d Q I' e _ q => aw_go rfl rfl (b_M_isBegun_0 (fun _ => q) (fun x => absurd (e.trans b) x) (fun x => absurd (e.trans b) x) (fun x => absurd (e.trans b) x) (fun x => absurd (e.trans b) x) (fun x => absurd (e.trans b) x))⟩
  · have hk := h.1.2.2.2.1
    have hW := h.1.2.2.2.2.2
    have hcs := h.1.1.2.1
    have x0 : ¬ I 11 0 = 0 := by rw [h.2.2.1.1]; decide
    have m0 : ¬ I 69 36 = 0 := by rw [h.2.2.2.1]; decide
    have e75 : I 75 4 = nI (cS S) := h.2.2.2.2.2.1.2.2.1
    have e11 : L 11 11 = allB E (2 ^ (B * (T + O))) := h.2.2.1.2.2.2.2.2.2.1
    have e89 : ∀ k, k < 480 → L 89 k = mayW E (2 ^ (B * (T + O))) k := h.2.2.2.2.2.2.1.2.1
    generalize hR : 2 ^ (B * (T + O)) = R at *
    rcases i32_R (show 60 < 2 ^ 31 by decide) v1 with g | ⟨s, hs, rfl, g1, g2⟩
    · refine Or.inr ⟨fun d Q q => aw_go rfl rfl (b_Wk_isBegun_0 (fun x => absurd x x0) (fun _ _ => q) (fun _ _ _ => q) (fun _ _ _ _ => q) (fun _ x y _ => ?_)), fun d Q I' e e2 q => aw_go rfl rfl (b_M_isBegun_0 (fun x => absurd (e.symm.trans x) m0) (fun _ _ => q) (fun _ _ _ => q) (fun _ x y => ?_) (fun _ _ _ _ => q) (fun _ x y _ => ?_))⟩
      · rcases g with g | ⟨-, g⟩
        · exact absurd g x
        · exact absurd g y
      · exfalso
        rcases g with g | ⟨-, g⟩
        · exact absurd g x
        · rw [e2, e75] at y
          exact y (Int32.le_trans (show nI (cS S) ≤ nI 60 by rw [nI_leI (by omega) (by decide)]; exact hcs) g)
      · exfalso
        rcases g with g | ⟨-, g⟩
        · exact absurd g x
        · rw [e2, e75] at y
          exact y (Int32.le_trans (show nI (cS S) ≤ nI 60 by rw [nI_leI (by omega) (by decide)]; exact hcs) g)
    · have n60 : ¬ (60 : Int32) ≤ nI s := g2
      have bit : lg_cmp ((((L 11 11).toUInt64 >>> ((nI s).toInt64.toUInt64 &&& Int64.toUInt64 63)).toInt64) &&& (1 : Int64)) (1 : Int64) = 0 ↔ Bgn E R s := by
        have ab := allB_lb hcs hW hs R
        rw [cmp_eq, shr_lb (by omega), e11]
        by_cases z : lb (allB E R) s = true
        · rw [if_pos z]; exact ⟨fun _ => ab.mp z, fun _ => rfl⟩
        · rw [if_neg z]; exact ⟨fun t => absurd t (by decide), fun t => absurd (ab.mpr t) z⟩
      have i8 : (8 : Int32) * nI s = nI (8 * s) := by rw [show (8 : Int32) = nI 8 from rfl, pk_mul]
      have may : lg_cmp (L 89 ((8 : Int32) * nI s).toNatClampNeg) 0 = 0 ↔ ¬ Bgn E R s := by
        have := Bgn.may (s := s) (a := 0) (R := R) hk.2.1 hW (by decide)
        rw [Nat.add_zero] at this
        rw [cmp_eq, i8, nI_clamp (show 8 * s < 2 ^ 31 by omega), e89 _ (by omega), this, Classical.not_not]
      by_cases z : Bgn E R s
      · subst hR
        refine Or.inl ⟨S, F, B, T, O, E, n, wl, wc, wi, s, h, hs, rfl, z, fun d Q q => aw_go rfl rfl (b_Wk_isBegun_0 (fun x => absurd x x0) (fun _ x => absurd x g1) (fun _ _ x => absurd x n60) (fun _ _ _ x => absurd (bit.mpr z) x) (fun _ _ _ _ => q)), fun d Q I' e e2 q => aw_go rfl rfl (b_M_isBegun_0 (fun x => absurd (e.symm.trans x) m0) (fun _ x => absurd x g1) (fun _ _ x => ?_) (fun _ _ _ => by rw [i8]; exact aw_in_nI (by omega) (by decide)) (fun _ _ _ x => absurd z (may.mp x)) (fun _ _ _ _ => q))⟩
        rw [e2, e75, nI_leI (by omega) (by omega)] at x
        have := z.cs hW
        omega
      · refine Or.inr ⟨fun d Q q => aw_go rfl rfl (b_Wk_isBegun_0 (fun x => absurd x x0) (fun _ x => absurd x g1) (fun _ _ x => absurd x n60) (fun _ _ _ _ => q) (fun _ _ _ x => absurd (bit.mp x) z)), fun d Q I' e e2 q => aw_go rfl rfl (b_M_isBegun_0 (fun x => absurd (e.symm.trans x) m0) (fun _ x => absurd x g1) (fun _ _ _ => q) (fun _ _ _ => by rw [i8]; exact aw_in_nI (by omega) (by decide)) (fun _ _ _ _ => q) (fun _ _ _ x => absurd (may.mpr z) x))⟩
theorem l_M_may {x : Nat} {A : aw_H} {res : Int32} (hx : x < 2 ^ 64) (h0 : v3 = 0 → res = nI (ctB x 64)) (h1 : v3 = 1 → res = frB x 64) (h2 : ¬ v3 = 0 → ¬ v3 = 1 → res = laB x 64) (hQ : Q (some (.int res)) (aw_s I L D)) : ∀ (m n : Nat), n + m = 64 →
    aw_z X (d + 1) y_M_may Q 59 [none, none, none, some (.int v3), some (.long (lN x)), none, some (.int (nI (ctB x n))), some (.int (frB x n)), some (.int (laB x n)), some (.int (nI n))] [] (aw_s I L D) := by
  intro m
  induction m with
  | zero =>
    intro n e
    have : n = 64 := by omega
    subst this
    exact b_M_may_59 (fun _ a b => by rw [← h2 a b]; exact hQ) (fun _ _ b => by rw [← h1 b]; exact hQ) (fun _ a => by rw [← h0 a]; exact hQ) (fun q => absurd (by decide) q) (fun q => absurd (by decide) q) (fun q => absurd (by decide) q)
  | succ m ih =>
    intro n e
    have n64 : ¬ (64 : Int32) ≤ nI n := by rw [show (64 : Int32) = nI 64 from rfl, nI_leI (by decide) (by omega)]; omega
    have bit : lg_cmp ((lN x >>> ((nI n).toInt64 &&& 63)) &&& (1 : Int64)) 0 = 0 ↔ ¬ x.testBit n = true := by
      rw [cmp_eq, sar_lb (by omega), lb_n, decide_eq_true (show n < 64 by omega), Bool.true_and]
      cases x.testBit n <;> decide
    have g := ih (n + 1) (by omega)
    rw [ctB, frB, laB] at g
    refine b_M_may_59 (fun q => absurd q n64) (fun q => absurd q n64) (fun q => absurd q n64) (fun _ b c => ?_) (fun _ b c => ?_) (fun _ b => ?_)
    · have b : x.testBit n = true := Classical.not_not.mp (fun z => b (bit.mpr z))
      rw [if_pos b, if_neg (fun z => c z.2), if_pos b] at g
      rw [nI_1, nI_1]; exact g
    · have b : x.testBit n = true := Classical.not_not.mp (fun z => b (bit.mpr z))
      rw [if_pos b, if_pos ⟨b, c⟩, if_pos b] at g
      rw [nI_1, nI_1]; exact g
    · have b := bit.mp b
      rw [if_neg b, if_neg (fun z => b z.1), if_neg b] at g
      rw [nI_1]; exact g
theorem q_may (hK : RWk I L) : GetW X 3 y_AW_may [.ref 0, .int v1, .int v2, .int v3] y_M_may [.ref 69, .int v1, .int v2, .int v3] I L D := by
  rcases c_isBegun (X := X) (D := D) (v1 := v1) hK with ⟨S, F, B, T, O, E, n, wl, wc, wi, s, h, hs, rfl, hb, w1, w2⟩ | ⟨w1, w2⟩
  · have hk := h.1.2.2.2.1
    have hW := h.1.2.2.2.2.2
    rcases i32_R (show 8 < 2 ^ 31 by decide) v2 with g | ⟨a, ha, rfl, g1, g2⟩
    · refine ⟨-1, fun d => ⟨fun Q q => aw_go rfl rfl (b_AW_may_0 (w1 _ _ (b_AW_may_8 (fun _ => q) (fun _ => aw_go rfl rfl (b_AW_isName_0 (fun _ => b_AW_may_15 (fun x => absurd rfl x) (fun _ => q)) (fun _ _ => b_AW_may_15 (fun x => absurd rfl x) (fun _ => q)) (fun x y => ?_)))))), fun Q q => aw_go rfl rfl (b_M_may_0 (w2 _ _ _ (au_k (by decide)) (au_o (by decide)) (b_M_may_10 (fun _ => q) (fun _ => c_M_isIn (b_M_may_20 (fun _ => q) (fun x => ?_))))))⟩⟩
      · exfalso
        rcases g with g | ⟨-, g⟩
        · exact absurd g x
        · exact absurd g y
      · exfalso
        rw [pb_t, isInB, Classical.not_not] at x
        rcases g with g | ⟨-, g⟩
        · exact absurd g x.1
        · exact x.2 (Int32.lt_of_lt_of_le (show (7 : Int32) < nI 8 by decide) g)
    · have ix : nI s * 8 + nI a = nI (8 * s + a) := by rw [show (8 : Int32) = nI 8 from rfl, pk_mul, nI_add]; exact congrArg nI (by omega)
      have ix2 : (8 : Int32) * nI s + nI a = nI (8 * s + a) := by rw [show (8 : Int32) = nI 8 from rfl, pk_mul, nI_add]
      have e18 : L 18 (8 * s + a) = mayW E (2 ^ (B * (T + O))) (8 * s + a) := h.2.2.1.2.2.2.2.2.2.2.2.1 _ (by omega)
      have e89 : L 89 (8 * s + a) = mayW E (2 ^ (B * (T + O))) (8 * s + a) := h.2.2.2.2.2.2.1.2.1 _ (by omega)
      have ne := (Bgn.may (a := a) hk.2.1 hW ha).mp hb
      have ey := ln_of (mayW E (2 ^ (B * (T + O))) (8 * s + a))
      generalize hy : (mayW E (2 ^ (B * (T + O))) (8 * s + a)).toBitVec.toNat = x at ey
      have hx : x < 2 ^ 64 := by rw [← hy]; exact BitVec.isLt _
      have hx0 : 0 < x := Nat.pos_of_ne_zero (fun z => ne (by rw [ey, z]; rfl))
      rw [ey] at e18 e89
      have in7 : (decide ((0 : Int32) ≤ nI a) && decide (nI a ≤ 7)) = true := isInB.mpr ⟨g1, by rw [show (7 : Int32) = nI 7 from rfl, nI_ltI (by decide) (by omega)]; omega⟩
      have cls : ∀ (d : Nat) (Q : Option Value → aw_H → Prop), aw_z X (d + 2 + 1) y_AW_may Q 29 [none, none, none, some (.int v3), none, none] [.long (lN x)] (aw_s I L D) → aw_m X (d + 3) y_AW_may [.ref 0, .int (nI s), .int (nI a), .int v3] (aw_s I L D) Q := fun d Q q =>
        aw_go rfl rfl (b_AW_may_0 (w1 _ _ (b_AW_may_8 (fun x => absurd x (by decide)) (fun _ => aw_go rfl rfl (b_AW_isName_0 (fun x => absurd x g1) (fun _ x => absurd x g2) (fun _ _ => b_AW_may_15 (fun _ => aw_go rfl rfl (b_Wk_numbersOf_0 (by rw [ix]; exact c_valueAtJ (N := 480) (by decide) rfl (by decide) (show 8 * s + a < 480 by omega) (by rw [e18]; exact b_Wk_numbersOf_13 q)))) (fun x => absurd x (by decide))))))))
      have mod : ∀ (d : Nat) (Q : Option Value → aw_H → Prop) (res : Int32), (¬ v3 < 0 ∧ ¬ (2 : Int32) < v3) → (v3 = 0 → res = nI (ctB x 64)) → (v3 = 1 → res = frB x 64) → (¬ v3 = 0 → ¬ v3 = 1 → res = laB x 64) → Q (some (.int res)) (aw_s (aw_u I 69 0 0) L D) → aw_m X (d + 3) y_M_may [.ref 69, .int (nI s), .int (nI a), .int v3] (aw_s I L D) Q := fun d Q res hv a0 a1 a2 q =>
        aw_go rfl rfl (b_M_may_0 (w2 _ _ _ (au_k (by decide)) (au_o (by decide)) (b_M_may_10 (fun x => absurd x (by decide)) (fun _ => c_M_isIn (b_M_may_20 (fun x => absurd in7 (pb_t.mp x)) (fun _ => c_M_isIn (b_M_may_29 (fun _ => by rw [ix2]; exact aw_in_nI (by omega) (by decide)) (fun _ => by
          rw [ix2, nI_clamp (show 8 * s + a < 2 ^ 31 by omega), e89]
          exact l_M_may (d := d + 2) (A := aw_s I L D) hx a0 a1 a2 q 64 0 rfl) (fun x => absurd (isInB.mpr hv) (pb_t.mp x)))))))))
      by_cases h0 : v3 = 0
      · subst h0
        exact ⟨nI (ctB x 64), fun d => ⟨fun Q q => cls d Q (b_AW_may_29 (fun _ => c_bitCount hx (b_AW_may_65 q)) (fun x => absurd rfl x) (fun x => absurd rfl x) (fun x => absurd rfl x)), fun Q q => mod d Q _ ⟨by decide, by decide⟩ (fun _ => rfl) (fun x => absurd x (by decide)) (fun x => absurd rfl x) q⟩⟩
      · by_cases h1 : v3 = 1
        · subst h1
          exact ⟨frB x 64, fun d => ⟨fun Q q => cls d Q (b_AW_may_29 (fun x => absurd x h0) (fun _ _ => c_JLntz (d := d + 1) hx0 hx (b_AW_may_71 q)) (fun _ x => absurd rfl x) (fun _ x => absurd rfl x)), fun Q q => mod d Q _ ⟨by decide, by decide⟩ (fun x => absurd x h0) (fun _ => rfl) (fun _ x => absurd rfl x) q⟩⟩
        · by_cases h2 : v3 = 2
          · subst h2
            exact ⟨laB x 64, fun d => ⟨fun Q q => cls d Q (b_AW_may_29 (fun x => absurd x h0) (fun _ x => absurd x h1) (fun _ _ _ => c_JLnlz (d := d + 1) hx0 hx (fun r hr => b_AW_may_79 (by rw [hr]; exact q))) (fun _ _ x => absurd rfl x)), fun Q q => mod d Q _ ⟨by decide, by decide⟩ (fun x => absurd x h0) (fun x => absurd x h1) (fun _ _ => rfl) q⟩⟩
          · refine ⟨-1, fun d => ⟨fun Q q => cls d Q (b_AW_may_29 (fun x => absurd x h0) (fun _ x => absurd x h1) (fun _ _ x => absurd x h2) (fun _ _ _ => q)), fun Q q => aw_go rfl rfl (b_M_may_0 (w2 _ _ _ (au_k (by decide)) (au_o (by decide)) (b_M_may_10 (fun x => absurd x (by decide)) (fun _ => c_M_isIn (b_M_may_20 (fun x => absurd in7 (pb_t.mp x)) (fun _ => c_M_isIn (b_M_may_29 (fun _ => by rw [ix2]; exact aw_in_nI (by omega) (by decide)) (fun x => ?_) (fun _ => q))))))))⟩⟩
            exfalso
            rw [pb_t, isInB, Classical.not_not] at x
            obtain ⟨w, -, w2, e⟩ := i32_lo (a := 0) (b := 2) (by decide) (by decide) x.1 x.2
            subst e
            rcases (show w = 0 ∨ w = 1 ∨ w = 2 by omega) with c | c | c <;> subst c
            · exact h0 rfl
            · exact h1 rfl
            · exact h2 rfl
  · exact ⟨-1, fun d => ⟨fun Q q => aw_go rfl rfl (b_AW_may_0 (w1 _ _ (b_AW_may_8 (fun _ => q) (fun x => absurd rfl x)))), fun Q q => aw_go rfl rfl (b_M_may_0 (w2 _ _ _ (au_k (by decide)) (au_o (by decide)) (b_M_may_10 (fun _ => q) (fun x => absurd rfl x))))⟩⟩
end QMAY
