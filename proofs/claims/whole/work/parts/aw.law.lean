/-! PART aw: law of both -/
theorem RWd.z {S : PT} {F B T O : Nat} {E : Nat → PE} {n : Nat} {wl wc wi : Nat → Nat} {I : Nat → Nat → Int32} {L : Nat → Nat → Int64} {v : Int32} (h : RWd S F B T O E n wl wc wi I L) : RWd S F B T O E n wl wc wi (aw_u I 69 0 v) L :=
  h.fr (fun k _ => by rw [au_o (by decide)]) (fun o p q => au_o (by omega)) (fun _ _ _ => rfl) (fun k p => au_k (by omega)) (KSl.same (fun o p q => au_o (by omega))) (fun o p q => au_o (by omega)) (fun _ _ => rfl)
theorem RWk.z {I : Nat → Nat → Int32} {L : Nat → Nat → Int64} {v : Int32} (h : RWk I L) : RWk (aw_u I 69 0 v) L :=
  h.fr (fun k _ => by rw [au_o (by decide)]) (fun o p q => au_o (by omega)) (fun _ _ _ => rfl) (fun k p => au_k (by omega)) (KSl.same (fun o p q => au_o (by omega))) (fun o p q => au_o (by omega)) (fun _ _ => rfl)
/-- a query after which the reference knows more: both answer the same -/
def GetL (X : aw_X) (k k2 : Nat) (yK : aw_Y) (avK : List Value) (yM : aw_Y) (avM : List Value) (I : Nat → Nat → Int32) (L : Nat → Nat → Int64) (D : Nat → Nat) : Prop :=
  ∃ r, (∀ (d : Nat) (Q : Option Value → aw_H → Prop), Q (some (.int r)) (aw_s I L D) → aw_m X (d + k) yK avK (aw_s I L D) Q) ∧ ∀ (d : Nat) (Q : Option Value → aw_H → Prop), (∀ I2 L2, RWk I2 L2 → I2 69 0 = 0 → FLw I I2 L L2 → Q (some (.int r)) (aw_s I2 L2 D)) → aw_m X (d + k2) yM avM (aw_s I L D) Q
section LAW
variable {X : aw_X} {d : Nat} {Q : Option Value → aw_H → Prop} {I : Nat → Nat → Int32} {L : Nat → Nat → Int64} {D : Nat → Nat} {v1 v2 v3 v4 : Int32}
theorem l_M_law {S : PT} {F B T O : Nat} {E : Nat → PE} {n : Nat} {wl wc wi : Nat → Nat} {s a o r : Nat} (h : RWd S F B T O E n wl wc wi I L) (hs : s < 60) (ha : a < 8) (ho : o < 64) (hr : r < 4) {p0 q0 r0 : Bool}
    (hp : p0 = true ↔ ∃ v, v < 64 ∧ v < o ∧ lb (mayW E (2 ^ (B * (T + O))) (8 * s + a)) v = true) (hq : q0 = true ↔ lb (mayW E (2 ^ (B * (T + O))) (8 * s + a)) o = true) (hr0 : r0 = true ↔ ∃ v, v < 64 ∧ o < v ∧ lb (mayW E (2 ^ (B * (T + O))) (8 * s + a)) v = true) (nz : encB p0 q0 r0 ≠ 0)
    (hQ : Q (some (.int (nI (hAw (encB p0 q0 r0) r)))) (aw_s I L D)) :
    ∀ (m k : Nat) (p q t : Bool), k + m = 2 ^ B → (p = true ↔ ∃ v, v < k ∧ v < o ∧ lb (mayW E (2 ^ (B * (T + O))) (8 * s + a)) v = true) → (q = true ↔ o < k ∧ lb (mayW E (2 ^ (B * (T + O))) (8 * s + a)) o = true) → (t = true ↔ ∃ v, v < k ∧ o < v ∧ lb (mayW E (2 ^ (B * (T + O))) (8 * s + a)) v = true) →
      aw_z X (d + 1) y_M_law Q 102 [some (.ref 69), some (.int (nI s)), some (.int (nI a)), some (.int (nI r)), some (.int (nI (100 + o))), some (.int 1), some (.int (nI (encB p q t))), some (.int (nI k))] [] (aw_s I L D) := by
  have hk := h.1.2.2.2.1
  have hW := h.1.2.2.2.2.2
  have e33 : I 69 33 = nI B := h.2.1.2.2.2.1
  have p6 : 2 ^ B ≤ 64 := Nat.pow_le_pow_right (n := 2) (by decide) hk.2.1
  have p0' := Nat.two_pow_pos B
  have e89 : L 89 (8 * s + a) = mayW E (2 ^ (B * (T + O))) (8 * s + a) := h.2.2.2.2.2.2.1.2.1 _ (by omega)
  have hi : ∀ v, v < 64 → lb (mayW E (2 ^ (B * (T + O))) (8 * s + a)) v = true → v < 2 ^ B := fun v hv z => by
    rcases Nat.lt_or_ge v (2 ^ B) with g | g
    · exact g
    · rw [may_hi hk.2.1 hW ha hv g] at z; exact absurd z Bool.false_ne_true
  generalize mayW E (2 ^ (B * (T + O))) (8 * s + a) = y at *
  have ix2 : (8 : Int32) * nI s + nI a = nI (8 * s + a) := by rw [show (8 : Int32) = nI 8 from rfl, pk_mul, nI_add]
  have e100 : nI (100 + o) - 100 = nI o := by rw [show (100 : Int32) = nI 100 from rfl, pk_sub (by omega)]; exact congrArg nI (by omega)
  intro m
  induction m with
  | zero =>
    intro k p q t e hp' hq' ht'
    have ek : k = 2 ^ B := by omega
    have ep : p = p0 := Bool.eq_iff_iff.mpr (by
      rw [hp', hp]
      exact ⟨fun ⟨v, a, b, c⟩ => ⟨v, by omega, b, c⟩, fun ⟨v, a, b, c⟩ => ⟨v, by have := hi v a c; omega, b, c⟩⟩)
    have eq : q = q0 := Bool.eq_iff_iff.mpr (by
      rw [hq', hq]
      exact ⟨fun z => z.2, fun z => ⟨by have := hi o ho z; omega, z⟩⟩)
    have et : t = r0 := Bool.eq_iff_iff.mpr (by
      rw [ht', hr0]
      exact ⟨fun ⟨v, a, b, c⟩ => ⟨v, by omega, b, c⟩, fun ⟨v, a, b, c⟩ => ⟨v, by have := hi v a c; omega, b, c⟩⟩)
    subst ep
    subst eq
    subst et
    have lt : mk B < nI k := by
      show nI (2 ^ B - 1) < nI k
      rw [nI_ltI (by omega) (by omega)]; omega
    exact b_M_law_102 (c_M_mask hk.1 hk.2.1 e33 (b_M_law_108 (fun _ => l_M_holdsA (enc_all _ _ _).1 nz hr hQ) (fun z => absurd lt z) (fun z => absurd lt z) (fun z => absurd lt z) (fun z => absurd lt z) (fun z => absurd lt z) (fun z => absurd lt z)))
  | succ m ih =>
    intro k p q t e hp' hq' ht'
    have nlt : ¬ mk B < nI k := by
      show ¬ nI (2 ^ B - 1) < nI k
      rw [nI_ltI (by omega) (by omega)]; omega
    have bit : lg_cmp ((L 89 ((8 : Int32) * nI s + nI a).toNatClampNeg >>> ((nI k).toInt64 &&& 63)) &&& (1 : Int64)) (1 : Int64) = 0 ↔ lb y k = true := by
      rw [ix2, nI_clamp (show 8 * s + a < 2 ^ 31 by omega), e89, cmp_eq, sar_lb (by omega)]
      cases lb y k <;> decide
    have lo : nI (100 + o) - 100 ≤ nI k ↔ o ≤ k := by rw [e100]; exact nI_leI (by omega) (by omega)
    have eo : nI k = nI (100 + o) - 100 ↔ k = o := by rw [e100]; exact nI_eq (by omega) (by omega)
    have en := enc_all p q t
    refine b_M_law_102 (c_M_mask hk.1 hk.2.1 e33 (b_M_law_108 (fun z => absurd z nlt) (fun _ z => absurd z (by decide)) (fun _ _ => by rw [ix2]; exact aw_in_nI (by omega) (by decide)) (fun _ _ z => ?_) (fun _ _ z g1 g2 => ?_) (fun _ _ z g1 g2 => ?_) (fun _ _ z g1 => ?_)))
    · have z : ¬ lb y k = true := fun c => z (bit.mpr c)
      rw [nI_1]
      refine ih (k + 1) p q t (by omega) (hp'.trans ⟨fun ⟨v, a, b, c⟩ => ⟨v, by omega, b, c⟩, fun ⟨v, a, b, c⟩ => ⟨v, ?_, b, c⟩⟩) (hq'.trans ⟨fun c => ⟨by omega, c.2⟩, fun c => ⟨?_, c.2⟩⟩) (ht'.trans ⟨fun ⟨v, a, b, c⟩ => ⟨v, by omega, b, c⟩, fun ⟨v, a, b, c⟩ => ⟨v, ?_, b, c⟩⟩)
      · have : v ≠ k := fun f => by subst f; exact z c
        omega
      · have : o ≠ k := fun f => by rw [← f] at z; exact z c.2
        omega
      · have : v ≠ k := fun f => by subst f; exact z c
        omega
    · have z := bit.mp z
      have g1 := lo.mp g1
      have g2 : ¬ k = o := fun c => g2 (eo.mpr c)
      rw [nI_1, en.2.2.2.1]
      refine ih (k + 1) p q true (by omega) (hp'.trans ⟨fun ⟨v, a, b, c⟩ => ⟨v, by omega, b, c⟩, fun ⟨v, a, b, c⟩ => ⟨v, by omega, b, c⟩⟩) (hq'.trans ⟨fun c => ⟨by omega, c.2⟩, fun c => ⟨by omega, c.2⟩⟩) ⟨fun _ => ⟨k, by omega, by omega, z⟩, fun _ => rfl⟩
    · have z := bit.mp z
      have g2 := eo.mp g2
      rw [nI_1, en.2.2.1]
      refine ih (k + 1) p true t (by omega) (hp'.trans ⟨fun ⟨v, a, b, c⟩ => ⟨v, by omega, b, c⟩, fun ⟨v, a, b, c⟩ => ⟨v, by omega, b, c⟩⟩) ⟨fun _ => ⟨by omega, by rw [← g2]; exact z⟩, fun _ => rfl⟩ (ht'.trans ⟨fun ⟨v, a, b, c⟩ => ⟨v, by omega, b, c⟩, fun ⟨v, a, b, c⟩ => ⟨v, by omega, b, c⟩⟩)
    · have z := bit.mp z
      have g1 : ¬ o ≤ k := fun c => g1 (lo.mpr c)
      rw [nI_1, en.2.1]
      refine ih (k + 1) true q t (by omega) ⟨fun _ => ⟨k, by omega, by omega, z⟩, fun _ => rfl⟩ (hq'.trans ⟨fun c => ⟨by omega, c.2⟩, fun c => ⟨by omega, c.2⟩⟩) (ht'.trans ⟨fun ⟨v, a, b, c⟩ => ⟨v, by omega, b, c⟩, fun ⟨v, a, b, c⟩ => ⟨v, by omega, b, c⟩⟩)
theorem q_law (hK : RWk I L) (h48 : I 69 48 = 0) : GetL X 3 6 y_AW_law [.ref 0, .int v1, .int v2, .int v3, .int v4] y_M_law [.ref 69, .int v1, .int v2, .int v3, .int v4] I L D := by
  have rz : RWk (aw_u I 69 0 0) L := hK.z
  have fz : FLw I (aw_u I 69 0 0) L L := FLw.rf.z
  -- the reference's first steps
  have m0 : ∀ (d : Nat) (Q : Option Value → aw_H → Prop), (∀ v5 : Int32, (v4 < 100 → v5 = 0) → (¬ v4 < 100 → v5 = 1) → aw_z X (d + 5 + 1) y_M_law Q 17 [some (.ref 69), some (.int v1), some (.int v2), some (.int v3), some (.int v4), none, none, none] [.int v5] (aw_s (aw_u I 69 0 0) L D)) → aw_m X (d + 6) y_M_law [.ref 69, .int v1, .int v2, .int v3, .int v4] (aw_s I L D) Q := fun d Q k =>
    aw_go rfl rfl (b_M_law_0 (fun z => k 0 (fun _ => rfl) (fun y => absurd z y)) (fun z => k 1 (fun y => absurd y z) (fun _ => rfl)))
  rcases c_isBegun (X := X) (D := D) (v1 := v1) hK with ⟨S, F, B, T, O, E, n, wl, wc, wi, s, h, hs, rfl, hb, w1, w2⟩ | ⟨w1, w2⟩
  · have hk := h.1.2.2.2.1
    have hW := h.1.2.2.2.2.2
    have p6 : 2 ^ B ≤ 64 := Nat.pow_le_pow_right (n := 2) (by decide) hk.2.1
    have p0' := Nat.two_pow_pos B
    have m24 : ∀ (d : Nat) (Q : Option Value → aw_H → Prop) (v5 : Int32), aw_z X (d + 5 + 1) y_M_law Q 24 [some (.ref 69), some (.int (nI s)), some (.int v2), some (.int v3), some (.int v4), some (.int v5), none, none] [.int 1] (aw_s (aw_u I 69 0 0) L D) → aw_z X (d + 5 + 1) y_M_law Q 17 [some (.ref 69), some (.int (nI s)), some (.int v2), some (.int v3), some (.int v4), none, none, none] [.int v5] (aw_s (aw_u I 69 0 0) L D) := fun d Q v5 k => b_M_law_17 (w2 _ _ _ (au_k (by decide)) (au_o (by decide)) k)
    -- no such name
    rcases i32_R (show 8 < 2 ^ 31 by decide) v2 with g | ⟨a, ha, rfl, g1, g2⟩
    · refine ⟨-1, fun d Q q => aw_go rfl rfl (b_AW_law_0 (w1 _ _ (b_AW_law_8 (fun _ => q) (fun _ => aw_go rfl rfl (b_AW_isName_0 (fun _ => b_AW_law_15 (fun _ => q) (fun x => absurd rfl x) (fun x => absurd rfl x) (fun x => absurd rfl x)) (fun _ _ => b_AW_law_15 (fun _ => q) (fun x => absurd rfl x) (fun x => absurd rfl x) (fun x => absurd rfl x)) (fun x y => ?_)))))), fun d Q q => m0 d Q (fun v5 _ _ => m24 d Q v5 (b_M_law_24 (fun x => absurd x (by decide)) (fun _ => c_M_isIn (b_M_law_34 (fun _ => q _ _ rz (au_s _ _ _ _) fz) (fun x => ?_)))))⟩
      · exfalso
        rcases g with g | ⟨-, g⟩
        · exact absurd g x
        · exact absurd g y
      · exfalso
        rw [pb_t, isInB, Classical.not_not] at x
        rcases g with g | ⟨-, g⟩
        · exact absurd g x.1
        · exact x.2 (Int32.lt_of_lt_of_le (show (7 : Int32) < nI 8 by decide) g)
    have in7 : (decide ((0 : Int32) ≤ nI a) && decide (nI a ≤ 7)) = true := isInB.mpr ⟨g1, by rw [show (7 : Int32) = nI 7 from rfl, nI_ltI (by decide) (by omega)]; omega⟩
    have c15 : ∀ (d : Nat) (Q : Option Value → aw_H → Prop), aw_z X (d + 2 + 1) y_AW_law Q 15 [some (.ref 0), some (.int (nI s)), some (.int (nI a)), some (.int v3), some (.int v4), none] [.int 1] (aw_s I L D) → aw_m X (d + 3) y_AW_law [.ref 0, .int (nI s), .int (nI a), .int v3, .int v4] (aw_s I L D) Q := fun d Q q =>
      aw_go rfl rfl (b_AW_law_0 (w1 _ _ (b_AW_law_8 (fun x => absurd x (by decide)) (fun _ => aw_go rfl rfl (b_AW_isName_0 (fun x => absurd x g1) (fun _ x => absurd x g2) (fun _ _ => q))))))
    have m34 : ∀ (d : Nat) (Q : Option Value → aw_H → Prop) (v5 : Int32), aw_z X (d + 5 + 1) y_M_law Q 34 [some (.ref 69), some (.int (nI s)), some (.int (nI a)), some (.int v3), some (.int v4), some (.int v5), none, none] [.int 1] (aw_s (aw_u I 69 0 0) L D) → aw_z X (d + 5 + 1) y_M_law Q 17 [some (.ref 69), some (.int (nI s)), some (.int (nI a)), some (.int v3), some (.int v4), none, none, none] [.int v5] (aw_s (aw_u I 69 0 0) L D) := fun d Q v5 k => m24 d Q v5 (b_M_law_24 (fun x => absurd x (by decide)) (fun _ => c_M_isIn (by rw [in7]; exact k)))
    -- no such relation
    rcases i32_R (show 4 < 2 ^ 31 by decide) v3 with g | ⟨r, hr, rfl, g3, g4⟩
    · refine ⟨-1, fun d Q q => c15 d Q (b_AW_law_15 (fun _ => q) (fun _ _ => q) (fun _ x y => ?_) (fun _ _ _ => q)), fun d Q q => m0 d Q (fun v5 _ _ => m34 d Q v5 (b_M_law_34 (fun x => absurd x (by decide)) (fun _ => c_M_isIn (b_M_law_43 (fun _ => q _ _ rz (au_s _ _ _ _) fz) (fun x => ?_) (fun x => ?_)))))⟩
      · exfalso
        rcases g with g | ⟨-, g⟩
        · exact absurd g x
        · exact absurd (Int32.le_trans g y) (by decide)
      · exfalso
        rw [pb_t, isInB, Classical.not_not] at x
        rcases g with g | ⟨-, g⟩
        · exact absurd g x.1
        · exact x.2 (Int32.lt_of_lt_of_le (show (3 : Int32) < nI 4 by decide) g)
      · exfalso
        rw [pb_t, isInB, Classical.not_not] at x
        rcases g with g | ⟨-, g⟩
        · exact absurd g x.1
        · exact x.2 (Int32.lt_of_lt_of_le (show (3 : Int32) < nI 4 by decide) g)
    have le3 : nI r ≤ (3 : Int32) := by rw [show (3 : Int32) = nI 3 from rfl, nI_leI (by omega) (by decide)]; omega
    have in3 : (decide ((0 : Int32) ≤ nI r) && decide (nI r ≤ 3)) = true := isInB.mpr ⟨g3, by rw [show (3 : Int32) = nI 3 from rfl, nI_ltI (by decide) (by omega)]; omega⟩
    have c34 : ∀ (d : Nat) (Q : Option Value → aw_H → Prop), aw_m X (d + 2) y_AW_isName [.int v4] (aw_s I L D) (fun rr A => aw_z X (d + 2 + 1) y_AW_law Q 34 [some (.ref 0), some (.int (nI s)), some (.int (nI a)), some (.int (nI r)), some (.int v4), none] (rr.toList ++ []) A) → aw_m X (d + 3) y_AW_law [.ref 0, .int (nI s), .int (nI a), .int (nI r), .int v4] (aw_s I L D) Q := fun d Q q =>
      c15 d Q (b_AW_law_15 (fun x => absurd x (by decide)) (fun _ x => absurd x g3) (fun _ _ _ => q) (fun _ _ x => absurd le3 x))
    have m43 : ∀ (d : Nat) (Q : Option Value → aw_H → Prop) (v5 : Int32), aw_z X (d + 5 + 1) y_M_law Q 43 [some (.ref 69), some (.int (nI s)), some (.int (nI a)), some (.int (nI r)), some (.int v4), some (.int v5), none, none] [.int 1] (aw_s (aw_u I 69 0 0) L D) → aw_z X (d + 5 + 1) y_M_law Q 17 [some (.ref 69), some (.int (nI s)), some (.int (nI a)), some (.int (nI r)), some (.int v4), none, none, none] [.int v5] (aw_s (aw_u I 69 0 0) L D) := fun d Q v5 k => m34 d Q v5 (b_M_law_34 (fun x => absurd x (by decide)) (fun _ => c_M_isIn (by rw [in3]; exact k)))
    by_cases h100 : v4 < 100
    · -- against a name
      rcases i32_R (show 8 < 2 ^ 31 by decide) v4 with g | ⟨c, hc, rfl, k1, k2⟩
      · refine ⟨-1, fun d Q q => c34 d Q (aw_go rfl rfl (b_AW_isName_0 (fun _ => b_AW_law_34 (fun _ _ => q) (fun _ x => absurd h100 x) (fun x => absurd rfl x)) (fun _ _ => b_AW_law_34 (fun _ _ => q) (fun _ x => absurd h100 x) (fun x => absurd rfl x)) (fun x y => ?_))), fun d Q q => m0 d Q (fun v5 f0 _ => m43 d Q v5 (b_M_law_43 (fun x => absurd x (by decide)) (fun _ x => absurd (f0 h100) x) (fun _ _ => c_M_isIn (b_M_law_59 (fun _ => q _ _ rz (au_s _ _ _ _) fz) (fun x => ?_)))))⟩
        · exfalso
          rcases g with g | ⟨-, g⟩
          · exact absurd g x
          · exact absurd g y
        · exfalso
          rw [pb_t, isInB, Classical.not_not] at x
          rcases g with g | ⟨-, g⟩
          · exact absurd g x.1
          · exact x.2 (Int32.lt_of_lt_of_le (show (7 : Int32) < nI 8 by decide) g)
      · obtain ⟨r1, r2⟩ := relW_ok (R := 2 ^ (B * (T + O))) ha hc hb
        have hA := hA_1 _ r1 r hr
        have in7c : (decide ((0 : Int32) ≤ nI c) && decide (nI c ≤ 7)) = true := isInB.mpr ⟨k1, by rw [show (7 : Int32) = nI 7 from rfl, nI_ltI (by decide) (by omega)]; omega⟩
        refine ⟨nI (hAw (relW E (2 ^ (B * (T + O))) s a c) r), fun d Q q => c34 d Q (aw_go rfl rfl (b_AW_isName_0 (fun x => absurd x k1) (fun _ x => absurd x k2) (fun _ _ => b_AW_law_34 (fun x => absurd x (by decide)) (fun x => absurd x (by decide)) (fun _ => c_Wk_relationsOf (d := d + 1) hs ha hc h.2.2.1.2.2.2.2.2.2.2.2.2.1 (b_AW_law_48 (c_holdsAlways r1 r2 hr (b_AW_law_52 (fun z => ?_) (fun z => ?_)))))))), fun d Q q => m0 d Q (fun v5 f0 _ => m43 d Q v5 (b_M_law_43 (fun x => absurd x (by decide)) (fun _ x => absurd (f0 h100) x) (fun _ _ => c_M_isIn (b_M_law_59 (fun x => absurd in7c (pb_t.mp x)) (fun _ => b_M_law_62 (fun _ => b_M_law_81 (fun x => absurd (f0 h100) x) (fun _ => c_M_standing (d := d) h.z (by rw [au_k (by decide)]; exact h48) hs ha hc (fun I2 L2 g f e0 => ?_))) (fun x => absurd (f0 h100) x))))))⟩
        · rw [z] at q; exact q
        · have : hAw (relW E (2 ^ (B * (T + O))) s a c) r < 2 := (hA.resolve_left r2).1
          have : hAw (relW E (2 ^ (B * (T + O))) s a c) r = 1 := by
            rcases (show hAw (relW E (2 ^ (B * (T + O))) s a c) r = 0 ∨ hAw (relW E (2 ^ (B * (T + O))) s a c) r = 1 by omega) with y | y
            · rw [y] at z; exact absurd rfl z
            · exact y
          rw [this] at q; exact q
        · have fin := q I2 L2 (Or.inr ⟨S, F, B, T, O, E, n, wl, wc, wi, g⟩) (by rw [e0, au_s]) f.z
          have e33 : I2 69 33 = nI B := g.2.1.2.2.2.1
          have v50 : v5 = 0 := f0 h100
          refine b_M_law_97 (b_M_law_102 (c_M_mask hk.1 hk.2.1 e33 (b_M_law_108 (fun _ => l_M_holdsA r1 r2 hr fin) (fun _ _ => l_M_holdsA r1 r2 hr fin) (fun _ x => absurd v50 x) (fun _ x => absurd v50 x) (fun _ x => absurd v50 x) (fun _ x => absurd v50 x) (fun _ x => absurd v50 x))))
    · -- against a number
      obtain ⟨u, rfl, hu⟩ := i32_nat (x := v4) (fun z => h100 (Int32.lt_trans z (by decide)))
      have u100 : 100 ≤ u := by
        rw [show (100 : Int32) = nI 100 from rfl, nI_ltI hu (by decide)] at h100; omega
      have n8 : ¬ nI u < 0 ∧ (8 : Int32) ≤ nI u := ⟨nI_pos hu, by rw [show (8 : Int32) = nI 8 from rfl, nI_leI (by decide) hu]; omega⟩
      obtain ⟨o, rfl⟩ : ∃ o, u = 100 + o := ⟨u - 100, by omega⟩
      have e100 : nI (100 + o) - 100 = nI o := by rw [show (100 : Int32) = nI 100 from rfl, pk_sub (by omega)]; exact congrArg nI (by omega)
      have s1 : I 1 0 = nI B := h.2.1.1
      have e33 : (aw_u I 69 0 0) 69 33 = nI B := by rw [au_k (by decide)]; exact h.2.1.2.2.2.1
      have cle : nI (100 + o) ≤ 100 + mk B ↔ o ≤ 2 ^ B - 1 := by
        show nI (100 + o) ≤ nI 100 + nI (2 ^ B - 1) ↔ _
        rw [nI_add, nI_leI (by omega) (by omega)]; omega
      have mle : nI (100 + o) - 100 ≤ mk B ↔ o ≤ 2 ^ B - 1 := by
        rw [e100]
        show nI o ≤ nI (2 ^ B - 1) ↔ _
        rw [nI_leI (by omega) (by omega)]
      by_cases ho : o ≤ 2 ^ B - 1
      · have o64 : o < 64 := by omega
        have e18 : L 18 (8 * s + a) = mayW E (2 ^ (B * (T + O))) (8 * s + a) := h.2.2.1.2.2.2.2.2.2.2.2.1 _ (by omega)
        have ix : nI s * 8 + nI a = nI (8 * s + a) := by rw [show (8 : Int32) = nI 8 from rfl, pk_mul, nI_add]; exact congrArg nI (by omega)
        have ne := (Bgn.may (a := a) hk.2.1 hW ha).mp hb
        have bex : ∃ p q t : Bool, (p = true ↔ ∃ v, v < 64 ∧ v < o ∧ lb (mayW E (2 ^ (B * (T + O))) (8 * s + a)) v = true) ∧ (q = true ↔ lb (mayW E (2 ^ (B * (T + O))) (8 * s + a)) o = true) ∧ (t = true ↔ ∃ v, v < 64 ∧ o < v ∧ lb (mayW E (2 ^ (B * (T + O))) (8 * s + a)) v = true) := by
          have dec : ∀ P : Prop, ∃ b : Bool, b = true ↔ P := fun P => by
            rcases Classical.em P with z | z
            · exact ⟨true, fun _ => z, fun _ => rfl⟩
            · exact ⟨false, fun t => absurd t Bool.false_ne_true, fun t => absurd t z⟩
          obtain ⟨p, hp⟩ := dec (∃ v, v < 64 ∧ v < o ∧ lb (mayW E (2 ^ (B * (T + O))) (8 * s + a)) v = true)
          obtain ⟨t, ht⟩ := dec (∃ v, v < 64 ∧ o < v ∧ lb (mayW E (2 ^ (B * (T + O))) (8 * s + a)) v = true)
          exact ⟨p, _, t, hp, Iff.rfl, ht⟩
        obtain ⟨p, qb, t, hp, hq, ht⟩ := bex
        have nz : encB p qb t ≠ 0 := (enc_all p qb t).2.2.2.2 (by
          obtain ⟨v, v1, v2⟩ := lb_ne.mp ne
          rcases Nat.lt_trichotomy v o with g | g | g
          · exact Or.inl (hp.mpr ⟨v, v1, g, v2⟩)
          · subst g; exact Or.inr (Or.inl (hq.mpr v2))
          · exact Or.inr (Or.inr (ht.mpr ⟨v, v1, g, v2⟩)))
        have hA := hA_1 _ (enc_all p qb t).1 r hr
        refine ⟨nI (hAw (encB p qb t) r), fun d Q q => c34 d Q (aw_go rfl rfl (b_AW_isName_0 (fun x => absurd x n8.1) (fun _ _ => b_AW_law_34 (fun _ x => absurd x h100) (fun _ _ => c_Sz_gr hk.1 hk.2.1 s1 (b_AW_law_79 (fun _ => aw_go rfl rfl (b_Wk_numbersOf_0 (by
            rw [ix]
            exact c_valueAtJ (N := 480) (by decide) rfl (by decide) (show 8 * s + a < 480 by omega) (b_Wk_numbersOf_13 (b_AW_law_94 (by
              rw [e18, e100]
              refine c_relationsTo o64 (fun p' q' t' hp' hq' ht' => ?_)
              have e1 : p' = p := Bool.eq_iff_iff.mpr (hp'.trans hp.symm)
              have e2 : q' = qb := Bool.eq_iff_iff.mpr (hq'.trans hq.symm)
              have e3 : t' = t := Bool.eq_iff_iff.mpr (ht'.trans ht.symm)
              subst e1
              subst e2
              subst e3
              refine b_AW_law_102 (c_holdsAlways (enc_all _ _ _).1 nz hr (b_AW_law_110 (fun z => ?_) (fun z => ?_)))
              · rw [z] at q; exact q
              · have : hAw (encB p' q' t') r < 2 := (hA.resolve_left nz).1
                have : hAw (encB p' q' t') r = 1 := by
                  rcases (show hAw (encB p' q' t') r = 0 ∨ hAw (encB p' q' t') r = 1 by omega) with y | y
                  · rw [y] at z; exact absurd rfl z
                  · exact y
                rw [this] at q; exact q)))))) (fun x => absurd (cle.mpr ho) x))) (fun x => absurd rfl x)) (fun _ x => absurd n8.2 x))), fun d Q q => m0 d Q (fun v5 _ f1 => m43 d Q v5 (b_M_law_43 (fun x => absurd x (by decide)) (fun _ _ => b_M_law_62 (fun x => absurd ((f1 h100).symm.trans x) (by decide)) (fun _ => c_M_mask hk.1 hk.2.1 e33 (b_M_law_76 (fun _ => b_M_law_81 (fun _ => ?_) (fun x => absurd ((f1 h100).symm.trans x) (by decide))) (fun x => absurd (mle.mpr ho) x)))) (fun _ x => absurd ((f1 h100).symm.trans x) (by decide))))⟩
        rw [f1 h100]
        exact l_M_law (d := d + 5) h.z hs ha o64 hr hp hq ht nz (q _ _ rz (au_s _ _ _ _) fz) (2 ^ B) 0 false false false (Nat.zero_add _) ⟨fun c => absurd c Bool.false_ne_true, fun ⟨v, c, _⟩ => absurd c (Nat.not_lt_zero v)⟩ ⟨fun c => absurd c Bool.false_ne_true, fun c => absurd c.1 (Nat.not_lt_zero o)⟩ ⟨fun c => absurd c Bool.false_ne_true, fun ⟨v, c, _⟩ => absurd c (Nat.not_lt_zero v)⟩
      · exact ⟨-1, fun d Q q => c34 d Q (aw_go rfl rfl (b_AW_isName_0 (fun x => absurd x n8.1) (fun _ _ => b_AW_law_34 (fun _ x => absurd x h100) (fun _ _ => c_Sz_gr hk.1 hk.2.1 s1 (b_AW_law_79 (fun x => absurd (cle.mp x) ho) (fun _ => q))) (fun x => absurd rfl x)) (fun _ x => absurd n8.2 x))), fun d Q q => m0 d Q (fun v5 _ f1 => m43 d Q v5 (b_M_law_43 (fun x => absurd x (by decide)) (fun _ _ => b_M_law_62 (fun x => absurd ((f1 h100).symm.trans x) (by decide)) (fun _ => c_M_mask hk.1 hk.2.1 e33 (b_M_law_76 (fun x => absurd (mle.mp x) ho) (fun _ => q _ _ rz (au_s _ _ _ _) fz)))) (fun _ x => absurd ((f1 h100).symm.trans x) (by decide))))⟩
  · exact ⟨-1, fun d Q q => aw_go rfl rfl (b_AW_law_0 (w1 _ _ (b_AW_law_8 (fun _ => q) (fun x => absurd rfl x)))), fun d Q q => m0 d Q (fun v5 _ _ => b_M_law_17 (w2 _ _ _ (au_k (by decide)) (au_o (by decide)) (b_M_law_24 (fun _ => q _ _ rz (au_s _ _ _ _) fz) (fun x => absurd rfl x))))⟩
end LAW
