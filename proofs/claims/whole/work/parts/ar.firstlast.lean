/-! PART ar: the first and the last bit of a long -/
def frB (x : Nat) : Nat → Int32
  | 0 => -1
  | n + 1 => if x.testBit n = true ∧ frB x n = -1 then nI n else frB x n
def laB (x : Nat) : Nat → Int32
  | 0 => -1
  | n + 1 => if x.testBit n = true then nI n else laB x n
theorem frB_lo {x t : Nat} : ∀ n, n ≤ t → (∀ j, j < t → x.testBit j = false) → frB x n = -1
  | 0, _, _ => rfl
  | n + 1, h, f => by rw [frB, if_neg (fun q => by rw [f n (by omega)] at q; exact Bool.false_ne_true q.1)]; exact frB_lo n (by omega) f
theorem frB_at {x t : Nat} (ht : t < 64) (h : x.testBit t = true) (f : ∀ j, j < t → x.testBit j = false) : ∀ n, t < n → n ≤ 64 → frB x n = nI t
  | 0, h0, _ => absurd h0 (Nat.not_lt_zero _)
  | n + 1, h0, h1 => by
    rw [frB]
    by_cases g : n = t
    · subst g; rw [if_pos ⟨h, frB_lo n (Nat.le_refl _) f⟩]
    · have ih := frB_at ht h f n (by omega) (by omega)
      rw [ih, if_neg (fun q => nI_ne1 (show t < 2 ^ 31 by omega) q.2)]
theorem laB_at {x t : Nat} (h : x.testBit t = true) : ∀ n, t < n → (∀ j, t < j → j < n → x.testBit j = false) → laB x n = nI t
  | 0, h0, _ => absurd h0 (Nat.not_lt_zero _)
  | n + 1, h0, f => by
    rw [laB]
    by_cases g : n = t
    · subst g; rw [if_pos h]
    · rw [if_neg (by rw [f n (by omega) (by omega)]; exact Bool.false_ne_true)]
      exact laB_at h n (by omega) (fun j p q => f j p (by omega))
theorem ln_of (y : Int64) : y = lN y.toBitVec.toNat := by
  apply Int64.toBitVec_inj.mp
  show y.toBitVec = BitVec.ofNat 64 y.toBitVec.toNat
  rw [BitVec.ofNat_toNat, BitVec.setWidth_eq]
theorem neg_add {k n : Nat} {c : Int32} (hc : nI k + c = 0) : nI (n + k) + c = nI n := by
  rw [← nI_add, Int32.add_assoc, hc, Int32.add_zero]
section NLZ
variable {X : aw_X} {d : Nat} {Q : Option Value → aw_H → Prop} {I : Nat → Nat → Int32} {L : Nat → Nat → Int64} {D : Nat → Nat}
theorem nlz61 {y h n : Nat} (h1 : 2 ^ h ≤ y) (h2 : y < 2 ^ (h + 1)) (h4 : h < 4) (hn : 3 ≤ n) (hn2 : n < 100) (hQ : Q (some (.int (nI (n - h)))) (aw_s I L D)) : aw_z X d y_JI_numberOfLeadingZeros Q 61 [some (.int (nI y)), some (.int (nI n))] [] (aw_s I L D) := by
  have hy : y < 16 := Nat.lt_of_lt_of_le h2 (Nat.pow_le_pow_right (n := 2) (by decide) (show h + 1 ≤ 4 by omega))
  have c4 : nI y < 4 ↔ y < 4 := nI_ltI (b := 4) (by omega) (by decide)
  have sh : ∀ (y s : Nat) (c : Int32), s ≤ 31 → y < 2 ^ 32 → c = nI s → ((nI y).toUInt32 >>> (c.toUInt32 &&& Int32.toUInt32 31)).toInt32 = nI (y / 2 ^ s) := fun y s c hs hy hc => by rw [hc]; exact shr31 hs hy
  have hh : y / 2 = h ∨ 4 ≤ y := by
    rcases (show h = 0 ∨ h = 1 ∨ 2 ≤ h by omega) with g | g | g
    · subst g; simp at h1 h2; omega
    · subst g; simp at h1 h2; omega
    · have : 2 ^ 2 ≤ 2 ^ h := Nat.pow_le_pow_right (n := 2) (by decide) g
      omega
  refine b_JI_numberOfLeadingZeros_61 (fun q => ?_) (fun q => ?_)
  · have q := c4.mp q
    rw [sh y 1 1 (by decide) (by omega) rfl, Nat.pow_one, pk_sub (by omega)]
    have : y / 2 = h := by omega
    rw [this]; exact hQ
  · have q : 4 ≤ y := Nat.le_of_not_lt (fun z => q (c4.mpr z))
    have e2 : nI n + (-2) = nI (n - 2) := by
      have := neg_add (n := n - 2) (k := 2) (c := -2) (by decide)
      rw [Nat.sub_add_cancel (by omega)] at this; exact this
    rw [sh y 2 2 (by decide) (by omega) rfl, sh (y / 2 ^ 2) 1 1 (by decide) (by omega) rfl, e2, Nat.pow_one, pk_sub (by omega)]
    have : n - 2 - y / 2 ^ 2 / 2 = n - h := by
      rcases (show h = 0 ∨ h = 1 ∨ h = 2 ∨ h = 3 by omega) with g | g | g | g <;> subst g <;> simp at h1 h2 <;> omega
    rw [this]; exact hQ
theorem nlz_sh {y h s : Nat} (h1 : 2 ^ h ≤ y) (h2 : y < 2 ^ (h + 1)) (hs : s ≤ h) : 2 ^ (h - s) ≤ y / 2 ^ s ∧ y / 2 ^ s < 2 ^ (h - s + 1) := by
  have p := Nat.two_pow_pos s
  rw [Nat.le_div_iff_mul_le p, Nat.div_lt_iff_lt_mul p, ← Nat.pow_add, ← Nat.pow_add, show h - s + s = h by omega, show h - s + 1 + s = h + 1 by omega]
  exact ⟨h1, h2⟩
theorem nlz_lt {y h k : Nat} (h1 : 2 ^ h ≤ y) (h2 : y < 2 ^ (h + 1)) : y < 2 ^ k ↔ h < k := by
  constructor
  · intro z
    exact (Nat.pow_lt_pow_iff_right (by decide)).mp (Nat.lt_of_le_of_lt h1 z)
  · intro z
    exact Nat.lt_of_lt_of_le h2 (Nat.pow_le_pow_right (by decide) z)
theorem nlz48 {y h n : Nat} (h1 : 2 ^ h ≤ y) (h2 : y < 2 ^ (h + 1)) (h4 : h < 8) (hn : 7 ≤ n) (hn2 : n < 100) (hQ : Q (some (.int (nI (n - h)))) (aw_s I L D)) : aw_z X d y_JI_numberOfLeadingZeros Q 48 [some (.int (nI y)), some (.int (nI n))] [] (aw_s I L D) := by
  have hy : y < 2 ^ 8 := (nlz_lt h1 h2).mpr h4
  have c4 : nI y < 16 ↔ y < 2 ^ 4 := nI_ltI (b := 16) (by omega) (by decide)
  refine b_JI_numberOfLeadingZeros_48 (fun q => nlz61 h1 h2 ((nlz_lt h1 h2).mp (c4.mp q)) (by omega) hn2 hQ) (fun q => ?_)
  have q : 4 ≤ h := Nat.le_of_not_lt (fun z => q (c4.mpr ((nlz_lt h1 h2).mpr z)))
  have e2 : nI n + (-4) = nI (n - 4) := by
    have := neg_add (n := n - 4) (k := 4) (c := -4) (by decide)
    rw [Nat.sub_add_cancel (by omega)] at this; exact this
  obtain ⟨s1, s2⟩ := nlz_sh h1 h2 q
  have e4 : ((nI y).toUInt32 >>> ((4 : Int32).toUInt32 &&& Int32.toUInt32 31)).toInt32 = nI (y / 2 ^ 4) := shr31 (s := 4) (by decide) (by omega)
  rw [e4, e2]
  exact nlz61 s1 s2 (by omega) (by omega) (by omega) (by rw [show n - 4 - (h - 4) = n - h by omega]; exact hQ)
theorem nlz33 {y h n : Nat} (h1 : 2 ^ h ≤ y) (h2 : y < 2 ^ (h + 1)) (h4 : h < 16) (hn : 15 ≤ n) (hn2 : n < 100) (hQ : Q (some (.int (nI (n - h)))) (aw_s I L D)) : aw_z X d y_JI_numberOfLeadingZeros Q 33 [some (.int (nI y)), some (.int (nI n))] [] (aw_s I L D) := by
  have hy : y < 2 ^ 16 := (nlz_lt h1 h2).mpr h4
  have c4 : nI y < 256 ↔ y < 2 ^ 8 := nI_ltI (b := 256) (by omega) (by decide)
  refine b_JI_numberOfLeadingZeros_33 (fun q => nlz48 h1 h2 ((nlz_lt h1 h2).mp (c4.mp q)) (by omega) hn2 hQ) (fun q => ?_)
  have q : 8 ≤ h := Nat.le_of_not_lt (fun z => q (c4.mpr ((nlz_lt h1 h2).mpr z)))
  have e2 : nI n + (-8) = nI (n - 8) := by
    have := neg_add (n := n - 8) (k := 8) (c := -8) (by decide)
    rw [Nat.sub_add_cancel (by omega)] at this; exact this
  obtain ⟨s1, s2⟩ := nlz_sh h1 h2 q
  have e4 : ((nI y).toUInt32 >>> ((8 : Int32).toUInt32 &&& Int32.toUInt32 31)).toInt32 = nI (y / 2 ^ 8) := shr31 (s := 8) (by decide) (by omega)
  rw [e4, e2]
  exact nlz48 s1 s2 (by omega) (by omega) (by omega) (by rw [show n - 8 - (h - 8) = n - h by omega]; exact hQ)
theorem nI_big {x : Nat} (h1 : 2 ^ 31 ≤ x) (h2 : x < 2 ^ 32) : ¬ 0 < nI x ∧ ¬ nI x = 0 := by
  have e : (nI x).toInt = (x : Int) - 2 ^ 32 := by
    show (Int32.ofNat x).toInt = _
    rw [Int32.toInt_ofNat']
    have : ((x : Int) - 2 ^ 32).bmod Int32.size = (x : Int).bmod Int32.size := by
      show ((x : Int) - 2 ^ 32).bmod (2 ^ 32) = (x : Int).bmod (2 ^ 32)
      have t := Int.add_bmod_right ((x : Int) - 2 ^ 32) (2 ^ 32)
      rw [show (x : Int) - 2 ^ 32 + ((2 ^ 32 : Nat) : Int) = (x : Int) by omega] at t
      exact t.symm
    rw [← this]
    exact Int.bmod_eq_of_le_mul_two (by show -(2 ^ 32 : Int) ≤ _; omega) (by show _ < (2 ^ 32 : Int); omega)
  refine ⟨?_, ?_⟩
  · rw [Int32.lt_iff_toInt_lt, e, Int32.toInt_zero]; omega
  · rw [← Int32.toInt_inj, e, Int32.toInt_zero]; omega
theorem c_JInlz {x h : Nat} (h1 : 2 ^ h ≤ x) (h2 : x < 2 ^ (h + 1)) (h3 : h < 32) (hQ : Q (some (.int (nI (31 - h)))) (aw_s I L D)) : aw_m X d y_JI_numberOfLeadingZeros [.int (nI x)] (aw_s I L D) Q := by
  have x0 : 0 < x := Nat.lt_of_lt_of_le (Nat.two_pow_pos h) h1
  have x32 : x < 2 ^ 32 := (nlz_lt h1 h2).mpr h3
  by_cases g : h = 31
  · have big := nI_big (x := x) (by rw [g] at h1; exact h1) x32
    rw [g] at hQ
    exact aw_go rfl rfl (b_JI_numberOfLeadingZeros_0 (fun q => absurd q big.1) (fun q => absurd q big.1) (fun _ _ => hQ) (fun _ q => absurd q big.2))
  · have x31 : x < 2 ^ 31 := (nlz_lt h1 h2).mpr (by omega)
    have p0 : 0 < nI x := by rw [show (0 : Int32) = nI 0 from rfl, nI_ltI (by decide) x31]; exact x0
    have c4 : nI x < 65536 ↔ x < 2 ^ 16 := nI_ltI (b := 65536) x31 (by decide)
    refine aw_go rfl rfl (b_JI_numberOfLeadingZeros_0 (fun _ q => nlz33 (n := 31) h1 h2 ((nlz_lt h1 h2).mp (c4.mp q)) (by decide) (by decide) hQ) (fun _ q => ?_) (fun q => absurd p0 q) (fun q => absurd p0 q))
    have q : 16 ≤ h := Nat.le_of_not_lt (fun z => q (c4.mpr ((nlz_lt h1 h2).mpr z)))
    obtain ⟨s1, s2⟩ := nlz_sh h1 h2 q
    have e4 : ((nI x).toUInt32 >>> ((16 : Int32).toUInt32 &&& Int32.toUInt32 31)).toInt32 = nI (x / 2 ^ 16) := shr31 (s := 16) (by decide) (by omega)
    rw [e4]
    exact nlz33 (n := 15) s1 s2 (by omega) (by decide) (by decide) (by rw [show 15 - (h - 16) = 31 - h by omega]; exact hQ)
theorem i32_z {x : Nat} : nI x = 0 ↔ x % 2 ^ 32 = 0 := by
  constructor
  · intro h
    have : (nI x).toBitVec.toNat = 0 := by rw [h]; rfl
    exact this
  · intro h
    apply Int32.toBitVec_inj.mp
    apply BitVec.eq_of_toNat_eq
    exact h
theorem c_JLntz {x : Nat} (h0 : 0 < x) (h : x < 2 ^ 64) (hQ : Q (some (.int (frB x 64))) (aw_s I L D)) : aw_m X (d + 1) y_JL_numberOfTrailingZeros [.long (lN x)] (aw_s I L D) Q := by
  obtain ⟨t64, u, ex⟩ := tz_sp 64 x h0 h
  generalize tz 64 x = t at *
  have tb : ∀ j, x.testBit j = (decide (t ≤ j) && (2 * u + 1).testBit (j - t)) := fun j => by
    rw [ex, Nat.testBit_two_pow_mul]
  have ft : frB x 64 = nI t := frB_at t64 (by rw [tb, Nat.sub_self, decide_eq_true (Nat.le_refl _), Nat.testBit_zero]; simp) (fun j hj => by rw [tb, decide_eq_false (by omega)]; rfl) 64 t64 (Nat.le_refl _)
  rw [ft] at hQ
  have e32 : ((lN x).toUInt64 >>> ((32 : Int32).toInt64.toUInt64 &&& Int64.toUInt64 63)).toInt64 = lN (x / 2 ^ 32) := ln_shr (s := 32) (by decide) h
  have B0 := @b_JL_numberOfTrailingZeros_0 X d Q I L D (lN x)
  rw [e32, i32_l, i32_l, i32_z] at B0
  refine aw_go rfl rfl (B0 (fun q => ?_) (fun q => ?_))
  · have t31 : t ≤ 31 := by
      rcases Nat.lt_or_ge 31 t with g | g
      · exfalso
        apply q
        have : x = 2 ^ 32 * (2 ^ (t - 32) * (2 * u + 1)) := by rw [← Nat.mul_assoc, ← Nat.pow_add, show 32 + (t - 32) = t by omega]; exact ex
        rw [this, Nat.mul_mod_right]
      · exact g
    exact c_ntz ex t31 (b_JL_numberOfTrailingZeros_25 hQ)
  · have t32 : 32 ≤ t := by
      rcases Nat.lt_or_ge t 32 with g | g
      · exfalso
        have := tb t
        rw [Nat.sub_self, decide_eq_true (Nat.le_refl _), Nat.testBit_zero] at this
        have z : x.testBit t = (x % 2 ^ 32).testBit t := by rw [Nat.testBit_mod_two_pow, decide_eq_true g]; rfl
        rw [z, q, Nat.zero_testBit] at this
        simp at this
      · exact g
    have e2 : x / 2 ^ 32 = 2 ^ (t - 32) * (2 * u + 1) := by
      have : x = 2 ^ 32 * (2 ^ (t - 32) * (2 * u + 1)) := by rw [← Nat.mul_assoc, ← Nat.pow_add, show 32 + (t - 32) = t by omega]; exact ex
      rw [this, Nat.mul_div_cancel_left _ (by decide)]
    refine c_ntz e2 (by omega) (b_JL_numberOfTrailingZeros_17 (b_JL_numberOfTrailingZeros_25 ?_))
    rw [show (32 : Int32) = nI 32 from rfl, nI_add, show 32 + (t - 32) = t by omega]; exact hQ
theorem c_JLnlz {x : Nat} (h0 : 0 < x) (h : x < 2 ^ 64) (hQ : ∀ r : Int32, (63 : Int32) - r = laB x 64 → Q (some (.int r)) (aw_s I L D)) : aw_m X (d + 1) y_JL_numberOfLeadingZeros [.long (lN x)] (aw_s I L D) Q := by
  have h1 : 2 ^ x.log2 ≤ x := Nat.log2_self_le (by omega)
  have h2 : x < 2 ^ (x.log2 + 1) := Nat.lt_log2_self
  generalize x.log2 = t at *
  have t64 : t < 64 := (nlz_lt h1 h2).mp h
  have lt : laB x 64 = nI t := laB_at (by
    rw [Nat.testBit_eq_decide_div_mod_eq]
    obtain ⟨s1, s2⟩ := nlz_sh h1 h2 (Nat.le_refl t)
    rw [Nat.sub_self] at s1 s2
    exact decide_eq_true (by have : x / 2 ^ t = 1 := by omega
                             rw [this])) 64 t64 (fun j p _ => Nat.testBit_lt_two_pow (Nat.lt_of_lt_of_le h2 (Nat.pow_le_pow_right (by decide) p)))
  rw [lt] at hQ
  have fin : Q (some (.int (nI (63 - t)))) (aw_s I L D) := hQ _ (by rw [show (63 : Int32) = nI 63 from rfl, pk_sub (by omega)]; exact congrArg nI (by omega))
  have e32 : ((lN x).toUInt64 >>> ((32 : Int32).toInt64.toUInt64 &&& Int64.toUInt64 63)).toInt64 = lN (x / 2 ^ 32) := ln_shr (s := 32) (by decide) h
  have B0 := @b_JL_numberOfLeadingZeros_0 X d Q I L D (lN x)
  rw [e32, i32_l, i32_l, i32_z] at B0
  have hi : x / 2 ^ 32 % 2 ^ 32 = x / 2 ^ 32 := Nat.mod_eq_of_lt (by omega)
  rw [hi] at B0
  refine aw_go rfl rfl (B0 (fun q => ?_) (fun q => ?_))
  · have t32 : 32 ≤ t := Nat.le_of_not_lt (fun z => by have := (nlz_lt h1 h2).mpr z; exact q (Nat.div_eq_of_lt this))
    obtain ⟨s1, s2⟩ := nlz_sh h1 h2 t32
    exact c_JInlz s1 s2 (by omega) (b_JL_numberOfLeadingZeros_25 (by rw [show 31 - (t - 32) = 63 - t by omega]; exact fin))
  · have x32 : x < 2 ^ 32 := by omega
    have t32 : t < 32 := (nlz_lt h1 h2).mp x32
    refine c_JInlz h1 h2 t32 (b_JL_numberOfLeadingZeros_17 (b_JL_numberOfLeadingZeros_25 ?_))
    rw [show (32 : Int32) = nI 32 from rfl, nI_add, show 32 + (31 - t) = 63 - t by omega]; exact fin
end NLZ
