/-! PART a2: the lowest bit -/
/-- the lowest bit, by halving -/
def tz : Nat → Nat → Nat
  | 0, _ => 0
  | f + 1, x => if x % 2 = 1 then 0 else tz f (x / 2) + 1
theorem tz_sp : ∀ f x, 0 < x → x < 2 ^ f → tz f x < f ∧ ∃ u, x = 2 ^ tz f x * (2 * u + 1)
  | 0, x, h1, h2 => by have : x < 1 := h2; omega
  | f + 1, x, h1, h2 => by
    rw [tz]
    by_cases g : x % 2 = 1
    · rw [if_pos g]
      exact ⟨Nat.succ_pos _, x / 2, by omega⟩
    · rw [if_neg g]
      rw [Nat.pow_succ] at h2
      obtain ⟨a, u, b⟩ := tz_sp f (x / 2) (by omega) (by omega)
      refine ⟨by omega, u, ?_⟩
      rw [Nat.pow_succ, Nat.mul_right_comm, ← b]
      omega
theorem tz_div {x t u s : Nat} (h : x = 2 ^ t * (2 * u + 1)) (hs : s ≤ t) : x / 2 ^ s % 2 = if s = t then 1 else 0 := by
  subst h
  by_cases g : s = t
  · subst g
    rw [if_pos rfl, Nat.mul_div_cancel_left _ (Nat.two_pow_pos _)]; omega
  · rw [if_neg g]
    have e : 2 ^ t * (2 * u + 1) = 2 ^ s * (2 * (2 ^ (t - s - 1) * (2 * u + 1))) := by
      rw [← Nat.mul_assoc 2, ← Nat.pow_succ', ← Nat.mul_assoc, ← Nat.pow_add, show s + (t - s - 1).succ = t by omega]
    rw [e, Nat.mul_div_cancel_left _ (Nat.two_pow_pos _)]; omega
theorem sar31 {q s : Nat} (hs : s ≤ 31) (hq : q < 2 ^ 31) : (nI q) >>> ((nI s) &&& 31) = nI (q / 2 ^ s) := by
  have e : ((nI s &&& 31).toBitVec.smod 32#32).toNat = s := (show ∀ s, s < 32 → ((nI s &&& 31).toBitVec.smod 32#32).toNat = s by decide +kernel) s (by omega)
  have hd : q / 2 ^ s ≤ q := Nat.div_le_self _ _
  have hn : (nI q).toBitVec.toNat = q := by rw [pk_tn]; omega
  have hm : (nI q).toBitVec.msb = false := by rw [BitVec.msb_eq_decide, hn]; simp; omega
  apply Int32.toBitVec_inj.mp
  apply BitVec.eq_of_toNat_eq
  rw [pk_tn (by omega)]
  show ((nI q).toBitVec.sshiftRight ((nI s &&& 31).toBitVec.smod 32#32).toNat).toNat = _
  rw [e, BitVec.sshiftRight_eq_of_msb_false hm, BitVec.toNat_ushiftRight, hn, Nat.shiftRight_eq_div_pow]
theorem and1 {q : Nat} (hq : q < 2 ^ 31) : nI q &&& 1 = nI (q % 2) := pk_andN (m := 1) (by omega) 1 (by decide)
/-- all bits below the lowest one -/
theorem low_ones {x t u : Nat} (h : x = 2 ^ t * (2 * u + 1)) : (nI x ^^^ -1) &&& (nI x - 1) = nI (2 ^ t - 1) := by
  have hx : 1 ≤ x := by rw [h]; exact Nat.mul_pos (Nat.two_pow_pos t) (Nat.succ_pos _)
  have p := Nat.two_pow_pos t
  have e1 : x - 1 = 2 ^ (t + 1) * u + (2 ^ t - 1) := by
    rw [h, Nat.pow_succ, Nat.mul_add, Nat.mul_one, Nat.mul_assoc]; omega
  have lt : 2 ^ t - 1 < 2 ^ (t + 1) := by rw [Nat.pow_succ]; omega
  have bx : ∀ i, x.testBit i = (decide (t ≤ i) && (2 * u + 1).testBit (i - t)) := fun i => by rw [h, Nat.testBit_two_pow_mul]
  have bm : ∀ i, (x - 1).testBit i = ((decide (t + 1 ≤ i) && u.testBit (i - (t + 1))) || decide (i < t)) := fun i => by
    rw [e1, Nat.two_pow_add_eq_or_of_lt lt, Nat.testBit_or, Nat.testBit_two_pow_mul, Nat.testBit_two_pow_sub_one]
  rw [show (1 : Int32) = nI 1 from rfl, pk_sub hx]
  apply Int32.toBitVec_inj.mp
  show (BitVec.ofNat 32 x ^^^ (-nI 1 : Int32).toBitVec) &&& BitVec.ofNat 32 (x - 1) = BitVec.ofNat 32 (2 ^ t - 1)
  rw [show (-nI 1 : Int32).toBitVec = BitVec.allOnes 32 by decide]
  apply BitVec.eq_of_getLsbD_eq
  intro i hi
  rw [BitVec.getLsbD_and, BitVec.getLsbD_xor, BitVec.getLsbD_allOnes, BitVec.getLsbD_ofNat, BitVec.getLsbD_ofNat, BitVec.getLsbD_ofNat, bx, bm, Nat.testBit_two_pow_sub_one]
  rcases Nat.lt_trichotomy i t with g | g | g
  · simp [hi, g, show ¬ t ≤ i by omega]
  · subst g; simp [hi]
  · have e2 : i - t = (i - (t + 1)) + 1 := by omega
    rw [e2, Nat.testBit_succ, show (2 * u + 1) / 2 = u by omega]
    simp [hi, show ¬ i < t by omega, show t ≤ i by omega, show t + 1 ≤ i by omega]
section NTZ
variable {X : aw_X} {d : Nat} {Q : Option Value → aw_H → Prop} {I : Nat → Nat → Int32} {L : Nat → Nat → Int64} {D : Nat → Nat}
theorem ntz62 {s n : Nat} (h1 : 1 ≤ s) (h4 : s ≤ 4) (hQ : Q (some (.int (nI (n + s - 1)))) (aw_s I L D)) : aw_z X d y_JI_numberOfTrailingZeros Q 62 [some (.int (nI (2 ^ s - 1))), some (.int (nI n))] [] (aw_s I L D) := by
  rcases (show s = 1 ∨ s = 2 ∨ s = 3 ∨ s = 4 by omega) with rfl | rfl | rfl | rfl
  · refine b_JI_numberOfTrailingZeros_62 (fun _ => ?_) (fun q => absurd (by decide) q)
    rw [show ((nI (2 ^ 1 - 1)).toUInt32 >>> ((1 : Int32).toUInt32 &&& Int32.toUInt32 31)).toInt32 = nI 0 by decide +kernel, nI_add]; exact hQ
  · refine b_JI_numberOfTrailingZeros_62 (fun _ => ?_) (fun q => absurd (by decide) q)
    rw [show ((nI (2 ^ 2 - 1)).toUInt32 >>> ((1 : Int32).toUInt32 &&& Int32.toUInt32 31)).toInt32 = nI 1 by decide +kernel, nI_add]; exact hQ
  · refine b_JI_numberOfTrailingZeros_62 (fun q => absurd q (by decide)) (fun _ => ?_)
    rw [show ((((nI (2 ^ 3 - 1)).toUInt32 >>> ((2 : Int32).toUInt32 &&& Int32.toUInt32 31)).toInt32).toUInt32 >>> ((1 : Int32).toUInt32 &&& Int32.toUInt32 31)).toInt32 = nI 0 by decide +kernel, show (2 : Int32) = nI 2 from rfl, nI_add, nI_add]; exact hQ
  · refine b_JI_numberOfTrailingZeros_62 (fun q => absurd q (by decide)) (fun _ => ?_)
    rw [show ((((nI (2 ^ 4 - 1)).toUInt32 >>> ((2 : Int32).toUInt32 &&& Int32.toUInt32 31)).toInt32).toUInt32 >>> ((1 : Int32).toUInt32 &&& Int32.toUInt32 31)).toInt32 = nI 1 by decide +kernel, show (2 : Int32) = nI 2 from rfl, nI_add, nI_add]; exact hQ
theorem ntz49 {s n : Nat} (h1 : 1 ≤ s) (h4 : s ≤ 8) (hQ : Q (some (.int (nI (n + s - 1)))) (aw_s I L D)) : aw_z X d y_JI_numberOfTrailingZeros Q 49 [some (.int (nI (2 ^ s - 1))), some (.int (nI n))] [] (aw_s I L D) := by
  have sm : ∀ s, s < 9 → (s ≤ 4 → nI (2 ^ s - 1) ≤ (16 : Int32)) ∧ (4 < s → ¬ nI (2 ^ s - 1) ≤ (16 : Int32) ∧ ((nI (2 ^ s - 1)).toUInt32 >>> ((4 : Int32).toUInt32 &&& Int32.toUInt32 31)).toInt32 = nI (2 ^ (s - 4) - 1)) := by decide +kernel
  by_cases g : s ≤ 4
  · exact b_JI_numberOfTrailingZeros_49 (fun _ => ntz62 h1 g hQ) (fun q => absurd ((sm s (by omega)).1 g) q)
  · obtain ⟨a, b⟩ := (sm s (by omega)).2 (by omega)
    refine b_JI_numberOfTrailingZeros_49 (fun q => absurd q a) (fun _ => ?_)
    rw [b, show (4 : Int32) = nI 4 from rfl, nI_add]
    exact ntz62 (by omega) (by omega) (by rw [show n + 4 + (s - 4) - 1 = n + s - 1 by omega]; exact hQ)
theorem ntz34 {s n : Nat} (h1 : 1 ≤ s) (h4 : s ≤ 16) (hQ : Q (some (.int (nI (n + s - 1)))) (aw_s I L D)) : aw_z X d y_JI_numberOfTrailingZeros Q 34 [some (.int (nI (2 ^ s - 1))), some (.int (nI n))] [] (aw_s I L D) := by
  have sm : ∀ s, s < 17 → (s ≤ 8 → nI (2 ^ s - 1) ≤ (256 : Int32)) ∧ (8 < s → ¬ nI (2 ^ s - 1) ≤ (256 : Int32) ∧ ((nI (2 ^ s - 1)).toUInt32 >>> ((8 : Int32).toUInt32 &&& Int32.toUInt32 31)).toInt32 = nI (2 ^ (s - 8) - 1)) := by decide +kernel
  by_cases g : s ≤ 8
  · exact b_JI_numberOfTrailingZeros_34 (fun _ => ntz49 h1 g hQ) (fun q => absurd ((sm s (by omega)).1 g) q)
  · obtain ⟨a, b⟩ := (sm s (by omega)).2 (by omega)
    refine b_JI_numberOfTrailingZeros_34 (fun q => absurd q a) (fun _ => ?_)
    rw [b, show (8 : Int32) = nI 8 from rfl, nI_add]
    exact ntz49 (by omega) (by omega) (by rw [show n + 8 + (s - 8) - 1 = n + s - 1 by omega]; exact hQ)
/-- the JDK's method, at a number with a lowest bit -/
theorem c_ntz {x t u : Nat} (h : x = 2 ^ t * (2 * u + 1)) (ht : t ≤ 31) (hQ : Q (some (.int (nI t))) (aw_s I L D)) : aw_m X d y_JI_numberOfTrailingZeros [.int (nI x)] (aw_s I L D) Q := by
  have B0 := @b_JI_numberOfTrailingZeros_0 X d Q I L D (nI x)
  rw [low_ones h] at B0
  have sm : ∀ s, s < 32 → (s = 0 → ¬ (0 : Int32) < nI (2 ^ s - 1) ∧ nI (2 ^ s - 1) &&& (32 : Int32) = nI 0) ∧ (1 ≤ s → (0 : Int32) < nI (2 ^ s - 1)) ∧ (s ≤ 16 → nI (2 ^ s - 1) ≤ (65536 : Int32)) ∧ (16 < s → ¬ nI (2 ^ s - 1) ≤ (65536 : Int32) ∧ ((nI (2 ^ s - 1)).toUInt32 >>> ((16 : Int32).toUInt32 &&& Int32.toUInt32 31)).toInt32 = nI (2 ^ (s - 16) - 1)) := by decide +kernel
  obtain ⟨s1, s2, s3, s4⟩ := sm t (by omega)
  refine aw_go rfl rfl (B0 (fun q1 q2 => ?_) (fun q1 q2 => ?_) (fun q => ?_))
  · have t1 : 1 ≤ t := by
      rcases Nat.eq_zero_or_pos t with g | g
      · exact absurd q1 (s1 g).1
      · exact g
    have t16 : t ≤ 16 := by
      rcases Nat.lt_or_ge 16 t with g | g
      · exact absurd q2 (s4 g).1
      · exact g
    exact ntz34 (n := 1) t1 t16 (by rw [show 1 + t - 1 = t by omega]; exact hQ)
  · have t16 : 16 < t := by
      rcases Nat.lt_or_ge 16 t with g | g
      · exact g
      · exact absurd (s3 g) q2
    rw [(s4 t16).2]
    exact ntz34 (n := 17) (by omega) (by omega) (by rw [show 17 + (t - 16) - 1 = t by omega]; exact hQ)
  · have t0 : t = 0 := by
      rcases Nat.eq_zero_or_pos t with g | g
      · exact g
      · exact absurd (s2 g) q
    rw [(s1 t0).2]
    rw [t0] at hQ
    exact hQ
/-- the reference's own search -/
theorem l_M_lowest {x t u : Nat} (h : x = 2 ^ t * (2 * u + 1)) (hx : x < 2 ^ 31) (ht : t ≤ 31) (hQ : Q (some (.int (nI t))) (aw_s I L D)) : ∀ m s, s + m = t → aw_z X d y_M_lowest Q 2 [some (.int (nI x)), some (.int (nI s))] [] (aw_s I L D) := by
  have cond : ∀ s, s ≤ t → (((nI x >>> (nI s &&& 31)) &&& 1) = 0 ↔ s ≠ t) := fun s hs => by
    have hd : x / 2 ^ s ≤ x := Nat.div_le_self _ _
    rw [sar31 (by omega) hx, and1 (by omega), tz_div h hs, show (0 : Int32) = nI 0 from rfl, nI_eq (by split <;> omega) (by decide)]
    split <;> omega
  intro m
  induction m with
  | zero =>
    intro s e
    have : s = t := by omega
    subst this
    exact b_M_lowest_2 (fun _ => hQ) (fun q => absurd rfl ((cond s (Nat.le_refl _)).mp q))
  | succ m ih =>
    intro s e
    refine b_M_lowest_2 (fun q => absurd ((cond s (by omega)).mpr (by omega)) q) (fun _ => ?_)
    rw [nI_1]
    exact ih (s + 1) (by omega)
theorem c_M_lowest {x t u : Nat} (h : x = 2 ^ t * (2 * u + 1)) (hx : x < 2 ^ 31) (ht : t ≤ 31) (hQ : Q (some (.int (nI t))) (aw_s I L D)) : aw_m X (d + 1) y_M_lowest [.int (nI x)] (aw_s I L D) Q :=
  aw_go rfl rfl (b_M_lowest_0 (l_M_lowest h hx ht hQ t 0 (by omega)))
end NTZ
