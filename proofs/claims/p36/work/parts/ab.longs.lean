/-! PART ab: longs: bits, shifts, comparing -/
theorem s64_e : ∀ s, s < 64 → ((nI s).toInt64 &&& 63).toBitVec.smod 64#64 = BitVec.ofNat 64 s := by decide +kernel
theorem s64_u : ∀ s, s < 64 → ((nI s).toInt64.toUInt64 &&& Int64.toUInt64 63).toNat = s := by decide +kernel
theorem ln_tn {n : Nat} (h : n < 2 ^ 64) : (lN n).toBitVec.toNat = n := by
  show (BitVec.ofNat 64 n).toNat = n
  rw [BitVec.toNat_ofNat]; exact Nat.mod_eq_of_lt h
theorem ln_shl {a s : Nat} (hs : s < 64) : lN a <<< ((nI s).toInt64 &&& 63) = lN (a * 2 ^ s) := by
  apply Int64.toBitVec_inj.mp
  apply BitVec.eq_of_toNat_eq
  show ((lN a).toBitVec <<< (((nI s).toInt64 &&& 63).toBitVec.smod 64#64)).toNat = (BitVec.ofNat 64 (a * 2 ^ s)).toNat
  rw [s64_e s hs, BitVec.shiftLeft_eq', BitVec.toNat_ofNat, Nat.mod_eq_of_lt (show s < 2 ^ 64 by omega), BitVec.toNat_shiftLeft, Nat.shiftLeft_eq]
  show (BitVec.ofNat 64 a).toNat * 2 ^ s % 2 ^ 64 = _
  rw [BitVec.toNat_ofNat, BitVec.toNat_ofNat, Nat.mod_mul_mod]
theorem ln_or (a b : Nat) : lN a ||| lN b = lN (a ||| b) := by
  apply Int64.toBitVec_inj.mp
  show BitVec.ofNat 64 a ||| BitVec.ofNat 64 b = BitVec.ofNat 64 (a ||| b)
  apply BitVec.eq_of_getLsbD_eq
  intro i hi
  simp [BitVec.getLsbD_or, BitVec.getLsbD_ofNat, Nat.testBit_or, hi]
theorem i64_n {n : Nat} (h : n < 2 ^ 31) : (nI n).toInt64 = lN n := by
  apply Int64.toInt_inj.mp
  rw [Int32.toInt_toInt64, nI_toInt h]
  show _ = (Int64.ofNat n).toInt
  rw [Int64.toInt_ofNat_of_lt (by omega)]
theorem i32_l (n : Nat) : (lN n).toInt32 = nI n := by
  apply Int32.toBitVec_inj.mp
  show (BitVec.ofNat 64 n).signExtend 32 = BitVec.ofNat 32 n
  rw [BitVec.signExtend_eq_setWidth_of_le _ (by decide)]
  apply BitVec.eq_of_toNat_eq
  rw [BitVec.toNat_setWidth, BitVec.toNat_ofNat, BitVec.toNat_ofNat]
  exact Nat.mod_mod_of_dvd _ (by decide)
theorem ln_shr {q s : Nat} (hs : s < 64) (hq : q < 2 ^ 64) : ((lN q).toUInt64 >>> ((nI s).toInt64.toUInt64 &&& Int64.toUInt64 63)).toInt64 = lN (q / 2 ^ s) := by
  have hd : q / 2 ^ s ≤ q := Nat.div_le_self _ _
  apply Int64.toBitVec_inj.mp
  apply BitVec.eq_of_toNat_eq
  rw [ln_tn (by omega)]
  show ((lN q).toUInt64 >>> ((nI s).toInt64.toUInt64 &&& Int64.toUInt64 63)).toNat = _
  rw [UInt64.toNat_shiftRight, s64_u s hs]
  show (lN q).toBitVec.toNat >>> (s % 64) = _
  rw [ln_tn hq, Nat.shiftRight_eq_div_pow, Nat.mod_eq_of_lt hs]
theorem ln_toInt {a : Nat} (h : a < 2 ^ 63) : (lN a).toInt = (a : Int) := Int64.toInt_ofNat_of_lt (by omega)
theorem ln_ltI {a b : Nat} (ha : a < 2 ^ 63) (hb : b < 2 ^ 63) : lN a < lN b ↔ a < b := by
  rw [Int64.lt_iff_toInt_lt, ln_toInt ha, ln_toInt hb]; omega
theorem ln_eqI {a b : Nat} (ha : a < 2 ^ 63) (hb : b < 2 ^ 63) : lN a = lN b ↔ a = b := by
  rw [← Int64.toInt_inj, ln_toInt ha, ln_toInt hb]; omega
theorem cmp_ge {a b : Nat} (ha : a < 2 ^ 63) (hb : b < 2 ^ 63) : (0 ≤ lg_cmp (lN a) (lN b)) = (b ≤ a) := by
  unfold lg_cmp
  by_cases h1 : lN a > lN b
  · rw [if_pos h1]
    have := (ln_ltI hb ha).mp h1
    exact propext ⟨fun _ => by omega, fun _ => by decide⟩
  · rw [if_neg h1]
    have h1 : ¬ b < a := fun x => h1 ((ln_ltI hb ha).mpr x)
    by_cases h2 : lN a = lN b
    · rw [if_pos h2]
      have := (ln_eqI ha hb).mp h2
      exact propext ⟨fun _ => by omega, fun _ => by decide⟩
    · rw [if_neg h2]
      have : a ≠ b := fun x => h2 (by rw [x])
      exact propext ⟨fun x => absurd x (by decide), fun _ => by omega⟩
theorem cmp_eqN {a b : Nat} (ha : a < 2 ^ 63) (hb : b < 2 ^ 63) : (lg_cmp (lN a) (lN b) = 0) = (a = b) := by rw [cmp_eq]; exact propext (ln_eqI ha hb)
/-- one bit of a long -/
def lb (x : Int64) (v : Nat) : Bool := x.toBitVec.getLsbD v
theorem lb_ext {x y : Int64} (h : ∀ v, v < 64 → lb x v = lb y v) : x = y := by
  apply Int64.toBitVec_inj.mp
  exact BitVec.eq_of_getLsbD_eq (fun i hi => h i hi)
theorem lb_0 (v : Nat) : lb 0 v = false := by
  show (0#64).getLsbD v = false
  exact BitVec.getLsbD_zero
theorem lb_or (x y : Int64) (v : Nat) : lb (x ||| y) v = (lb x v || lb y v) := BitVec.getLsbD_or
theorem lb_and (x y : Int64) (v : Nat) : lb (x &&& y) v = (lb x v && lb y v) := BitVec.getLsbD_and
theorem bit64_e {k : Nat} (hk : k < 64) : (1 : Int64) <<< ((nI k).toInt64 &&& 63) = lN (2 ^ k) := by
  rw [show (1 : Int64) = lN 1 from rfl, ln_shl hk, Nat.one_mul]
theorem lb_n (n v : Nat) : lb (lN n) v = (decide (v < 64) && n.testBit v) := by
  show (BitVec.ofNat 64 n).getLsbD v = _
  rw [BitVec.getLsbD_ofNat]
theorem lb_bit {k v : Nat} (hk : k < 64) : lb (bit64 k) v = decide (v = k) := by
  unfold bit64
  rw [bit64_e hk, lb_n, Nat.testBit_two_pow]
  by_cases h : k = v
  · subst h; simp [hk]
  · simp [h, show ¬ v = k from fun x => h x.symm]
theorem one_lb : ∀ v, v < 64 → lb 1 v = decide (v = 0) := by decide +kernel
/-- a bit by an arithmetic shift -/
theorem sar_lb {x : Int64} {v : Nat} (hv : v < 64) : (x >>> ((nI v).toInt64 &&& 63)) &&& 1 = if lb x v = true then 1 else 0 := by
  apply lb_ext
  intro i hi
  rw [lb_and, one_lb i hi]
  by_cases g : i = 0
  · subst g
    rw [decide_eq_true rfl, Bool.and_true]
    have e : lb (x >>> ((nI v).toInt64 &&& 63)) 0 = lb x v := by
      show (x.toBitVec.sshiftRight (((nI v).toInt64 &&& 63).toBitVec.smod 64#64).toNat).getLsbD 0 = _
      rw [s64_e v hv, BitVec.toNat_ofNat, Nat.mod_eq_of_lt (show v < 2 ^ 64 by omega), BitVec.getLsbD_sshiftRight]
      simp [hv]; rfl
    rw [e]
    cases lb x v <;> rfl
  · rw [decide_eq_false g, Bool.and_false]
    split
    · rw [one_lb i hi, decide_eq_false g]
    · exact (lb_0 i).symm
/-- a bit by a logical shift -/
theorem shr_lb {x : Int64} {v : Nat} (hv : v < 64) : (x.toUInt64 >>> ((nI v).toInt64.toUInt64 &&& Int64.toUInt64 63)).toInt64 &&& 1 = if lb x v = true then 1 else 0 := by
  apply lb_ext
  intro i hi
  rw [lb_and, one_lb i hi]
  by_cases g : i = 0
  · subst g
    rw [decide_eq_true rfl, Bool.and_true]
    have e : lb (x.toUInt64 >>> ((nI v).toInt64.toUInt64 &&& Int64.toUInt64 63)).toInt64 0 = lb x v := by
      show (x.toUInt64 >>> ((nI v).toInt64.toUInt64 &&& Int64.toUInt64 63)).toBitVec.getLsbD 0 = _
      rw [← BitVec.testBit_toNat]
      show ((x.toUInt64 >>> ((nI v).toInt64.toUInt64 &&& Int64.toUInt64 63)).toNat).testBit 0 = _
      rw [UInt64.toNat_shiftRight, s64_u v hv, Nat.mod_eq_of_lt hv, Nat.testBit_shiftRight]
      show x.toBitVec.toNat.testBit (v + 0) = _
      rw [BitVec.testBit_toNat]; rfl
    rw [e]
    cases lb x v <;> rfl
  · rw [decide_eq_false g, Bool.and_false]
    split
    · rw [one_lb i hi, decide_eq_false g]
    · exact (lb_0 i).symm
theorem one_ne : (1 : Int64) ≠ 0 := by decide
/-- the decisions as the reference keeps them -/
theorem dec_lb : ∀ (ds : List Bool) (p : Int64 × Nat) (v : Nat), p.2 + ds.length ≤ 64 → lb (ds.foldl decF p).1 v = (lb p.1 v || (decide (p.2 ≤ v) && ds.getD (v - p.2) false))
  | [], p, v, _ => by
    show lb p.1 v = _
    rw [show ([] : List Bool).getD (v - p.2) false = false from rfl, Bool.and_false, Bool.or_false]
  | b :: ds, p, v, h => by
    have h : p.2 + (ds.length + 1) ≤ 64 := h
    rw [List.foldl_cons, dec_lb ds (decF p b) v (by show p.2 + 1 + ds.length ≤ 64; omega)]
    show (lb (if b = true then p.1 ||| bit64 p.2 else p.1) v || (decide (p.2 + 1 ≤ v) && ds.getD (v - (p.2 + 1)) false)) = _
    have e1 : lb (if b = true then p.1 ||| bit64 p.2 else p.1) v = (lb p.1 v || (b && decide (v = p.2))) := by
      cases b
      · rw [if_neg Bool.false_ne_true]; simp
      · rw [if_pos rfl, lb_or, lb_bit (by omega)]; simp
    rw [e1]
    rcases Nat.lt_trichotomy v p.2 with g | g | g
    · simp [show ¬ v = p.2 by omega, show ¬ p.2 + 1 ≤ v by omega, show ¬ p.2 ≤ v by omega]
    · subst g
      simp [show ¬ p.2 + 1 ≤ p.2 by omega]
    · have e2 : v - p.2 = (v - (p.2 + 1)) + 1 := by omega
      rw [e2, List.getD_cons_succ]
      simp [show ¬ v = p.2 by omega, show p.2 + 1 ≤ v by omega, show p.2 ≤ v by omega]
theorem decL_lb {ds : List Bool} {v : Nat} (h : ds.length ≤ 64) : lb (decL ds) v = ds.getD v false := by
  unfold decL
  rw [dec_lb ds (0, 0) v (by omega)]
  show (lb 0 v || (decide (0 ≤ v) && ds.getD (v - 0) false)) = _
  rw [lb_0]; simp
/-- the decisions as the class keeps them -/
theorem path_fold : ∀ (ds : List Bool) (k c : Nat), k + ds.length ≤ 40 → (ds.foldl pathF (lN (c * 2 ^ (40 - k)), k)).1 = lN (c * 2 ^ (40 - k) + pathN k ds)
  | [], k, c, _ => by rw [List.foldl_nil, pathN, Nat.add_zero]
  | b :: ds, k, c, h => by
    have h : k + (ds.length + 1) ≤ 40 := h
    have e0 : c * 2 ^ (40 - k) = (2 * c) * 2 ^ (40 - (k + 1)) := by
      rw [show 40 - k = (40 - (k + 1)) + 1 by omega, Nat.pow_succ, Nat.mul_comm 2 c, Nat.mul_assoc, Nat.mul_comm (2 ^ (40 - (k + 1))) 2, ← Nat.mul_assoc]
    rw [List.foldl_cons, pathN]
    have sh : ((40 : Int32) - nI (k + 1)) = nI (39 - k) := by
      rw [show (40 : Int32) = nI 40 from rfl, pk_sub (by omega)]; exact congrArg nI (by omega)
    cases b with
    | true =>
      show (ds.foldl pathF (lN (c * 2 ^ (40 - k)), k + 1)).1 = _
      rw [if_pos rfl, Nat.zero_add, e0]
      exact path_fold ds (k + 1) (2 * c) (by omega)
    | false =>
      show (ds.foldl pathF (lN (c * 2 ^ (40 - k)) ||| ((1 : Int64) <<< (((40 : Int32) - nI (k + 1)).toInt64 &&& 63)), k + 1)).1 = _
      rw [sh, bit64_e (by omega), ln_or, if_neg Bool.false_ne_true]
      have e1 : c * 2 ^ (40 - k) ||| 2 ^ (39 - k) = (2 * c + 1) * 2 ^ (40 - (k + 1)) := by
        have t := Nat.two_pow_add_eq_or_of_lt (i := 40 - k) (b := 2 ^ (39 - k)) (Nat.pow_lt_pow_right (by decide) (by omega)) c
        rw [Nat.mul_comm c, ← t, Nat.mul_comm (2 ^ (40 - k)) c, e0, show 40 - (k + 1) = 39 - k by omega, Nat.add_mul, Nat.one_mul]
      rw [e1, path_fold ds (k + 1) (2 * c + 1) (by omega), e0, show 40 - (k + 1) = 39 - k by omega]
      exact congrArg lN (by rw [Nat.add_mul, Nat.one_mul]; omega)
theorem pathL_n {ds : List Bool} (h : ds.length ≤ 40) : pathL ds = lN (pathN 0 ds) := by
  have t := path_fold ds 0 0 (by omega)
  rw [Nat.zero_mul, Nat.zero_add] at t
  exact t
