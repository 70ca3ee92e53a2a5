/-! PART h4: the law's own run: its array -/
/-- decisions as bits, the first the lowest -/
def dsN : List Bool → Nat
  | [] => 0
  | b :: ds => (if b = true then 1 else 0) + 2 * dsN ds
theorem dsN_lt : ∀ ds : List Bool, dsN ds < 2 ^ ds.length
  | [] => Nat.one_pos
  | b :: ds => by
    have := dsN_lt ds
    show (if b = true then 1 else 0) + 2 * dsN ds < 2 ^ (ds.length + 1)
    rw [Nat.pow_succ]
    split <;> omega
theorem dsN_s : ∀ (ds : List Bool) (b : Bool), dsN (ds ++ [b]) = dsN ds + (if b = true then 2 ^ ds.length else 0)
  | [], b => by cases b <;> rfl
  | c :: ds, b => by
    have := dsN_s ds b
    show (if c = true then 1 else 0) + 2 * dsN (ds ++ [b]) = (if c = true then 1 else 0) + 2 * dsN ds + (if b = true then 2 ^ (ds.length + 1) else 0)
    rw [this, Nat.pow_succ]
    split <;> split <;> omega
theorem dsN_at : ∀ (ds : List Bool) (d : Nat), d < ds.length → dsN ds / 2 ^ d % 2 = if ds.getD d false = true then 1 else 0
  | [], d, h => absurd h (Nat.not_lt_zero d)
  | b :: ds, 0, _ => by
    show ((if b = true then 1 else 0) + 2 * dsN ds) / 2 ^ 0 % 2 = if b = true then 1 else 0
    rw [Nat.pow_zero, Nat.div_one]
    split <;> omega
  | b :: ds, d + 1, h => by
    have := dsN_at ds d (Nat.lt_of_succ_lt_succ h)
    show ((if b = true then 1 else 0) + 2 * dsN ds) / 2 ^ (d + 1) % 2 = if ds.getD d false = true then 1 else 0
    rw [← this, Nat.pow_succ, Nat.mul_comm (2 ^ d) 2, ← Nat.div_div_eq_div_mul]
    congr 2
    split <;> omega
theorem nx_or (a b : Nat) : nI a ||| nI b = nI (a ||| b) := by
  apply Int32.toBitVec_inj.1
  show BitVec.ofNat 32 a ||| BitVec.ofNat 32 b = BitVec.ofNat 32 (a ||| b)
  apply BitVec.eq_of_getLsbD_eq
  intro i hi
  simp [hi]
theorem sh1 : ∀ l, l < 31 → (1 : Int32) <<< (nI l &&& 31) = nI (2 ^ l) := by decide +kernel
theorem or_bit {x l : Nat} (hx : x < 2 ^ l) (hl : l < 31) : nI x ||| ((1 : Int32) <<< (nI l &&& 31)) = nI (x + 2 ^ l) := by
  rw [sh1 l hl, nx_or]
  have := Nat.two_pow_add_eq_or_of_lt hx 1
  rw [Nat.mul_one] at this
  rw [Nat.or_comm, ← this, Nat.add_comm]
theorem sar_big {q s : Nat} (hs : s < 31) (hq : q < 2 ^ 31) : (nI q) >>> ((nI s) &&& 31) = nI (q / 2 ^ s) := by
  have hd : q / 2 ^ s ≤ q := Nat.div_le_self _ _
  apply xb_ext
  intro i hi
  rw [xb_sshr s (by omega) _ hi]
  have e : ∀ (x : Nat) (j : Nat), j < 32 → xbt (nI x) j = x.testBit j := fun x j hj => by
    show (BitVec.ofNat 32 x).getLsbD j = _
    rw [BitVec.getLsbD_ofNat, decide_eq_true hj, Bool.true_and]
  rw [e _ i hi, Nat.testBit_div_two_pow]
  by_cases g : s + i < 32
  · rw [if_pos g, e q _ g, Nat.add_comm]
  · rw [if_neg g, e q 31 (by decide), Nat.testBit_lt_two_pow hq, Nat.testBit_lt_two_pow (Nat.lt_of_lt_of_le hq (Nat.pow_le_pow_right (by decide) (by omega)))]
theorem ds_bit {ds : List Bool} {d : Nat} (hd : d < ds.length) (hl : ds.length ≤ 30) : (nI (dsN ds) >>> (nI d &&& 31)) &&& 1 = if ds.getD d false = true then 1 else 0 := by
  have lt : dsN ds < 2 ^ 31 := Nat.lt_of_lt_of_le (dsN_lt ds) (Nat.pow_le_pow_right (by decide) (by omega))
  rw [sar_big (by omega) lt, show (1 : Int32) = nI 1 from rfl, nx_and, Nat.and_one_is_mod, dsN_at ds d hd]
  split <;> rfl
/-- the law's array: names, cells, counts, decisions -/
def AtS (f : Nat → Int32) : LSt → Prop
  | (nm, cl, bg, ds) => f 0 = nm 0 ∧ f 1 = nm 1 ∧ f 2 = nm 2 ∧ f 3 = nm 3 ∧ f 4 = nm 7 ∧ (∀ j, j < 8 → f (8 + j) = cl j) ∧ f 18 = nI ds.length ∧ f 19 = nI bg ∧ f 20 = nI (dsN ds)
def AtE (f : Nat → Int32) : Int32 × Int32 × LSt → Prop
  | (e, sp, st) => f 16 = e ∧ f 17 = sp ∧ AtS f st
section ATS
variable {f : Nat → Int32} {nm cl : Nat → Int32} {bg : Nat} {ds : List Bool} {v : Int32}
theorem AtS.b (h : AtS f (nm, cl, bg, ds)) : AtS (va_up f 19 (f 19 + 1)) (nm, cl, bg + 1, ds) := by
  obtain ⟨a0, a1, a2, a3, a4, a8, a18, a19, a20⟩ := h
  exact ⟨by rw [ap_n (by decide)]; exact a0, by rw [ap_n (by decide)]; exact a1, by rw [ap_n (by decide)]; exact a2, by rw [ap_n (by decide)]; exact a3, by rw [ap_n (by decide)]; exact a4, fun j hj => by rw [ap_n (by omega)]; exact a8 j hj, by rw [ap_n (by decide)]; exact a18, by rw [ap_s, a19, nI_1], by rw [ap_n (by decide)]; exact a20⟩
theorem AtS.n {k : Nat} (hk : k < 4) (h : AtS f (nm, cl, bg, ds)) : AtS (va_up f k v) (va_up nm k v, cl, bg, ds) := by
  obtain ⟨a0, a1, a2, a3, a4, a8, a18, a19, a20⟩ := h
  have u : ∀ i, f i = nm i → va_up f k v i = va_up nm k v i := fun i e => by
    by_cases q : i = k
    · subst q; rw [ap_s, ap_s]
    · rw [ap_n q, ap_n q]; exact e
  exact ⟨u 0 a0, u 1 a1, u 2 a2, u 3 a3, by rw [ap_n (by omega), ap_n (by omega)]; exact a4, fun j hj => by rw [ap_n (by omega)]; exact a8 j hj, by rw [ap_n (by omega)]; exact a18, by rw [ap_n (by omega)]; exact a19, by rw [ap_n (by omega)]; exact a20⟩
theorem AtS.hh (h : AtS f (nm, cl, bg, ds)) : AtS (va_up f 4 v) (va_up nm 7 v, cl, bg, ds) := by
  obtain ⟨a0, a1, a2, a3, a4, a8, a18, a19, a20⟩ := h
  exact ⟨by rw [ap_n (by decide), ap_n (by decide)]; exact a0, by rw [ap_n (by decide), ap_n (by decide)]; exact a1, by rw [ap_n (by decide), ap_n (by decide)]; exact a2, by rw [ap_n (by decide), ap_n (by decide)]; exact a3, by rw [ap_s, ap_s], fun j hj => by rw [ap_n (by omega)]; exact a8 j hj, by rw [ap_n (by decide)]; exact a18, by rw [ap_n (by decide)]; exact a19, by rw [ap_n (by decide)]; exact a20⟩
theorem AtS.c {k : Nat} (hk : k < 8) (h : AtS f (nm, cl, bg, ds)) : AtS (va_up f (8 + k) v) (nm, va_up cl k v, bg, ds) := by
  obtain ⟨a0, a1, a2, a3, a4, a8, a18, a19, a20⟩ := h
  refine ⟨by rw [ap_n (by omega)]; exact a0, by rw [ap_n (by omega)]; exact a1, by rw [ap_n (by omega)]; exact a2, by rw [ap_n (by omega)]; exact a3, by rw [ap_n (by omega)]; exact a4, fun j hj => ?_, by rw [ap_n (by omega)]; exact a18, by rw [ap_n (by omega)]; exact a19, by rw [ap_n (by omega)]; exact a20⟩
  by_cases q : j = k
  · subst q; rw [ap_s, ap_s]
  · rw [ap_n (by omega), ap_n q]; exact a8 j hj
/-- no -/
theorem AtS.no (h : AtS f (nm, cl, bg, ds)) : AtS (va_up f 18 (f 18 + 1)) (nm, cl, bg, ds ++ [false]) := by
  obtain ⟨a0, a1, a2, a3, a4, a8, a18, a19, a20⟩ := h
  exact ⟨by rw [ap_n (by decide)]; exact a0, by rw [ap_n (by decide)]; exact a1, by rw [ap_n (by decide)]; exact a2, by rw [ap_n (by decide)]; exact a3, by rw [ap_n (by decide)]; exact a4, fun j hj => by rw [ap_n (by omega)]; exact a8 j hj, by rw [ap_s, a18, nI_1, List.length_append]; rfl, by rw [ap_n (by decide)]; exact a19, by rw [ap_n (by decide), dsN_s, if_neg Bool.false_ne_true]; exact a20⟩
/-- yes -/
theorem AtS.yes (hl : ds.length < 31) (h : AtS f (nm, cl, bg, ds)) : AtS (va_up (va_up f 20 (f 20 ||| ((1 : Int32) <<< (f 18 &&& 31)))) 18 (f 18 + 1)) (nm, cl, bg, ds ++ [true]) := by
  obtain ⟨a0, a1, a2, a3, a4, a8, a18, a19, a20⟩ := h
  exact ⟨by rw [ap_n (by decide), ap_n (by decide)]; exact a0, by rw [ap_n (by decide), ap_n (by decide)]; exact a1, by rw [ap_n (by decide), ap_n (by decide)]; exact a2, by rw [ap_n (by decide), ap_n (by decide)]; exact a3, by rw [ap_n (by decide), ap_n (by decide)]; exact a4, fun j hj => by rw [ap_n (by omega), ap_n (by omega)]; exact a8 j hj, by rw [ap_s, a18, nI_1, List.length_append]; rfl, by rw [ap_n (by decide), ap_n (by decide)]; exact a19, by rw [ap_n (by decide), ap_s, dsN_s, if_pos rfl, a20, a18, or_bit (dsN_lt ds) hl]⟩
/-- ends -/
theorem AtS.e {e sp : Int32} (h : AtS f (nm, cl, bg, ds)) : AtE (va_up (va_up f 16 e) 17 sp) (e, sp, (nm, cl, bg, ds)) := by
  obtain ⟨a0, a1, a2, a3, a4, a8, a18, a19, a20⟩ := h
  exact ⟨by rw [ap_n (by decide), ap_s], by rw [ap_s], by rw [ap_n (by decide), ap_n (by decide)]; exact a0, by rw [ap_n (by decide), ap_n (by decide)]; exact a1, by rw [ap_n (by decide), ap_n (by decide)]; exact a2, by rw [ap_n (by decide), ap_n (by decide)]; exact a3, by rw [ap_n (by decide), ap_n (by decide)]; exact a4, fun j hj => by rw [ap_n (by omega), ap_n (by omega)]; exact a8 j hj, by rw [ap_n (by decide), ap_n (by decide)]; exact a18, by rw [ap_n (by decide), ap_n (by decide)]; exact a19, by rw [ap_n (by decide), ap_n (by decide)]; exact a20⟩
end ATS
theorem ap_c {f : Nat → Int32} {i j : Nat} {x y : Int32} (h : i ≠ j) : va_up (va_up f i x) j y = va_up (va_up f j y) i x := by
  funext k
  by_cases h1 : k = i
  · subst h1; rw [ap_n h, ap_s, ap_s]
  · by_cases h2 : k = j
    · subst h2; rw [ap_s, ap_n h1, ap_s]
    · rw [ap_n h2, ap_n h1, ap_n h1, ap_n h2]
