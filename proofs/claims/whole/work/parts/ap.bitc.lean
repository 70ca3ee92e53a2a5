/-! PART ap: the bits of a long: how many, the first, the last -/
def ctB (x : Nat) : Nat → Nat
  | 0 => 0
  | n + 1 => ctB x n + (if x.testBit n = true then 1 else 0)
theorem ctB_c {x y : Nat} : ∀ n, (∀ j, j < n → x.testBit j = y.testBit j) → ctB x n = ctB y n
  | 0, _ => rfl
  | n + 1, h => by rw [ctB, ctB, ctB_c n (fun j hj => h j (by omega)), h n (by omega)]
theorem tb_sp {b V : Nat} (hb : b < 256) (j : Nat) : (b + 256 * V).testBit j = if j < 8 then b.testBit j else V.testBit (j - 8) := by
  have := Nat.testBit_two_pow_mul_add V (b := b) (i := 8) hb j
  rw [Nat.add_comm]; exact this
theorem ctB_sp {b V : Nat} (hb : b < 256) : ∀ n, ctB (b + 256 * V) (8 + n) = ctB b 8 + ctB V n
  | 0 => ctB_c 8 (fun j hj => by rw [tb_sp hb, if_pos hj])
  | n + 1 => by
    have e : (b + 256 * V).testBit (8 + n) = V.testBit n := by
      rw [tb_sp hb, if_neg (show ¬ 8 + n < 8 by omega), show 8 + n - 8 = n by omega]
    show ctB (b + 256 * V) (8 + n) + (if (b + 256 * V).testBit (8 + n) = true then 1 else 0) = ctB b 8 + (ctB V n + (if V.testBit n = true then 1 else 0))
    rw [ctB_sp hb n, e]; omega
theorem and_sp {b c V W : Nat} (hb : b < 256) (hc : c < 256) : (b + 256 * V) &&& (c + 256 * W) = (b &&& c) + 256 * (V &&& W) := by
  have hbc : b &&& c < 256 := Nat.lt_of_le_of_lt Nat.and_le_left hb
  apply Nat.eq_of_testBit_eq
  intro j
  rw [Nat.testBit_and, tb_sp hb, tb_sp hc, tb_sp hbc]
  by_cases h : j < 8
  · rw [if_pos h, if_pos h, if_pos h, Nat.testBit_and]
  · rw [if_neg h, if_neg h, if_neg h, Nat.testBit_and]
def vl : List Nat → Nat
  | [] => 0
  | b :: l => b + 256 * vl l
def rp8 (c : Nat) : List Nat → Nat
  | [] => 0
  | _ :: l => c + 256 * rp8 c l
def bf1 (b : Nat) : Nat := b - (b / 2 &&& 85)
def bf2 (b : Nat) : Nat := (b &&& 51) + (b / 4 &&& 51)
def bf3 (b : Nat) : Nat := (b + b / 16) &&& 15
theorem bf_all : ∀ b, b < 256 → (b / 2 &&& 85) ≤ b ∧ bf1 b < 256 ∧ bf2 (bf1 b) % 16 ≤ 4 ∧ bf2 (bf1 b) / 16 ≤ 4 ∧ bf3 (bf2 (bf1 b)) = ctB b 8 ∧ bf3 (bf2 (bf1 b)) ≤ 8 := by decide +kernel
theorem bs1 : ∀ b, b < 256 → ∀ z, z < 2 → (b / 2 + 128 * z) &&& 85 = (b / 2) &&& 85 := by decide +kernel
theorem bs2 : ∀ b, b < 256 → ∀ z, z < 4 → (b / 4 + 64 * z) &&& 51 = (b / 4) &&& 51 := by decide +kernel
theorem bs3 : ∀ b, b < 80 → ∀ z, z < 5 → (b + b / 16 + 16 * z) &&& 15 = bf3 b := by decide +kernel
theorem st1 : ∀ l : List Nat, (∀ b, b ∈ l → b < 256) → ((vl l / 2) &&& rp8 85 l) ≤ vl l ∧ vl l - ((vl l / 2) &&& rp8 85 l) = vl (l.map bf1)
  | [], _ => ⟨Nat.le_refl _, rfl⟩
  | b :: l, h => by
    obtain ⟨i1, i2⟩ := st1 l (fun x hx => h x (List.mem_cons_of_mem _ hx))
    have hb := h b (List.mem_cons_self)
    have e : vl (b :: l) / 2 = (b / 2 + 128 * (vl l % 2)) + 256 * (vl l / 2) := by
      show (b + 256 * vl l) / 2 = _; omega
    have le := (bf_all b hb).1
    have a : (vl (b :: l) / 2) &&& rp8 85 (b :: l) = (b / 2 &&& 85) + 256 * ((vl l / 2) &&& rp8 85 l) := by
      rw [e]
      show ((b / 2 + 128 * (vl l % 2)) + 256 * (vl l / 2)) &&& (85 + 256 * rp8 85 l) = _
      rw [and_sp (by omega) (by decide), bs1 b hb _ (Nat.mod_lt _ (by decide))]
    rw [a, List.map_cons]
    show _ ≤ b + 256 * vl l ∧ b + 256 * vl l - _ = bf1 b + 256 * vl (l.map bf1)
    rw [← i2]
    unfold bf1
    omega
theorem st2 : ∀ l : List Nat, (∀ b, b ∈ l → b < 256) → (vl l &&& rp8 51 l) + ((vl l / 4) &&& rp8 51 l) = vl (l.map bf2)
  | [], _ => rfl
  | b :: l, h => by
    have ih := st2 l (fun x hx => h x (List.mem_cons_of_mem _ hx))
    have hb := h b (List.mem_cons_self)
    have e : vl (b :: l) / 4 = (b / 4 + 64 * (vl l % 4)) + 256 * (vl l / 4) := by
      show (b + 256 * vl l) / 4 = _; omega
    have a : (vl (b :: l) / 4) &&& rp8 51 (b :: l) = (b / 4 &&& 51) + 256 * ((vl l / 4) &&& rp8 51 l) := by
      rw [e]
      show ((b / 4 + 64 * (vl l % 4)) + 256 * (vl l / 4)) &&& (51 + 256 * rp8 51 l) = _
      rw [and_sp (by omega) (by decide), bs2 b hb _ (Nat.mod_lt _ (by decide))]
    have a2 : vl (b :: l) &&& rp8 51 (b :: l) = (b &&& 51) + 256 * (vl l &&& rp8 51 l) := and_sp hb (by decide)
    rw [a, a2, List.map_cons]
    show _ = bf2 b + 256 * vl (l.map bf2)
    rw [← ih]
    unfold bf2
    omega
theorem vl_16 : ∀ l : List Nat, (∀ b, b ∈ l → b % 16 ≤ 4) → vl l % 16 ≤ 4
  | [], _ => by decide
  | b :: l, h => by
    have := h b (List.mem_cons_self)
    show (b + 256 * vl l) % 16 ≤ 4
    omega
theorem st3 : ∀ l : List Nat, (∀ b, b ∈ l → b % 16 ≤ 4 ∧ b / 16 ≤ 4) → (vl l + vl l / 16) &&& rp8 15 l = vl (l.map bf3)
  | [], _ => rfl
  | b :: l, h => by
    have ih := st3 l (fun x hx => h x (List.mem_cons_of_mem _ hx))
    have hb := h b (List.mem_cons_self)
    have h16 := vl_16 l (fun x hx => (h x (List.mem_cons_of_mem _ hx)).1)
    have e : vl (b :: l) + vl (b :: l) / 16 = (b + b / 16 + 16 * (vl l % 16)) + 256 * (vl l + vl l / 16) := by
      show (b + 256 * vl l) + (b + 256 * vl l) / 16 = _; omega
    rw [e]
    show ((b + b / 16 + 16 * (vl l % 16)) + 256 * (vl l + vl l / 16)) &&& (15 + 256 * rp8 15 l) = _
    rw [and_sp (by omega) (by decide), bs3 b (by omega) _ (by omega), ih]; rfl
theorem ln_and (a b : Nat) : lN a &&& lN b = lN (a &&& b) := by
  apply lb_ext
  intro v hv
  rw [lb_and, lb_n, lb_n, lb_n, Nat.testBit_and, decide_eq_true hv]; rfl
theorem ln_add (a b : Nat) : lN a + lN b = lN (a + b) := (Int64.ofNat_add a b).symm
theorem ln_sub {a b : Nat} (h : b ≤ a) : lN a - lN b = lN (a - b) := by
  have := ln_add (a - b) b
  rw [Nat.sub_add_cancel h] at this
  rw [← this, Int64.add_sub_cancel]
theorem dv16 {u w : Nat} (h : u < 65536) : (u + 65536 * w) / 2 ^ 16 = w := by omega
theorem dv32 {u w : Nat} (h : u < 4294967296) : (u + 4294967296 * w) / 2 ^ 32 = w := by omega
theorem dv8 {u w : Nat} (h : u < 256) : (u + 256 * w) / 2 ^ 8 = w := by omega
theorem md7 {u w : Nat} (h : u < 128) : (u + 256 * w) % 2 ^ 7 = u := by omega
theorem sum4 (p0 p1 p2 p3 p4 p5 p6 p7 : Nat) : (p0 + 256 * (p1 + 256 * (p2 + 256 * (p3 + 256 * (p4 + 256 * (p5 + 256 * (p6 + 256 * p7))))))) + (p1 + 256 * (p2 + 256 * (p3 + 256 * (p4 + 256 * (p5 + 256 * (p6 + 256 * p7)))))) = ((p0 + p1) + 256 * (p1 + p2)) + 65536 * ((p2 + p3) + 256 * ((p3 + p4) + 256 * ((p4 + p5) + 256 * ((p5 + p6) + 256 * ((p6 + p7) + 256 * p7))))) := by omega
theorem sum5 (p0 p1 p2 p3 p4 p5 p6 p7 : Nat) : ((p0 + p1) + 256 * (p1 + p2)) + 65536 * ((p2 + p3) + 256 * ((p3 + p4) + 256 * ((p4 + p5) + 256 * ((p5 + p6) + 256 * ((p6 + p7) + 256 * p7))))) + ((p2 + p3) + 256 * ((p3 + p4) + 256 * ((p4 + p5) + 256 * ((p5 + p6) + 256 * ((p6 + p7) + 256 * p7))))) = ((p0 + p1 + p2 + p3) + 256 * ((p1 + p2 + p3 + p4) + 256 * ((p2 + p3 + p4 + p5) + 256 * (p3 + p4 + p5 + p6)))) + 4294967296 * ((p4 + p5 + p6 + p7) + 256 * ((p5 + p6 + p7) + 256 * ((p6 + p7) + 256 * p7))) := by omega
theorem sum6 (a b u v x y : Nat) : (a + 256 * u) + 4294967296 * (b + 256 * v) + (b + 256 * v) = (a + b) + 256 * (u + 16777216 * (b + 256 * v) + v) := by omega
theorem sum8 {p0 p1 p2 p3 p4 p5 p6 p7 a3 a4 a5 a6 : Nat} (q0 : p0 ≤ 8) (q1 : p1 ≤ 8) (q2 : p2 ≤ 8) (q3 : p3 ≤ 8) (q4 : p4 ≤ 8) (q5 : p5 ≤ 8) (q6 : p6 ≤ 8) (q7 : p7 ≤ 8) (e3 : p0 + 256 * (p1 + 256 * (p2 + 256 * (p3 + 256 * (p4 + 256 * (p5 + 256 * (p6 + 256 * p7)))))) = a3) (e4 : a3 + a3 / 2 ^ 8 = a4) (e5 : a4 + a4 / 2 ^ 16 = a5) (e6 : a5 + a5 / 2 ^ 32 = a6) :
    a6 % 2 ^ 7 = p0 + (p1 + (p2 + (p3 + (p4 + (p5 + (p6 + p7)))))) := by
  rw [← e3, dv8 (Nat.lt_of_le_of_lt q0 (by decide)), sum4] at e4
  rw [← e4, dv16 (by clear e3 e4 e5 e6; omega), sum5] at e5
  rw [← e5, dv32 (by clear e3 e4 e5 e6; omega), sum6 (x := 0) (y := 0)] at e6
  rw [← e6, md7 (by clear e3 e4 e5 e6; omega)]
  clear e3 e4 e5 e6
  omega
/-- bytes of a long -/
theorem by8 (x : Nat) (h : x < 2 ^ 64) : ∃ b0 b1 b2 b3 b4 b5 b6 b7, x = vl [b0, b1, b2, b3, b4, b5, b6, b7] ∧ (∀ b, b ∈ [b0, b1, b2, b3, b4, b5, b6, b7] → b < 256) := by
  have st : ∀ y : Nat, y = y % 256 + 256 * (y / 256) := fun y => by omega
  refine ⟨x % 256, x / 256 % 256, x / 256 / 256 % 256, x / 256 / 256 / 256 % 256, x / 256 / 256 / 256 / 256 % 256, x / 256 / 256 / 256 / 256 / 256 % 256, x / 256 / 256 / 256 / 256 / 256 / 256 % 256, x / 256 / 256 / 256 / 256 / 256 / 256 / 256 % 256, ?_, fun b hb => ?_⟩
  · simp only [vl]
    have z : x / 256 / 256 / 256 / 256 / 256 / 256 / 256 / 256 = 0 := by omega
    omega
  · simp only [List.mem_cons, List.not_mem_nil, or_false] at hb
    rcases hb with h | h | h | h | h | h | h | h <;> rw [h] <;> exact Nat.mod_lt _ (by decide)
