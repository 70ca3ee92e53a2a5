/-! PART h0: bytes in words (begun from the starting text on bits, kit/laws) -/
def xbt (x : Int32) (i : Nat) : Bool := x.toBitVec.getLsbD i
theorem xb_ext {x y : Int32} (h : ∀ i, i < 32 → xbt x i = xbt y i) : x = y := Int32.toBitVec_inj.mp (BitVec.eq_of_getLsbD_eq (fun i hi => h i hi))
theorem xb_or (x y : Int32) (i : Nat) : xbt (x ||| y) i = (xbt x i || xbt y i) := by unfold xbt; rw [Int32.toBitVec_or, BitVec.getLsbD_or]
theorem xb_and (x y : Int32) (i : Nat) : xbt (x &&& y) i = (xbt x i && xbt y i) := by unfold xbt; rw [Int32.toBitVec_and, BitVec.getLsbD_and]
theorem xb_xor (x y : Int32) (i : Nat) : xbt (x ^^^ y) i = (xbt x i ^^ xbt y i) := by unfold xbt; rw [Int32.toBitVec_xor, BitVec.getLsbD_xor]
theorem xb_big {x : Int32} {i : Nat} (h : 32 ≤ i) : xbt x i = false := BitVec.getLsbD_of_ge _ _ h
theorem xb_255 (i : Nat) : xbt 255 i = decide (i < 8) := by
  rcases Nat.lt_or_ge i 32 with h | h
  · exact (by decide +kernel : ∀ i, i < 32 → xbt 255 i = decide (i < 8)) i h
  · rw [xb_big h, decide_eq_false (by omega)]
theorem xb_m1 : ∀ i, i < 32 → xbt (-1) i = true := by decide +kernel
theorem xb_0 (i : Nat) : xbt 0 i = false := BitVec.getLsbD_zero
theorem xs_l : ∀ n, n < 32 → ((nI n &&& 31).toBitVec.smod 32).toNat = n := by decide +kernel
theorem xs_u : ∀ n, n < 32 → (((nI n).toUInt32 &&& Int32.toUInt32 31).toBitVec % 32).toNat = n := by decide +kernel
theorem xb_shl (n : Nat) (hn : n < 32) (x : Int32) {i : Nat} (hi : i < 32) : xbt (x <<< (nI n &&& 31)) i = (decide (n ≤ i) && xbt x (i - n)) := by
  unfold xbt
  rw [Int32.toBitVec_shiftLeft]
  show (x.toBitVec <<< ((nI n &&& 31).toBitVec.smod 32).toNat).getLsbD i = _
  rw [xs_l n hn, BitVec.getLsbD_shiftLeft]
  rcases Nat.lt_or_ge i n with h | h
  · simp [h, Nat.not_le.mpr h]
  · simp [hi, h, Nat.not_lt.mpr h]
theorem xb_ushr (n : Nat) (hn : n < 32) (x : Int32) (i : Nat) : xbt ((x.toUInt32 >>> ((nI n).toUInt32 &&& Int32.toUInt32 31)).toInt32) i = xbt x (n + i) := by
  show (x.toUInt32 >>> ((nI n).toUInt32 &&& Int32.toUInt32 31)).toBitVec.getLsbD i = x.toUInt32.toBitVec.getLsbD (n + i)
  rw [UInt32.toBitVec_shiftRight]
  show (x.toUInt32.toBitVec >>> (((nI n).toUInt32 &&& Int32.toUInt32 31).toBitVec % 32).toNat).getLsbD i = _
  rw [xs_u n hn, BitVec.getLsbD_ushiftRight]
theorem xb_sshr (n : Nat) (hn : n < 32) (x : Int32) {i : Nat} (hi : i < 32) : xbt (x >>> (nI n &&& 31)) i = if n + i < 32 then xbt x (n + i) else xbt x 31 := by
  unfold xbt
  rw [Int32.toBitVec_shiftRight]
  show (x.toBitVec.sshiftRight ((nI n &&& 31).toBitVec.smod 32).toNat).getLsbD i = _
  rw [xs_l n hn, BitVec.getLsbD_sshiftRight, BitVec.msb_eq_getLsbD_last]
  simp [hi]
theorem nx_and (a b : Nat) : nI a &&& nI b = nI (a &&& b) := by
  apply Int32.toBitVec_inj.1
  show BitVec.ofNat 32 a &&& BitVec.ofNat 32 b = BitVec.ofNat 32 (a &&& b)
  apply BitVec.eq_of_getLsbD_eq
  intro i hi
  simp [hi]

/-- byte i of a word, the highest first -/
def byt (w : Int32) (i : Nat) : Int32 := (w.toUInt32 >>> ((nI (24 - 8 * i)).toUInt32 &&& Int32.toUInt32 31)).toInt32 &&& 255
theorem byt_put {w : Int32} {c i k : Nat} (hi : i < 4) (hk : k < 4) (hc : c < 256) : byt ((w &&& ((255 <<< (nI (24 - 8 * k) &&& 31)) ^^^ (-1))) ||| ((nI c &&& 255) <<< (nI (24 - 8 * k) &&& 31))) i = if i = k then nI c else byt w i := by
  have c8 : ∀ j, 8 ≤ j → xbt (nI c) j = false := fun j hj => by
    show (BitVec.ofNat 32 c).getLsbD j = false
    rw [BitVec.getLsbD_ofNat]
    rw [Nat.testBit_lt_two_pow (Nat.lt_of_lt_of_le hc (show 256 ≤ 2 ^ j from Nat.pow_le_pow_right (n := 2) (by decide) hj)), Bool.and_false]
  apply xb_ext
  intro j hj
  by_cases h8 : j < 8
  · have e : xbt (byt ((w &&& ((255 <<< (nI (24 - 8 * k) &&& 31)) ^^^ (-1))) ||| ((nI c &&& 255) <<< (nI (24 - 8 * k) &&& 31))) i) j = ((xbt w (24 - 8 * i + j) && ((decide (24 - 8 * k ≤ 24 - 8 * i + j) && decide (24 - 8 * i + j - (24 - 8 * k) < 8)) ^^ true)) || (decide (24 - 8 * k ≤ 24 - 8 * i + j) && (xbt (nI c) (24 - 8 * i + j - (24 - 8 * k)) && decide (24 - 8 * i + j - (24 - 8 * k) < 8)))) := by
      unfold byt
      rw [xb_and, xb_255, xb_ushr _ (by omega), xb_or, xb_and, xb_xor, xb_shl _ (by omega) _ (by omega), xb_shl _ (by omega) _ (by omega), xb_255, xb_m1 _ (by omega), xb_and, xb_255, decide_eq_true h8, Bool.and_true]
    rw [e]
    by_cases g : i = k
    · subst g
      rw [if_pos rfl, decide_eq_true (show 24 - 8 * i ≤ 24 - 8 * i + j by omega), Nat.add_sub_cancel_left, decide_eq_true h8]
      simp
    · rw [if_neg g]
      have f : (decide (24 - 8 * k ≤ 24 - 8 * i + j) && decide (24 - 8 * i + j - (24 - 8 * k) < 8)) = false := by
        by_cases q : 24 - 8 * k ≤ 24 - 8 * i + j
        · rw [decide_eq_false (show ¬ 24 - 8 * i + j - (24 - 8 * k) < 8 by omega), Bool.and_false]
        · rw [decide_eq_false q, Bool.false_and]
      have f2 : (decide (24 - 8 * k ≤ 24 - 8 * i + j) && (xbt (nI c) (24 - 8 * i + j - (24 - 8 * k)) && decide (24 - 8 * i + j - (24 - 8 * k) < 8))) = false := by
        rw [Bool.and_comm (xbt _ _), ← Bool.and_assoc, f, Bool.false_and]
      rw [f, f2]
      unfold byt
      rw [xb_and, xb_255, xb_ushr _ (by omega), decide_eq_true h8]
      simp
  · have l : ∀ x : Int32, xbt (byt x i) j = false := fun x => by
      unfold byt
      rw [xb_and, xb_255, decide_eq_false h8, Bool.and_false]
    rw [l]
    split
    · exact (c8 j (by omega)).symm
    · exact (l w).symm
theorem and3 (n : Nat) : nI n &&& (3 : Int32) = nI (n % 4) := by
  rw [show (3 : Int32) = nI 3 from rfl, nx_and, show (3 : Nat) = 2 ^ 2 - 1 from rfl, Nat.and_two_pow_sub_one_eq_mod]
/-- the bytes that were put -/
def Tx (I : Nat → Nat → Int32) (tx : List Nat) : Prop := tx.length ≤ 250 ∧ ∀ j, j < tx.length → byt (I 69 (j / 4)) (j % 4) = nI (tx.getD j 0)
section PUTS2
variable {X : aw_X} {d : Nat} {Q : Option Value → aw_H → Prop} {I : Nat → Nat → Int32} {L : Nat → Nat → Int64} {D : Nat → Nat}
theorem c_Law_put {tx : List Nat} {c : Nat} {v : Int32} (h : Tx I tx) (hl : tx.length < 250) (hc : c < 256) (hv : v = nI c) (hQ : ∀ I', Tx I' (tx ++ [c]) → (∀ o, o ≠ 69 → I' o = I o) → Q (some (.int (nI (tx ++ [c]).length))) (aw_s I' L D)) : aw_m X d y_Law_put [.ref 69, .int (nI tx.length), .int v] (aw_s I L D) Q := by
  subst hv
  have e2 : nI tx.length >>> ((2 : Int32) &&& 31) = nI (tx.length / 4) := sar_nI (s := 2) (by decide) (by omega)
  have eb : (24 : Int32) - 8 * (nI tx.length &&& 3) = nI (24 - 8 * (tx.length % 4)) := by
    rw [and3, show (8 : Int32) = nI 8 from rfl, pk_mul, show (24 : Int32) = nI 24 from rfl, pk_sub (by omega)]
  have B0 := @b_Law_put_0 X d Q I L D (nI tx.length) (nI c)
  rw [e2, eb, nI_clamp (show tx.length / 4 < 2 ^ 31 by omega), nI_1] at B0
  have vi : vp_in (nI (tx.length / 4)) 64 := aw_in_nI (by omega) (by decide)
  refine aw_go rfl rfl (B0 vi vi ?_)
  have le : (tx ++ [c]).length = tx.length + 1 := List.length_append
  rw [← le]
  refine hQ _ ⟨by omega, fun j hj => ?_⟩ (fun o ho => au_o ho)
  by_cases g : j / 4 = tx.length / 4
  · rw [g, au_s, byt_put (Nat.mod_lt _ (by decide)) (Nat.mod_lt _ (by decide)) hc]
    by_cases q : j = tx.length
    · subst q
      rw [if_pos rfl, List.getD_eq_getElem?_getD, List.getElem?_append_right (Nat.le_refl _), Nat.sub_self]; rfl
    · rw [if_neg (by omega), ← g, h.2 j (by omega), List.getD_eq_getElem?_getD, List.getD_eq_getElem?_getD, List.getElem?_append_left (by omega)]
  · rw [au_k g, h.2 j (by omega), List.getD_eq_getElem?_getD, List.getD_eq_getElem?_getD, List.getElem?_append_left (by omega)]
end PUTS2
