/-! PART 50: the class's machine: its state -/
theorem shr_nI {q B : Nat} (hB : B ≤ 6) (hq : q < 4096) : ((nI q).toUInt32 >>> ((nI B).toUInt32 &&& Int32.toUInt32 31)).toInt32 = nI (q / 2 ^ B) := by
  have e : ((nI B).toUInt32 &&& Int32.toUInt32 31).toNat = B := by
    rcases (show B = 0 ∨ B = 1 ∨ B = 2 ∨ B = 3 ∨ B = 4 ∨ B = 5 ∨ B = 6 by omega) with rfl | rfl | rfl | rfl | rfl | rfl | rfl <;> rfl
  have hd : q / 2 ^ B ≤ q := Nat.div_le_self _ _
  apply Int32.toBitVec_inj.mp
  apply BitVec.eq_of_toNat_eq
  rw [pk_tn]
  show ((nI q).toUInt32 >>> ((nI B).toUInt32 &&& Int32.toUInt32 31)).toNat = _
  rw [UInt32.toNat_shiftRight, e]
  show (nI q).toBitVec.toNat >>> (B % 32) = _
  rw [pk_tn, Nat.shiftRight_eq_div_pow, Nat.mod_eq_of_lt (show B < 32 by omega)]
  all_goals omega
theorem sar_nI {q s : Nat} (hs : s ≤ 12) (hq : q < 4096) : (nI q) >>> ((nI s) &&& 31) = nI (q / 2 ^ s) := by
  have e : ((nI s &&& 31).toBitVec.smod 32#32).toNat = s := by
    rcases (show s = 0 ∨ s = 1 ∨ s = 2 ∨ s = 3 ∨ s = 4 ∨ s = 5 ∨ s = 6 ∨ s = 7 ∨ s = 8 ∨ s = 9 ∨ s = 10 ∨ s = 11 ∨ s = 12 by omega) with rfl | rfl | rfl | rfl | rfl | rfl | rfl | rfl | rfl | rfl | rfl | rfl | rfl <;> rfl
  have hd : q / 2 ^ s ≤ q := Nat.div_le_self _ _
  have hn : (nI q).toBitVec.toNat = q := by rw [pk_tn]; omega
  have hm : (nI q).toBitVec.msb = false := by rw [BitVec.msb_eq_decide, hn]; simp; omega
  apply Int32.toBitVec_inj.mp
  apply BitVec.eq_of_toNat_eq
  rw [pk_tn]
  show ((nI q).toBitVec.sshiftRight ((nI s &&& 31).toBitVec.smod 32#32).toNat).toNat = _
  rw [e, BitVec.sshiftRight_eq_of_msb_false hm, BitVec.toNat_ushiftRight, hn, Nat.shiftRight_eq_div_pow]
  omega
theorem and_mk {q B : Nat} (hB : B ≤ 6) (hq : q < 4096) : nI q &&& mk B = nI (q % 2 ^ B) := by
  have h2B : 2 ^ B ≤ 2 ^ 6 := Nat.pow_le_pow_right (by decide) hB
  have e1 : (mk B).toBitVec.toNat = 2 ^ B - 1 := by unfold mk; rw [pk_tn]; omega
  exact pk_andN (by omega) B e1
theorem pow_d (B m r : Nat) : r / 2 ^ (B * m) / 2 ^ B = r / 2 ^ (B * (m + 1)) := by
  rw [Nat.div_div_eq_div_mul, ← Nat.pow_add, Nat.mul_succ]
/-- what the class answers is what the reference answers -/
theorem ans_coming {B T O r k : Nat} (hk : SZok B T O) (hr : r < 2 ^ (B * (T + O))) : nI (r / 2 ^ (B * (T + k))) &&& mk B = ansF B T O (nI r) (-1) k := by
  obtain ⟨k1, k2, k3, k4, k5, k6⟩ := hk
  have h12 : 2 ^ (B * (T + O)) ≤ 2 ^ 12 := Nat.pow_le_pow_right (by decide) k6
  have hd : r / 2 ^ (B * (T + k)) ≤ r := Nat.div_le_self _ _
  have hr2 : r < 4096 := by omega
  unfold ansF
  rw [if_pos (by decide), and_mk k2 (by omega)]
  by_cases h : k < O
  · have : B * (T + k) ≤ B * (T + O) := Nat.mul_le_mul_left _ (by omega)
    rw [if_pos h, sar_nI (by omega) hr2, and_mk k2 (by omega)]
  · have h3 : 2 ^ (B * (T + O)) ≤ 2 ^ (B * (T + k)) := Nat.pow_le_pow_right (by decide) (Nat.mul_le_mul_left _ (by omega))
    rw [if_neg h, Nat.div_eq_of_lt (by omega), Nat.zero_mod]
    rfl
def pathF (p : Int64 × Nat) (b : Bool) : Int64 × Nat := (if b = true then p.1 else p.1 ||| ((1 : Int64) <<< (((40 : Int32) - nI (p.2 + 1)).toInt64 &&& 63)), p.2 + 1)
/-- the decisions as the class keeps them -/
def pathL (ds : List Bool) : Int64 := (ds.foldl pathF (0, 0)).1
theorem pathF_len : ∀ (ds : List Bool) (p : Int64 × Nat), (ds.foldl pathF p).2 = p.2 + ds.length
  | [], p => rfl
  | b :: ds, p => by simp only [List.foldl_cons, pathF_len ds, List.length_cons]; simp [pathF]; omega
theorem pathL_s (ds : List Bool) (b : Bool) : pathL (ds ++ [b]) = if b = true then pathL ds else pathL ds ||| ((1 : Int64) <<< (((40 : Int32) - nI (ds.length + 1)).toInt64 &&& 63)) := by
  unfold pathL
  rw [List.foldl_append]
  have := pathF_len ds (0, 0)
  simp only [Nat.zero_add] at this
  simp only [List.foldl_cons, List.foldl_nil, pathF, this]
/-- a row of the trace: the names from the last on, then the step -/
def wdN (nm : Nat → Int32) : Nat → Int64 → Int64
  | 0, a => a
  | k + 1, a => wdN nm k ((a <<< ((6 : Int32).toInt64 &&& 63)) ||| (nm k).toInt64)
def wdS (s : Nat) (nm : Nat → Int32) : Int64 := (wdN nm 8 0 <<< ((6 : Int32).toInt64 &&& 63)) ||| (nI s).toInt64
def trF (p : (Nat → Int64) × Nat) (e : Nat × (Nat → Int32)) : (Nat → Int64) × Nat := (va_up p.1 p.2 (wdS e.1 e.2), p.2 + 1)
def trL (f : Nat → Int64) (tr : List (Nat × (Nat → Int32))) : Nat → Int64 := (tr.foldl trF (f, 0)).1
theorem trF_len : ∀ (tr : List (Nat × (Nat → Int32))) (p : (Nat → Int64) × Nat), (tr.foldl trF p).2 = p.2 + tr.length
  | [], p => rfl
  | e :: tr, p => by simp only [List.foldl_cons, trF_len tr, List.length_cons]; simp [trF]; omega
theorem trL_s (f : Nat → Int64) (tr : List (Nat × (Nat → Int32))) (e : Nat × (Nat → Int32)) : trL f (tr ++ [e]) = va_up (trL f tr) tr.length (wdS e.1 e.2) := by
  unfold trL
  rw [List.foldl_append]
  have := trF_len tr (f, 0)
  simp only [Nat.zero_add] at this
  simp only [List.foldl_cons, List.foldl_nil, trF, this]
def KRfr (I0 I : Nat → Nat → Int32) (L0 L : Nat → Nat → Int64) : Prop :=
  (∀ o, o ≠ 4 → o ≠ 5 → o ≠ 6 → o ≠ 7 → o ≠ 8 → o ≠ 10 → I o = I0 o) ∧ (∀ k, k ≠ 4 → k ≠ 6 → k ≠ 8 → k ≠ 11 → k ≠ 12 → k ≠ 13 → k ≠ 15 → k ≠ 16 → I 4 k = I0 4 k) ∧ (∀ o, o ≠ 4 → o ≠ 9 → L o = L0 o) ∧ (∀ k, k ≠ 14 → L 4 k = L0 4 k)
def KRst (I0 : Nat → Nat → Int32) (L0 : Nat → Nat → Int64) (nm cl : Nat → Int32) (bg : Nat) (ds : List Bool) (ys : Nat → Nat) (tr : List (Nat × (Nat → Int32))) (I : Nat → Nat → Int32) (L : Nat → Nat → Int64) : Prop :=
  (∀ k, k < 8 → I 5 k = nm k) ∧ (∀ k, k < 8 → I 6 k = cl k) ∧ I 4 12 = nI bg ∧ I 4 13 = nI ds.length ∧ L 4 14 = pathL ds ∧ (∀ k, k < 60 → I 10 k = I0 10 k + nI (ys k)) ∧ L 9 = (if I0 4 19 = 0 then L0 9 else trL (L0 9) tr)
def KR (B T r : Nat) (rule : Int32) (I0 : Nat → Nat → Int32) (L0 : Nat → Nat → Int64) (I : Nat → Nat → Int32) (L : Nat → Nat → Int64) : PS → Prop
  | (_, stk, cs, nm, cl, sp, bg, ds, ak, ys, tr) => KRfr I0 I L0 L ∧ KRst I0 L0 nm cl bg ds ys tr I L ∧ KS I stk ∧ CRf (I 8) cs ∧ I 4 6 = nI cs.length ∧ I 4 11 = sp ∧ I 4 15 = -1 ∧ (rule = -1 → I 4 8 = nI (r / 2 ^ (B * (T + ak))))
def KRE (I0 : Nat → Nat → Int32) (L0 : Nat → Nat → Int64) (I : Nat → Nat → Int32) (L : Nat → Nat → Int64) : PE → Prop
  | (e, sp, (_, _, _, nm, cl, _, bg, ds, _, ys, tr)) => KRfr I0 I L0 L ∧ KRst I0 L0 nm cl bg ds ys tr I L ∧ I 4 15 = e ∧ I 4 16 = sp
def RunK (P : Nat → Nat × Int32) (n c B T O F r : Nat) (rule : Int32) (I0 : Nat → Nat → Int32) : Prop :=
  c ∈ aw_codes ∧ CodeC P n c I0 ∧ I0 1 0 = nI B ∧ SZok B T O ∧ F ≤ 40 ∧ (rule = -1 ∨ rg B rule) ∧ r < 2 ^ (B * (T + O)) ∧ I0 4 7 = mk B ∧ I0 4 9 = rule ∧ I0 4 10 = nI F
theorem CodeC.same {P : Nat → Nat × Int32} {n c : Nat} {I I' : Nat → Nat → Int32} (h : CodeC P n c I) (hc : c ∈ aw_codes) (hf : ∀ o, o ≠ 4 → o ≠ 5 → o ≠ 6 → o ≠ 7 → o ≠ 8 → o ≠ 10 → I' o = I o) : CodeC P n c I' := by
  have hc2 : c = 30 ∨ c = 35 ∨ c = 40 ∨ c = 45 ∨ c = 50 ∨ c = 55 := by simpa [aw_codes] using hc
  have e : ∀ k, k ≤ 2 → I' (c + k) = I (c + k) := fun k hk => hf _ (by omega) (by omega) (by omega) (by omega) (by omega) (by omega)
  exact h.fr (by rw [show I' c = I c from e 0 (by decide)]) (e 1 (by decide)) (e 2 (by decide))
section KST
variable {X : aw_X} {d : Nat} {Q : Option Value → aw_H → Prop} {I : Nat → Nat → Int32} {L : Nat → Nat → Int64} {D : Nat → Nat}
theorem wdN_s (nm : Nat → Int32) (k : Nat) (a : Int64) : wdN nm (k + 1) a = wdN nm k ((a <<< ((6 : Int32).toInt64 &&& 63)) ||| (nm k).toInt64) := rfl
theorem l_noteBegun {s bg : Nat} {nm : Nat → Int32} {W : Int64} (hb : bg < 1001) (h1 : I 4 12 = nI bg) (h2 : I 4 11 = nI s) (hn : ∀ k, k < 8 → I 5 k = nm k) (hQ : Q none (aw_s I (aw_u L 9 bg ((W <<< ((6 : Int32).toInt64 &&& 63)) ||| (nI s).toInt64)) D)) :
    ∀ (m : Nat) (a : Int64), m ≤ 8 → wdN nm m a = W → aw_z X d y_Mc_noteBegun Q 10 [some (.ref 4), some (.long a), none, some (.int (nI m - 1))] [] (aw_s I L D) := by
  intro m
  induction m with
  | zero =>
    intro a _ e
    have ha : a = W := e
    have c1 : (nI bg < 0) = False := by simp [nI_pos (show bg < 2 ^ 31 by omega)]
    have c2 : ((1001 : Int32) ≤ nI bg) = False := by
      have : ((1001 : Int32) ≤ nI bg) = (1001 ≤ bg) := nI_le' (a := 1001) (by decide) (by omega)
      rw [this]; simp; omega
    have B0 := @b_Mc_noteBegun_10 X d Q I L D a (nI 0 - 1)
    rw [h1, h2, nI_clamp (show bg < 2 ^ 31 by omega)] at B0
    simp only [c1, c2, not_false_eq_true, true_implies, false_implies, implies_true] at B0
    refine B0 (fun _ => aw_in_nI (by omega) (by decide)) (fun _ => ?_) (fun q => absurd (by decide) q) (fun q => absurd (by decide) q)
    rw [ha]
    exact hQ
  | succ m ih =>
    intro a hm e
    rw [nI_pred]
    have c1 : ¬ nI m < 0 := nI_pos (by omega)
    refine b_Mc_noteBegun_10 (fun q => absurd q c1) (fun q => absurd q c1) (fun q => absurd q c1) (fun q => absurd q c1) (fun _ => aw_in_nI (by omega) (by decide)) (fun _ => ?_)
    rw [nI_clamp (show m < 2 ^ 31 by omega), hn m (by omega)]
    rw [wdN_s] at e
    rw [show nI m + (-1 : Int32) = nI m - 1 from by rw [Int32.sub_eq_add_neg]]
    exact ih _ (by omega) e
theorem c_Mc_noteBegun {s bg : Nat} {nm : Nat → Int32} (hb : bg < 1001) (h1 : I 4 12 = nI bg) (h2 : I 4 11 = nI s) (hn : ∀ k, k < 8 → I 5 k = nm k) (hQ : Q none (aw_s I (aw_u L 9 bg (wdS s nm)) D)) : aw_m X d y_Mc_noteBegun [.ref 4] (aw_s I L D) Q :=
  aw_go rfl rfl (b_Mc_noteBegun_0 (l_noteBegun hb h1 h2 hn hQ 8 0 (Nat.le_refl _) rfl))
theorem c_Mc_goOnIf {v e : Int32} (h0 : ¬ v = 0 → Q none (aw_s I L D)) (h1 : v = 0 → Q none (aw_s (aw_u (aw_u I 4 15 e) 4 16 (I 4 11)) L D)) : aw_m X (d + 1) y_Mc_goOnIf [.ref 4, .int v, .int e] (aw_s I L D) Q :=
  aw_go rfl rfl (b_Mc_goOnIf_0 (fun q => b_Mc_goOnIf_13 (h0 q)) (fun q => c_Mc_finish (b_Mc_goOnIf_13 (h1 q))))
theorem c_Mc_setName {j : Nat} {v : Int32} (hj : j < 8) (h : Q none (aw_s (aw_u I 5 j v) L D)) : aw_m X d y_Mc_setName [.ref 4, .int (nI j), .int v] (aw_s I L D) Q := by
  have B0 := @b_Mc_setName_0 X d Q I L D (nI j) v
  have c1 : (nI j < 0) = False := by simp [nI_pos (show j < 2 ^ 31 by omega)]
  have c2 : ((8 : Int32) ≤ nI j) = False := by
    have : ((8 : Int32) ≤ nI j) = (8 ≤ j) := nI_le' (a := 8) (by decide) (by omega)
    rw [this]; simp; omega
  rw [nI_clamp (show j < 2 ^ 31 by omega)] at B0
  simp only [c1, c2, not_false_eq_true, true_implies, false_implies] at B0
  exact aw_go rfl rfl (B0 (aw_in_nI hj (by decide)) h)
theorem c_Mc_setCell {B : Nat} {v i : Int32} {st : List Int32} (hB : B ≤ 6) (hi : rg B i) (hS : KS I (v :: i :: st))
    (hok : ∀ I', i ≤ 7 → KF I I' → KS I' st → Q none (aw_s (aw_u I' 6 i.toNatClampNeg v) L D))
    (her : ∀ I', ¬ i ≤ 7 → KF I I' → Q none (aw_s (aw_u (aw_u I' 4 15 3) 4 16 (I 4 11)) L D)) : aw_m X (d + 1) y_Mc_setCell [.ref 4] (aw_s I L D) Q := by
  refine aw_go rfl rfl (b_Mc_setCell_0 (c_Mc_pop hS (fun I1 k1 s1 => b_Mc_setCell_4 (c_Mc_pop s1 (fun I2 k2 s2 => ?_)))))
  obtain ⟨j, hj, hj2, rfl⟩ := rg_nat hB hi
  have c1 : (nI j < 0) = False := by simp [nI_pos (show j < 2 ^ 31 by omega)]
  have c2 : (nI j < (8 : Int32)) = (j < 8) := nI_lt' (b := 8) (by omega) (by decide)
  have c3 : (nI j ≤ (7 : Int32)) = (j ≤ 7) := nI_le' (b := 7) (by omega) (by decide)
  have B0 := @b_Mc_setCell_9 X d Q I2 L D v (nI j)
  simp only [c1, c2, not_false_eq_true, true_implies, false_implies] at B0
  rw [c3] at hok her
  refine B0 (fun q => aw_in_nI q (by decide)) (fun q => hok I2 (by omega) (k1.tr k2) s2) (fun q => b_Mc_setCell_23 (c_Mc_finish (b_Mc_setCell_32 ?_)))
  rw [(k1.tr k2).2 11 (by decide)]
  exact her I2 (by omega) (k1.tr k2)
end KST
