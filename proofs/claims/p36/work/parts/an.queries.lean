/-! PART an: went, along and least of both -/
/-- a query that leaves all as it was: both answer the same -/
def GetW (X : aw_X) (k : Nat) (yK : aw_Y) (avK : List Value) (yM : aw_Y) (avM : List Value) (I : Nat → Nat → Int32) (L : Nat → Nat → Int64) (D : Nat → Nat) : Prop :=
  ∃ r, ∀ d : Nat, (∀ Q : Option Value → aw_H → Prop, Q (some (.int r)) (aw_s I L D) → aw_m X (d + k) yK avK (aw_s I L D) Q) ∧ (∀ Q : Option Value → aw_H → Prop, Q (some (.int r)) (aw_s (aw_u I 69 0 0) L D) → aw_m X (d + k) yM avM (aw_s I L D) Q)
theorem i32_mod {q k : Nat} {m : Nat} (hk : k ≤ 31) (hm : m = 2 ^ k - 1) : nI q &&& nI m = nI (q % 2 ^ k) := by
  have e1 : nI q = nI (q % 2 ^ 32) := by
    apply Int32.toBitVec_inj.mp
    show BitVec.ofNat 32 _ = BitVec.ofNat 32 _
    apply BitVec.eq_of_toNat_eq
    rw [BitVec.toNat_ofNat, BitVec.toNat_ofNat, Nat.mod_mod]
  have e2 : q % 2 ^ 32 % 2 ^ k = q % 2 ^ k := Nat.mod_mod_of_dvd _ (Nat.pow_dvd_pow 2 (by omega))
  rw [e1, hm, pk_andN (Nat.mod_lt _ (by decide)) k (pk_tn (Nat.lt_of_le_of_lt (Nat.sub_le _ _) (Nat.pow_lt_pow_right (by decide) (by omega)))), e2]
theorem key_parts {B F cs : Nat} {E : PE} (hF : F ≤ 40) (h : EF B F cs E) : keyN E % 2 ^ 3 = eN E ∧ keyN E / 2 ^ 3 % 2 ^ 10 = eB E + nHlt E ∧ keyN E / 2 ^ 13 % 2 ^ 6 = (eD E).length ∧ keyN E / 2 ^ 19 = pathN 0 (eD E) := by
  have a1 := h.e.1
  obtain ⟨-, -, b1, l1, -⟩ := h
  have n1 := nH_le E
  unfold keyN
  generalize pathN 0 (eD E) = p1 at *
  generalize (eD E).length = l at *
  generalize eB E = b at *
  generalize nHlt E = nh at *
  generalize eN E = en at *
  refine ⟨?_, ?_, ?_, ?_⟩ <;> omega
theorem path_bit : ∀ (ds : List Bool) (k j : Nat), k + ds.length ≤ 40 → j < ds.length → pathN k ds / 2 ^ (39 - (k + j)) % 2 = if ds.getD j false = true then 0 else 1
  | [], k, j, _, h => absurd h (Nat.not_lt_zero _)
  | b :: ds, k, 0, h, _ => by
    have h : k + (ds.length + 1) ≤ 40 := h
    have lt := pathN_lt ds (k + 1) (by omega)
    rw [show 40 - (k + 1) = 39 - k by omega] at lt
    have p0 := Nat.two_pow_pos (39 - k)
    show pathN k (b :: ds) / 2 ^ (39 - k) % 2 = if b = true then 0 else 1
    rw [pathN]
    by_cases q : b = true
    · rw [if_pos q, if_pos q, Nat.zero_add, Nat.div_eq_of_lt lt]
    · rw [if_neg q, if_neg q, Nat.add_div_left _ p0, Nat.div_eq_of_lt lt]
  | b :: ds, k, j + 1, h, hj => by
    have h : k + (ds.length + 1) ≤ 40 := h
    have hj : j + 1 < ds.length + 1 := hj
    have ih := path_bit ds (k + 1) j (by omega) (by omega)
    rw [pathN, show k + (j + 1) = k + 1 + j by omega]
    show _ = if ds.getD j false = true then 0 else 1
    rw [← ih]
    by_cases q : b = true
    · rw [if_pos q, Nat.zero_add]
    · rw [if_neg q]
      have e : 2 ^ (39 - k) = 2 ^ (39 - (k + 1 + j)) * (2 ^ j * 2) := by
        rw [← Nat.pow_succ, ← Nat.pow_add]; congr 1; omega
      rw [e, Nat.mul_add_div (Nat.two_pow_pos _), Nat.add_mod, Nat.mul_mod_left, Nat.zero_add, Nat.mod_mod]
section QUER
variable {X : aw_X} {d : Nat} {Q : Option Value → aw_H → Prop} {I : Nat → Nat → Int32} {L : Nat → Nat → Int64} {D : Nat → Nat} {v1 v2 : Int32}
theorem c_endOf {B F cs : Nat} {E : PE} (hF : F ≤ 40) (h : EF B F cs E) (hQ : Q (some (.int (eE E))) (aw_s I L D)) : aw_m X d y_Wk_endOf [.long (lN (keyN E))] (aw_s I L D) Q := by
  refine aw_go rfl rfl (b_Wk_endOf_0 ?_)
  rw [i32_l, show (7 : Int32) = nI 7 from rfl, i32_mod (k := 3) (by decide) rfl, (key_parts hF h).1, ← h.e.2]; exact hQ
theorem c_placeOf {B F cs : Nat} {E : PE} (hF : F ≤ 40) (h : EF B F cs E) (hQ : Q (some (.int (nI (eB E + nHlt E)))) (aw_s I L D)) : aw_m X d y_Wk_placeOf [.long (lN (keyN E))] (aw_s I L D) Q := by
  have e := ln_shr (q := keyN E) (s := 3) (by decide) (Nat.lt_trans (key_lt hF h) (by decide))
  have B0 := @b_Wk_placeOf_0 X d Q I L D (lN (keyN E))
  rw [show ((3 : Int32).toInt64.toUInt64 &&& Int64.toUInt64 63) = ((nI 3).toInt64.toUInt64 &&& Int64.toUInt64 63) from rfl, e, i32_l, show (1023 : Int32) = nI 1023 from rfl, i32_mod (k := 10) (by decide) rfl, (key_parts hF h).2.1] at B0
  exact aw_go rfl rfl (B0 hQ)
theorem c_decisionsOf {B F cs : Nat} {E : PE} (hF : F ≤ 40) (h : EF B F cs E) (hQ : Q (some (.int (nI (eD E).length))) (aw_s I L D)) : aw_m X d y_Wk_decisionsOf [.long (lN (keyN E))] (aw_s I L D) Q := by
  have e := ln_shr (q := keyN E) (s := 13) (by decide) (Nat.lt_trans (key_lt hF h) (by decide))
  have B0 := @b_Wk_decisionsOf_0 X d Q I L D (lN (keyN E))
  rw [show ((13 : Int32).toInt64.toUInt64 &&& Int64.toUInt64 63) = ((nI 13).toInt64.toUInt64 &&& Int64.toUInt64 63) from rfl, e, i32_l, show (63 : Int32) = nI 63 from rfl, i32_mod (k := 6) (by decide) rfl, (key_parts hF h).2.2.1] at B0
  exact aw_go rfl rfl (B0 hQ)
theorem c_pathOf {B F cs : Nat} {E : PE} (hF : F ≤ 40) (h : EF B F cs E) (hQ : Q (some (.long (lN (pathN 0 (eD E))))) (aw_s I L D)) : aw_m X d y_Wk_pathOf [.long (lN (keyN E))] (aw_s I L D) Q := by
  have e := ln_shr (q := keyN E) (s := 19) (by decide) (Nat.lt_trans (key_lt hF h) (by decide))
  have B0 := @b_Wk_pathOf_0 X d Q I L D (lN (keyN E))
  rw [show ((19 : Int32).toInt64.toUInt64 &&& Int64.toUInt64 63) = ((nI 19).toInt64.toUInt64 &&& Int64.toUInt64 63) from rfl, e, (key_parts hF h).2.2.2] at B0
  exact aw_go rfl rfl (B0 hQ)
end QUER
