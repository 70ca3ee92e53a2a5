/-! PART 95: what is only looked up; sizes -/
/-- class and reference answer the same, and only that nothing was thrown is noted -/
def GetP (X : aw_X) (yK : aw_Y) (avK : List Value) (yM : aw_Y) (avM : List Value) (I : Nat → Nat → Int32) : Prop :=
  ∃ r, ∀ (d : Nat) (L : Nat → Nat → Int64) (D : Nat → Nat), (∀ Q : Option Value → aw_H → Prop, Q (some (.int r)) (aw_s I L D) → aw_m X (d + 1) yK avK (aw_s I L D) Q) ∧ (∀ Q : Option Value → aw_H → Prop, Q (some (.int r)) (aw_s (aw_u I 69 0 0) L D) → aw_m X (d + 1) yM avM (aw_s I L D) Q)
def RF (I : Nat → Nat → Int32) : Prop := I 0 9 = I 69 9
def RSz (I : Nat → Nat → Int32) : Prop := ∃ B T O, SZok B T O ∧ I 1 0 = nI B ∧ I 1 1 = nI T ∧ I 1 2 = nI O ∧ SZ I B T O
/-- a row that was left behind by both -/
def RRow (I : Nat → Nat → Int32) (N o k a o' k' a' : Nat) : Prop := ∃ n, n ≤ N ∧ I o k = nI n ∧ I o' k' = nI n ∧ ∀ j, j < n → I a j = I a' j
def RGt (I : Nat → Nat → Int32) : Prop := (I 0 17 = 0 ∧ I 69 85 = 0) ∨ (I 0 17 = 1 ∧ I 69 85 = 1 ∧ ∀ j, j < 17 → I 68 j = I 114 j)
section GETS
variable {X : aw_X} {I : Nat → Nat → Int32} {v : Int32}
theorem q_fault (h : RF I) : GetP X y_AW_fault [.ref 0] y_M_fault [.ref 69] I :=
  ⟨I 0 9, fun d L D => ⟨fun Q q => aw_go rfl rfl (b_AW_fault_0 q), fun Q q => aw_go rfl rfl (b_M_fault_0 (by rw [← (show I 0 9 = I 69 9 from h)]; exact q))⟩⟩
theorem q_mended (h : I 0 15 = I 69 73) : GetP X y_AW_mended [.ref 0] y_M_mended [.ref 69] I :=
  ⟨I 0 15, fun d L D => ⟨fun Q q => aw_go rfl rfl (b_AW_mended_0 q), fun Q q => aw_go rfl rfl (b_M_mended_0 (by rw [← h]; exact q))⟩⟩
theorem q_count (h : RSz I) (ht : RT I) : GetP X y_AW_count [.ref 0, .int v] y_M_count [.ref 69, .int v] I := by
  obtain ⟨B, T, O, -, a1, a2, a3, b1, b2, b3⟩ := h
  obtain ⟨z, -, t1, t2, -⟩ := ht
  refine ⟨if v = 0 then nI B else if v = 1 then nI T else if v = 2 then nI O else if v = 3 then nI z else -1, fun d L D => ⟨fun Q q => aw_go rfl rfl (b_AW_count_0 (fun x => ?_) (fun x y => ?_) (fun x y z => ?_) (fun x y z w => ?_) (fun x y z w => ?_)), fun Q q => aw_go rfl rfl (b_M_count_0 (fun x => ?_) (fun x y => ?_) (fun x y z => ?_) (fun x y z w => ?_) (fun x y z w => ?_))⟩⟩
  · rw [if_pos x] at q; rw [a1]; exact q
  · rw [if_neg x, if_pos y] at q; rw [a2]; exact q
  · rw [if_neg x, if_neg y, if_pos z] at q; rw [a3]; exact q
  · rw [if_neg x, if_neg y, if_neg z, if_pos w] at q; rw [t1]; exact q
  · rw [if_neg x, if_neg y, if_neg z, if_neg w] at q; exact q
  · rw [if_pos x] at q; rw [b1]; exact q
  · rw [if_neg x, if_pos y] at q; rw [b2]; exact q
  · rw [if_neg x, if_neg y, if_pos z] at q; rw [b3]; exact q
  · rw [if_neg x, if_neg y, if_neg z, if_pos w] at q; rw [t2]; exact q
  · rw [if_neg x, if_neg y, if_neg z, if_neg w] at q; exact q
/-- which of a row's numbers, or none -/
def rowV (n : Nat) (f : Nat → Int32) (v : Int32) : Int32 := if v < 0 ∨ nI n ≤ v then -1 else f v.toNatClampNeg
theorem rowV_i {n : Nat} {v : Int32} (hn : n < 2 ^ 31) (h1 : ¬ v < 0) (h2 : ¬ nI n ≤ v) : ∃ j, j < n ∧ v = nI j ∧ v.toNatClampNeg = j := by
  obtain ⟨j, rfl, hj⟩ := i32_nat h1
  rw [nI_leI hn hj] at h2
  exact ⟨j, by omega, rfl, nI_clamp hj⟩
theorem rowV_hi {n N : Nat} {v : Int32} (hN : N < 2 ^ 31) (hn : n ≤ N) (h1 : ¬ v < 0) (h2 : ¬ nI n ≤ v) : ¬ nI N ≤ v := by
  obtain ⟨j, hj, rfl, -⟩ := rowV_i (by omega) h1 h2
  rw [nI_leI (by omega) (by omega)]; omega
theorem q_coverAt (h : RRow I 2 0 11 66 69 71 105) : GetP X y_AW_coverAt [.ref 0, .int v] y_M_coverAt [.ref 69, .int v] I := by
  obtain ⟨n, hn, a, b, c⟩ := h
  refine ⟨rowV n (I 66) v, fun d L D => ⟨fun Q q => aw_go rfl rfl (b_AW_coverAt_0 (fun x => ?_) (fun x y => ?_) (fun x y z => ?_) (fun x y z => ?_) (fun x y z => ?_)), fun Q q => aw_go rfl rfl (b_M_coverAt_0 (fun x => ?_) (fun x y => ?_) (fun x y => ?_) (fun x y => ?_))⟩⟩
  · rw [rowV, if_pos (Or.inl x)] at q; exact q
  · rw [a] at y; rw [rowV, if_pos (Or.inr y)] at q; exact q
  · rw [a] at y; exact absurd z (rowV_hi (N := 2) (by decide) hn x y)
  · rw [a] at y; obtain ⟨j, hj, rfl, -⟩ := rowV_i (by omega) x y; exact aw_in_nI (by omega) (by decide)
  · rw [a] at y; rw [rowV, if_neg (fun w => w.elim x y)] at q; exact q
  · rw [rowV, if_pos (Or.inl x)] at q; exact q
  · rw [b] at y; rw [rowV, if_pos (Or.inr y)] at q; exact q
  · rw [b] at y; obtain ⟨j, hj, rfl, -⟩ := rowV_i (by omega) x y; exact aw_in_nI (by omega) (by decide)
  · rw [b] at y; rw [rowV, if_neg (fun w => w.elim x y)] at q
    obtain ⟨j, hj, -, e⟩ := rowV_i (by omega) x y
    rw [e] at q ⊢; rw [← c j hj]; exact q
theorem q_lawAt (h : RRow I 28 0 14 67 69 69 104) : GetP X y_AW_lawAt [.ref 0, .int v] y_M_lawAt [.ref 69, .int v] I := by
  obtain ⟨n, hn, a, b, c⟩ := h
  refine ⟨rowV n (I 67) v, fun d L D => ⟨fun Q q => aw_go rfl rfl (b_AW_lawAt_0 (fun x => ?_) (fun x y => ?_) (fun x y z => ?_) (fun x y z => ?_) (fun x y z => ?_)), fun Q q => aw_go rfl rfl (b_M_lawAt_0 (fun x => ?_) (fun x y => ?_) (fun x y => ?_) (fun x y => ?_))⟩⟩
  · rw [rowV, if_pos (Or.inl x)] at q; exact q
  · rw [a] at y; rw [rowV, if_pos (Or.inr y)] at q; exact q
  · rw [a] at y; exact absurd z (rowV_hi (N := 28) (by decide) hn x y)
  · rw [a] at y; obtain ⟨j, hj, rfl, -⟩ := rowV_i (by omega) x y; exact aw_in_nI (by omega) (by decide)
  · rw [a] at y; rw [rowV, if_neg (fun w => w.elim x y)] at q; exact q
  · rw [rowV, if_pos (Or.inl x)] at q; exact q
  · rw [b] at y; rw [rowV, if_pos (Or.inr y)] at q; exact q
  · rw [b] at y; obtain ⟨j, hj, rfl, -⟩ := rowV_i (by omega) x y; exact aw_in_nI (by omega) (by decide)
  · rw [b] at y; rw [rowV, if_neg (fun w => w.elim x y)] at q
    obtain ⟨j, hj, -, e⟩ := rowV_i (by omega) x y
    rw [e] at q ⊢; rw [← c j hj]; exact q
theorem q_proofAt (h : RRow I 511 23 8 28 69 83 112) : GetP X y_AW_proofAt [.ref 0, .int v] y_M_proofAt [.ref 69, .int v] I := by
  obtain ⟨n, hn, a, b, c⟩ := h
  refine ⟨rowV n (I 28) v, fun d L D => ⟨fun Q q => aw_go rfl rfl (b_AW_proofAt_0 (aw_go rfl rfl (b_Pf_byteAt_0 (fun x => b_AW_proofAt_8 ?_) (fun x y => b_AW_proofAt_8 ?_) (fun x y z => b_AW_proofAt_8 ?_) (fun x y z => ?_) (fun x y z => b_AW_proofAt_8 ?_)))), fun Q q => aw_go rfl rfl (b_M_proofAt_0 (fun x => ?_) (fun x y => ?_) (fun x y => ?_) (fun x y => ?_))⟩⟩
  · rw [rowV, if_pos (Or.inl x)] at q; exact q
  · rw [a] at y; rw [rowV, if_pos (Or.inr y)] at q; exact q
  · rw [a] at y; exact absurd z (rowV_hi (N := 511) (by decide) hn x y)
  · rw [a] at y; obtain ⟨j, hj, rfl, -⟩ := rowV_i (by omega) x y; exact aw_in_nI (by omega) (by decide)
  · rw [a] at y; rw [rowV, if_neg (fun w => w.elim x y)] at q; exact q
  · rw [rowV, if_pos (Or.inl x)] at q; exact q
  · rw [b] at y; rw [rowV, if_pos (Or.inr y)] at q; exact q
  · rw [b] at y; obtain ⟨j, hj, rfl, -⟩ := rowV_i (by omega) x y; exact aw_in_nI (by omega) (by decide)
  · rw [b] at y; rw [rowV, if_neg (fun w => w.elim x y)] at q
    obtain ⟨j, hj, -, e⟩ := rowV_i (by omega) x y
    rw [e] at q ⊢; rw [← c j hj]; exact q
theorem q_got (h : RGt I) : GetP X y_AW_got [.ref 0, .int v] y_M_got [.ref 69, .int v] I := by
  rcases h with ⟨a, b⟩ | ⟨a, b, c⟩
  · refine ⟨-1, fun d L D => ⟨fun Q q => aw_go rfl rfl (b_AW_got_0 (fun _ => q) (fun x => absurd a x) (fun x => absurd a x) (fun x => absurd a x) (fun x => absurd a x)), fun Q q => aw_go rfl rfl (b_M_got_0 (fun _ => q) (fun x => absurd b x))⟩⟩
  · have na : ¬ I 0 17 = 0 := by rw [a]; decide
    have nb : ¬ I 69 85 = 0 := by rw [b]; decide
    refine ⟨rowV 17 (I 68) v, fun d L D => ⟨fun Q q => aw_go rfl rfl (b_AW_got_0 (fun x => absurd x na) (fun _ x => ?_) (fun _ x y => ?_) (fun _ x y => ?_) (fun _ x y => ?_)), fun Q q => aw_go rfl rfl (b_M_got_0 (fun x => absurd x nb) (fun _ => c_M_isIn ?_))⟩⟩
    · rw [rowV, if_pos (Or.inl x)] at q; exact q
    · have y : nI 17 ≤ v := y
      rw [rowV, if_pos (Or.inr y)] at q; exact q
    · have y : ¬ nI 17 ≤ v := y
      obtain ⟨j, hj, rfl, -⟩ := rowV_i (by decide) x y; exact aw_in_nI (by omega) (by decide)
    · have y : ¬ nI 17 ≤ v := y
      rw [rowV, if_neg (fun w => w.elim x y)] at q; exact q
    · by_cases g : v < 0 ∨ nI 17 ≤ v
      · rw [rowV, if_pos g] at q
        have e : (decide ((0 : Int32) ≤ v) && decide (v ≤ 16)) = false := by
          rcases g with g | g
          · rw [decide_eq_false (Int32.not_le.mpr g)]; rfl
          · rw [decide_eq_false (p := v ≤ 16) (fun x => absurd (Int32.le_trans g x) (by decide))]; simp
        rw [e]
        exact b_M_got_19 (fun _ => q) (fun x => absurd rfl x) (fun x => absurd rfl x)
      · have x : ¬ v < 0 := fun x => g (Or.inl x)
        have y : ¬ nI 17 ≤ v := fun x => g (Or.inr x)
        rw [rowV, if_neg g] at q
        obtain ⟨j, hj, rfl, e⟩ := rowV_i (by decide) x y
        have e1 : (decide ((0 : Int32) ≤ nI j) && decide (nI j ≤ 16)) = true := by
          rw [decide_eq_true (Int32.not_lt.mp x), decide_eq_true (p := nI j ≤ 16) (by rw [show (16 : Int32) = nI 16 from rfl, nI_leI (by omega) (by decide)]; omega)]; rfl
        rw [e1]
        refine b_M_got_19 (fun x => absurd x (by decide)) (fun _ => aw_in_nI (by omega) (by decide)) (fun _ => ?_)
        rw [e] at q ⊢
        rw [au_o (by decide), ← c j hj]; exact q
end GETS
