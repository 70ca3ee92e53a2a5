/-! PART 57: the class's code: adding to it -/
section KCODE
variable {X : aw_X} {d : Nat} {Q : Option Value → aw_H → Prop} {I : Nat → Nat → Int32} {L : Nat → Nat → Int64} {D : Nat → Nat}
theorem codes_ne {c : Nat} (hc : c ∈ aw_codes) : c ≠ c + 1 ∧ c ≠ c + 2 ∧ c ≠ c + 3 ∧ c ≠ c + 4 := ⟨Nat.ne_of_lt (Nat.lt_succ_self _), Nat.ne_of_lt (by omega), Nat.ne_of_lt (by omega), Nat.ne_of_lt (by omega)⟩
theorem ge600 {n : Nat} (h : n < 600) : ¬ (600 : Int32) ≤ nI n := by
  have : ((600 : Int32) ≤ nI n) = (600 ≤ n) := nI_le' (a := 600) (by decide) (by omega)
  rw [this]; omega
theorem c_Cd_add {c n : Nat} {o a : Int32} (hc : c ∈ aw_codes) (hn : I c 4 = nI n) (h6 : n < 600) (h : Q none (aw_s (aw_u (aw_u (aw_u I (c + 1) n o) (c + 2) n a) c 4 (nI (n + 1))) L D)) : aw_m X d y_Cd_add [.ref c, .int o, .int a] (aw_s I L D) Q := by
  obtain ⟨e1, e2, e3, e4⟩ := codes_ne hc
  have B0 := @b_Cd_add_0 X d Q I L D c o a hc
  have p0 : ¬ nI n < 0 := nI_pos (by omega)
  rw [au_o e2, au_o e1, hn, nI_clamp (show n < 2 ^ 31 by omega), nI_1] at B0
  exact aw_go rfl rfl (B0 (fun q => absurd q p0) (fun _ q => absurd q (ge600 h6)) (fun _ _ q => absurd q (ge600 h6)) (fun _ _ _ => aw_in_nI h6 (by decide)) (fun _ _ _ => aw_in_nI h6 (by decide)) (fun _ _ _ => h))
theorem c_Cd_clear {c : Nat} (hc : c ∈ aw_codes) (h : Q none (aw_s (aw_u (aw_u (aw_u (aw_u (aw_u (aw_u I c 4 0) c 5 0) c 6 0) c 7 0) c 8 0) c 9 0) (aw_u L c 10 (0 : Int64)) D)) : aw_m X d y_Cd_clear [.ref c] (aw_s I L D) Q := aw_go rfl rfl (b_Cd_clear_0 hc h)
theorem c_Cd_change {c n j : Nat} {a : Int32} (hc : c ∈ aw_codes) (hn : I c 4 = nI n) (h6 : n ≤ 600) (hj : j < n) (h : Q none (aw_s (aw_u I (c + 2) j a) L D)) : aw_m X d y_Cd_change [.ref c, .int (nI j), .int a] (aw_s I L D) Q := by
  have B0 := @b_Cd_change_0 X d Q I L D c (nI j) a hc
  have p0 : ¬ nI j < 0 := nI_pos (by omega)
  have p1 : ¬ nI n ≤ nI j := by rw [nI_leI (by omega) (by omega)]; omega
  rw [hn, nI_clamp (show j < 2 ^ 31 by omega)] at B0
  exact aw_go rfl rfl (B0 (fun q => absurd q p0) (fun _ q => absurd q p1) (fun _ _ q => absurd q (ge600 (by omega))) (fun _ _ _ => aw_in_nI (by omega) (by decide)) (fun _ _ _ => h))
theorem c_Cd_addNumber {c n m : Nat} {a : Int32} (hc : c ∈ aw_codes) (hn : I c 4 = nI n) (h6 : n < 600) (hm : I c 8 = nI m)
    (h0 : 20 ≤ m → Q none (aw_s (aw_u (aw_u (aw_u I (c + 1) n 1) (c + 2) n a) c 4 (nI (n + 1))) L D))
    (h1 : m < 20 → Q none (aw_s (aw_u (aw_u (aw_u (aw_u (aw_u I (c + 3) m (nI n)) c 8 (nI (m + 1))) (c + 1) n 1) (c + 2) n a) c 4 (nI (n + 1))) L D)) (hm2 : m ≤ 600) : aw_m X (d + 1) y_Cd_addNumber [.ref c, .int a] (aw_s I L D) Q := by
  obtain ⟨e1, e2, e3, e4⟩ := codes_ne hc
  have B0 := @b_Cd_addNumber_0 X d Q I L D c a hc
  have p0 : ¬ nI m < 0 := nI_pos (by omega)
  have p1 : ((20 : Int32) ≤ nI m) = (20 ≤ m) := nI_le' (a := 20) (by decide) (by omega)
  rw [au_o e3, hm, hn, nI_clamp (show m < 2 ^ 31 by omega), nI_1, p1] at B0
  refine aw_go rfl rfl (B0 (fun q => absurd q p0) (fun _ q => b_Cd_addNumber_42 hc (c_Cd_add hc hn h6 (b_Cd_addNumber_48 (h0 q)))) (fun _ q => aw_in_nI (by omega) (by decide)) (fun _ q => b_Cd_addNumber_42 hc (c_Cd_add hc (n := n) (by rw [au_k (by decide), au_o e3]; exact hn) h6 (b_Cd_addNumber_48 (h1 (by omega))))))
end KCODE
