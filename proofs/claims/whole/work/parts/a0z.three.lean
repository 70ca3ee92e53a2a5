/-! PART a0z: the table of threes -/
section THREE
variable {X : aw_X} {d : Nat} {Q : Option Value → aw_H → Prop} {I : Nat → Nat → Int32} {L : Nat → Nat → Int64} {D : Nat → Nat}
theorem c_Pf_three {j : Nat} (hj : j < 9) (h : Q (some (.int (nI (3 ^ j)))) (aw_s I L D)) : aw_m X d y_Pf_three [.int (nI j)] (aw_s I L D) Q := by
  have c0 : ¬ nI j < 0 := nI_pos (by omega)
  have c9 : ¬ (9 : Int32) ≤ nI j := by rw [show (9 : Int32) = nI 9 from rfl, nI_leI (by decide) (by omega)]; omega
  refine aw_C.of rfl (Nat.le_of_ble_eq_true rfl) (s_Pf_three_0.go [some (.int (nI j))] [.int (nI j)] (aw_s I L D) rfl (z_if_lt (tgt := 20) d_Pf_three_1 rfl (fun c => absurd c c0) (fun _ => ?_)))
  refine s_Pf_three_4.go [some (.int (nI j))] [.int (nI j)] (aw_s I L D) rfl (z_th w_1292 d_Pf_three_5 (z_tlen d_Pf_three_8 (z_icmp_ge (tgt := 20) d_Pf_three_9 rfl (fun c => absurd c c9) (fun _ => z_th w_1292 d_Pf_three_12 ?_))))
  refine s_Pf_three_15.go [some (.int (nI j))] [.int (nI j), .ref 1001] (aw_s I L D) rfl (z_tald (aw_in_nI hj (by decide)) d_Pf_three_16 ?_)
  rw [nI_clamp (by omega)]
  exact z_goto (tgt := 21) d_Pf_three_17 rfl (z_iret d_Pf_three_21 rfl rfl h)
theorem c_VT {j : Nat} (hj : j < 9) (h : Q (some (.int (nI (3 ^ j)))) (aw_s I L D)) : aw_m X d y_AW_valueAt_aII [.ref 1001, .int (nI j)] (aw_s I L D) Q := by
  have c0 : ¬ nI j < 0 := nI_pos (by omega)
  have c9 : ¬ (9 : Int32) ≤ nI j := by rw [show (9 : Int32) = nI 9 from rfl, nI_leI (by decide) (by omega)]; omega
  refine aw_C.of rfl (Nat.le_of_ble_eq_true rfl) (s_VT_0.go [some (.ref 1001), some (.int (nI j))] [.int (nI j)] (aw_s I L D) rfl (z_if_lt (tgt := 16) d_VT_1 rfl (fun c => absurd c c0) (fun _ => ?_)))
  refine s_VT_4.go [some (.ref 1001), some (.int (nI j))] [.ref 1001, .int (nI j)] (aw_s I L D) rfl (z_tlen d_VT_6 (z_icmp_ge (tgt := 16) d_VT_7 rfl (fun c => absurd c c9) (fun _ => ?_)))
  refine s_VT_10.go [some (.ref 1001), some (.int (nI j))] [.int (nI j), .ref 1001] (aw_s I L D) rfl (z_tald (aw_in_nI hj (by decide)) d_VT_12 ?_)
  rw [nI_clamp (by omega)]
  exact z_goto (tgt := 17) d_VT_13 rfl (z_iret d_VT_17 rfl rfl h)
theorem c_Pf_parts {n : Nat} (hn : n ≤ 8) (e : I 1 0 * (I 1 1 + I 1 2) = nI n) (h : Q (some (.int (nI (3 ^ n)))) (aw_s I L D)) : aw_m X (d + 1) y_Pf_parts [.ref 23] (aw_s I L D) Q := by
  refine aw_C.of rfl (Nat.le_of_ble_eq_true rfl) (z_th w_1292 d_Pf_parts_0 (s_Pf_parts_3.go [some (.ref 23)] [.ref 1, .ref 1001] (aw_s I L D) rfl ?_))
  refine z_callV (av := []) (st := [.ref 1001]) ok_Sz_rowBits (Or.inl w_1294) w_882 w_883 k_Sz d_Pf_parts_7 rfl (aw_lt (o := 1) rfl) rfl rfl (Nat.le_of_ble_eq_true rfl) (Nat.le_refl _) (Nat.le_refl _) (aw_go rfl rfl (b_Sz_rowBits_0 ?_))
  rw [e]
  exact z_callS (av := [.ref 1001, .int (nI n)]) (st := []) ok_AW_valueAt_aII (Or.inr ⟨"AllWays", w_1295⟩) w_927 d_Pf_parts_10 rfl rfl (Nat.le_of_ble_eq_true rfl) (Nat.le_refl _) (Nat.le_refl _) (c_VT (by omega) (z_iret d_Pf_parts_13 rfl rfl h))
end THREE
