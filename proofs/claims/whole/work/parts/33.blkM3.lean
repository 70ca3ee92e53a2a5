/-! by gen_blk.py (genall.py) -/
/-! M_order -/
theorem d_M_order_0 : decode y_M_order.2.1 0 = .ok (.aload_n 0, 1) := by decide +kernel
theorem s_M_order_0 : aw_VS y_M_order 0 [o_ald 0] 1 := .cons (v_aload_n (i := 0) d_M_order_0 rfl) .nil
theorem d_M_order_1 : decode y_M_order.2.1 1 = .ok (.invokevirtual 423, 3) := by decide +kernel
theorem b_M_order_0 {X : aw_X} {d : Nat} {Q : Option Value → aw_H → Prop} {I : Nat → Nat → Int32} {L : Nat → Nat → Int64} {D : Nat → Nat} 
    (h1 : aw_m X d y_M_rows [.ref 69] (aw_s I L D) (fun r A => aw_z X (d + 1) y_M_order Q 4 [some (.ref 69), none, none, none] (r.toList ++ []) A)) :
    aw_z X (d + 1) y_M_order Q 0 [some (.ref 69), none, none, none] [] (aw_s I L D) :=
  (s_M_order_0.go [some (.ref 69), none, none, none] [.ref 69] (aw_s I L D) rfl (z_callV (av := []) (st := []) ok_M_rows (Or.inl w_1915) w_1917 w_105 k_M d_M_order_1 rfl (aw_lt (o := 69) rfl) rfl rfl (Nat.le_of_ble_eq_true rfl) (Nat.le_refl _) (Nat.le_refl _) (h1)))
theorem d_M_order_4 : decode y_M_order.2.1 4 = .ok (.istore_n 1, 1) := by decide +kernel
theorem d_M_order_5 : decode y_M_order.2.1 5 = .ok (.iconst 0, 1) := by decide +kernel
theorem d_M_order_6 : decode y_M_order.2.1 6 = .ok (.istore_n 2, 1) := by decide +kernel
theorem s_M_order_4 : aw_VS y_M_order 4 [o_ist 1, o_c (.int (0 : Int32)), o_ist 2] 7 := .cons (v_istore_n d_M_order_4) (.cons (v_iconst (v := (0 : Int32)) d_M_order_5 (by decide +kernel)) (.cons (v_istore_n d_M_order_6) .nil))
theorem b_M_order_4 {X : aw_X} {d : Nat} {Q : Option Value → aw_H → Prop} {I : Nat → Nat → Int32} {L : Nat → Nat → Int64} {D : Nat → Nat} {s0 : Int32}
    (h1 : aw_z X (d + 1) y_M_order Q 7 [some (.ref 69), some (.int s0), some (.int (0 : Int32)), none] [] (aw_s I L D)) :
    aw_z X (d + 1) y_M_order Q 4 [some (.ref 69), none, none, none] [.int s0] (aw_s I L D) :=
  (s_M_order_4.go [some (.ref 69), some (.int s0), some (.int (0 : Int32)), none] [] (aw_s I L D) rfl (h1))
theorem d_M_order_7 : decode y_M_order.2.1 7 = .ok (.iload_n 2, 1) := by decide +kernel
theorem d_M_order_8 : decode y_M_order.2.1 8 = .ok (.iload_n 1, 1) := by decide +kernel
theorem s_M_order_7 : aw_VS y_M_order 7 [o_ild 2, o_ild 1] 9 := .cons (v_iload_n (i := 2) d_M_order_7 rfl) (.cons (v_iload_n (i := 1) d_M_order_8 rfl) .nil)
theorem d_M_order_9 : decode y_M_order.2.1 9 = .ok (.if_icmp .ge (16), 3) := by decide +kernel
theorem d_M_order_25 : decode y_M_order.2.1 25 = .ok (.iconst 1, 1) := by decide +kernel
theorem d_M_order_26 : decode y_M_order.2.1 26 = .ok (.istore_n 2, 1) := by decide +kernel
theorem s_M_order_25 : aw_VS y_M_order 25 [o_c (.int (1 : Int32)), o_ist 2] 27 := .cons (v_iconst (v := (1 : Int32)) d_M_order_25 (by decide +kernel)) (.cons (v_istore_n d_M_order_26) .nil)
theorem d_M_order_12 : decode y_M_order.2.1 12 = .ok (.aload_n 0, 1) := by decide +kernel
theorem d_M_order_13 : decode y_M_order.2.1 13 = .ok (.getfield 115, 3) := by decide +kernel
theorem d_M_order_16 : decode y_M_order.2.1 16 = .ok (.iload_n 2, 1) := by decide +kernel
theorem d_M_order_17 : decode y_M_order.2.1 17 = .ok (.iload_n 2, 1) := by decide +kernel
theorem s_M_order_12 : aw_VS y_M_order 12 [o_ald 0, o_getA 9 62, o_ild 2, o_ild 2] 18 := .cons (v_aload_n (i := 0) d_M_order_12 rfl) (.cons (v_getA (k := 62) k_M (by decide) rfl (Or.inl w_1523) d_M_order_13) (.cons (v_iload_n (i := 2) d_M_order_16 rfl) (.cons (v_iload_n (i := 2) d_M_order_17 rfl) .nil)))
theorem d_M_order_18 : decode y_M_order.2.1 18 = .ok (.iastore, 1) := by decide +kernel
theorem d_M_order_19 : decode y_M_order.2.1 19 = .ok (.iinc 2 (1), 3) := by decide +kernel
theorem s_M_order_19 : aw_VS y_M_order 19 [o_inc 2 (1 : Int32)] 22 := .cons (v_iinc (k0 := (1 : Int32)) d_M_order_19 (by decide +kernel)) .nil
theorem d_M_order_22 : decode y_M_order.2.1 22 = .ok (.goto (-15), 3) := by decide +kernel
theorem b_M_order_7 {X : aw_X} {d : Nat} {Q : Option Value → aw_H → Prop} {I : Nat → Nat → Int32} {L : Nat → Nat → Int64} {D : Nat → Nat} {v1 : Int32} {v2 : Int32}
    (h1 : v1 ≤ v2 → aw_z X (d + 1) y_M_order Q 27 [some (.ref 69), some (.int v1), some (.int (1 : Int32)), none] [] (aw_s I L D))
    (h2 : ¬ v1 ≤ v2 → vp_in v2 4096)
    (h3 : ¬ v1 ≤ v2 → aw_z X (d + 1) y_M_order Q 7 [some (.ref 69), some (.int v1), some (.int (v2 + (1 : Int32))), none] [] (aw_s (aw_u I 102 v2.toNatClampNeg v2) L D)) :
    aw_z X (d + 1) y_M_order Q 7 [some (.ref 69), some (.int v1), some (.int v2), none] [] (aw_s I L D) :=
  (s_M_order_7.go [some (.ref 69), some (.int v1), some (.int v2), none] [.int v1, .int v2] (aw_s I L D) rfl (z_icmp_ge (tgt := 25) d_M_order_9 rfl (fun q1 => (s_M_order_25.go [some (.ref 69), some (.int v1), some (.int (1 : Int32)), none] [] (aw_s I L D) rfl (h1 q1))) (fun q2 => (s_M_order_12.go [some (.ref 69), some (.int v1), some (.int v2), none] [.int v2, .int v2, .ref 102] (aw_s I L D) rfl (z_iast (n := 4096) rfl (aw_lt (o := 102) rfl) (h2 q2) d_M_order_18 (s_M_order_19.go [some (.ref 69), some (.int v1), some (.int (v2 + (1 : Int32))), none] [] (aw_s (aw_u I 102 v2.toNatClampNeg v2) L D) rfl (z_goto (tgt := 7) d_M_order_22 rfl (h3 q2))))))))
theorem d_M_order_27 : decode y_M_order.2.1 27 = .ok (.iload_n 2, 1) := by decide +kernel
theorem d_M_order_28 : decode y_M_order.2.1 28 = .ok (.iload_n 1, 1) := by decide +kernel
theorem s_M_order_27 : aw_VS y_M_order 27 [o_ild 2, o_ild 1] 29 := .cons (v_iload_n (i := 2) d_M_order_27 rfl) (.cons (v_iload_n (i := 1) d_M_order_28 rfl) .nil)
theorem d_M_order_29 : decode y_M_order.2.1 29 = .ok (.if_icmp .ge (58), 3) := by decide +kernel
theorem d_M_order_87 : decode y_M_order.2.1 87 = .ok (.aload_n 0, 1) := by decide +kernel
theorem d_M_order_88 : decode y_M_order.2.1 88 = .ok (.iconst 0, 1) := by decide +kernel
theorem d_M_order_89 : decode y_M_order.2.1 89 = .ok (.putfield 431, 3) := by decide +kernel
theorem d_M_order_92 : decode y_M_order.2.1 92 = .ok (.iconst 0, 1) := by decide +kernel
theorem d_M_order_93 : decode y_M_order.2.1 93 = .ok (.istore_n 2, 1) := by decide +kernel
theorem s_M_order_87 : aw_VS y_M_order 87 [o_ald 0, o_c (.int (0 : Int32)), o_putI 9 64, o_c (.int (0 : Int32)), o_ist 2] 94 := .cons (v_aload_n (i := 0) d_M_order_87 rfl) (.cons (v_iconst (v := (0 : Int32)) d_M_order_88 (by decide +kernel)) (.cons (v_putI (k := 64) k_M (by decide) rfl (Or.inl ⟨rfl, Or.inl w_1525⟩) d_M_order_89) (.cons (v_iconst (v := (0 : Int32)) d_M_order_92 (by decide +kernel)) (.cons (v_istore_n d_M_order_93) .nil))))
theorem d_M_order_32 : decode y_M_order.2.1 32 = .ok (.iconst 0, 1) := by decide +kernel
theorem d_M_order_33 : decode y_M_order.2.1 33 = .ok (.istore_n 3, 1) := by decide +kernel
theorem s_M_order_32 : aw_VS y_M_order 32 [o_c (.int (0 : Int32)), o_ist 3] 34 := .cons (v_iconst (v := (0 : Int32)) d_M_order_32 (by decide +kernel)) (.cons (v_istore_n d_M_order_33) .nil)
theorem b_M_order_27 {X : aw_X} {d : Nat} {Q : Option Value → aw_H → Prop} {I : Nat → Nat → Int32} {L : Nat → Nat → Int64} {D : Nat → Nat} {v1 : Int32} {v2 : Int32}
    (h1 : v1 ≤ v2 → aw_z X (d + 1) y_M_order Q 94 [some (.ref 69), some (.int v1), some (.int (0 : Int32)), none] [] (aw_s (aw_u I 69 64 (0 : Int32)) L D))
    (h2 : ¬ v1 ≤ v2 → aw_z X (d + 1) y_M_order Q 34 [some (.ref 69), some (.int v1), some (.int v2), some (.int (0 : Int32))] [] (aw_s I L D)) :
    aw_z X (d + 1) y_M_order Q 27 [some (.ref 69), some (.int v1), some (.int v2), none] [] (aw_s I L D) :=
  (s_M_order_27.go [some (.ref 69), some (.int v1), some (.int v2), none] [.int v1, .int v2] (aw_s I L D) rfl (z_icmp_ge (tgt := 87) d_M_order_29 rfl (fun q1 => (s_M_order_87.go [some (.ref 69), some (.int v1), some (.int (0 : Int32)), none] [] (aw_s (aw_u I 69 64 (0 : Int32)) L D) rfl (h1 q1))) (fun q2 => (s_M_order_32.go [some (.ref 69), some (.int v1), some (.int v2), some (.int (0 : Int32))] [] (aw_s I L D) rfl (h2 q2)))))
theorem d_M_order_94 : decode y_M_order.2.1 94 = .ok (.iload_n 2, 1) := by decide +kernel
theorem d_M_order_95 : decode y_M_order.2.1 95 = .ok (.iload_n 1, 1) := by decide +kernel
theorem s_M_order_94 : aw_VS y_M_order 94 [o_ild 2, o_ild 1] 96 := .cons (v_iload_n (i := 2) d_M_order_94 rfl) (.cons (v_iload_n (i := 1) d_M_order_95 rfl) .nil)
theorem d_M_order_96 : decode y_M_order.2.1 96 = .ok (.if_icmp .ge (101), 3) := by decide +kernel
theorem d_M_order_197 : decode y_M_order.2.1 197 = .ok (.return_, 1) := by decide +kernel
theorem d_M_order_99 : decode y_M_order.2.1 99 = .ok (.iload_n 2, 1) := by decide +kernel
theorem s_M_order_99 : aw_VS y_M_order 99 [o_ild 2] 100 := .cons (v_iload_n (i := 2) d_M_order_99 rfl) .nil
theorem d_M_order_100 : decode y_M_order.2.1 100 = .ok (.ifCond .eq (24), 3) := by decide +kernel
theorem d_M_order_103 : decode y_M_order.2.1 103 = .ok (.aload_n 0, 1) := by decide +kernel
theorem d_M_order_104 : decode y_M_order.2.1 104 = .ok (.aload_n 0, 1) := by decide +kernel
theorem d_M_order_105 : decode y_M_order.2.1 105 = .ok (.getfield 115, 3) := by decide +kernel
theorem d_M_order_108 : decode y_M_order.2.1 108 = .ok (.iload_n 2, 1) := by decide +kernel
theorem d_M_order_109 : decode y_M_order.2.1 109 = .ok (.iconst 1, 1) := by decide +kernel
theorem d_M_order_110 : decode y_M_order.2.1 110 = .ok (.isub, 1) := by decide +kernel
theorem s_M_order_103 : aw_VS y_M_order 103 [o_ald 0, o_ald 0, o_getA 9 62, o_ild 2, o_c (.int (1 : Int32)), o_i2 (fun x z => x - z)] 111 := .cons (v_aload_n (i := 0) d_M_order_103 rfl) (.cons (v_aload_n (i := 0) d_M_order_104 rfl) (.cons (v_getA (k := 62) k_M (by decide) rfl (Or.inl w_1523) d_M_order_105) (.cons (v_iload_n (i := 2) d_M_order_108 rfl) (.cons (v_iconst (v := (1 : Int32)) d_M_order_109 (by decide +kernel)) (.cons (v_isub d_M_order_110) .nil)))))
theorem d_M_order_111 : decode y_M_order.2.1 111 = .ok (.iaload, 1) := by decide +kernel
theorem d_M_order_112 : decode y_M_order.2.1 112 = .ok (.aload_n 0, 1) := by decide +kernel
theorem d_M_order_113 : decode y_M_order.2.1 113 = .ok (.getfield 115, 3) := by decide +kernel
theorem d_M_order_116 : decode y_M_order.2.1 116 = .ok (.iload_n 2, 1) := by decide +kernel
theorem s_M_order_112 : aw_VS y_M_order 112 [o_ald 0, o_getA 9 62, o_ild 2] 117 := .cons (v_aload_n (i := 0) d_M_order_112 rfl) (.cons (v_getA (k := 62) k_M (by decide) rfl (Or.inl w_1523) d_M_order_113) (.cons (v_iload_n (i := 2) d_M_order_116 rfl) .nil))
theorem d_M_order_117 : decode y_M_order.2.1 117 = .ok (.iaload, 1) := by decide +kernel
theorem d_M_order_118 : decode y_M_order.2.1 118 = .ok (.invokevirtual 442, 3) := by decide +kernel
theorem b_M_order_94 {X : aw_X} {d : Nat} {Q : Option Value → aw_H → Prop} {I : Nat → Nat → Int32} {L : Nat → Nat → Int64} {D : Nat → Nat} {v1 : Int32} {v2 : Int32}
    (h1 : v1 ≤ v2 → Q none (aw_s I L D))
    (h2 : ¬ v1 ≤ v2 → v2 = 0 → aw_z X (d + 1) y_M_order Q 124 [some (.ref 69), some (.int v1), some (.int v2), none] [] (aw_s I L D))
    (h3 : ¬ v1 ≤ v2 → ¬ v2 = 0 → vp_in (v2 - (1 : Int32)) 4096)
    (h4 : ¬ v1 ≤ v2 → ¬ v2 = 0 → vp_in v2 4096)
    (h5 : ¬ v1 ≤ v2 → ¬ v2 = 0 → aw_m X d y_M_compare [.ref 69, .int (I 102 ((v2 - (1 : Int32)).toNatClampNeg)), .int (I 102 v2.toNatClampNeg)] (aw_s I L D) (fun r A => aw_z X (d + 1) y_M_order Q 121 [some (.ref 69), some (.int v1), some (.int v2), none] (r.toList ++ []) A)) :
    aw_z X (d + 1) y_M_order Q 94 [some (.ref 69), some (.int v1), some (.int v2), none] [] (aw_s I L D) :=
  (s_M_order_94.go [some (.ref 69), some (.int v1), some (.int v2), none] [.int v1, .int v2] (aw_s I L D) rfl (z_icmp_ge (tgt := 197) d_M_order_96 rfl (fun q1 => (z_vret d_M_order_197 rfl (h1 q1))) (fun q2 => (s_M_order_99.go [some (.ref 69), some (.int v1), some (.int v2), none] [.int v2] (aw_s I L D) rfl (z_if_eq (tgt := 124) d_M_order_100 rfl (fun q3 => (h2 q2 q3)) (fun q4 => (s_M_order_103.go [some (.ref 69), some (.int v1), some (.int v2), none] [.int (v2 - (1 : Int32)), .ref 102, .ref 69] (aw_s I L D) rfl (z_iald (n := 4096) rfl (aw_lt (o := 102) rfl) (h3 q2 q4) d_M_order_111 (s_M_order_112.go [some (.ref 69), some (.int v1), some (.int v2), none] [.int v2, .ref 102, .int (I 102 ((v2 - (1 : Int32)).toNatClampNeg)), .ref 69] (aw_s I L D) rfl (z_iald (n := 4096) rfl (aw_lt (o := 102) rfl) (h4 q2 q4) d_M_order_117 (z_callV (av := [.int (I 102 ((v2 - (1 : Int32)).toNatClampNeg)), .int (I 102 v2.toNatClampNeg)]) (st := []) ok_M_compare (Or.inl w_1963) w_1965 w_117 k_M d_M_order_118 rfl (aw_lt (o := 69) rfl) rfl rfl (Nat.le_of_ble_eq_true rfl) (Nat.le_refl _) (Nat.le_refl _) (h5 q2 q4))))))))))))
theorem d_M_order_34 : decode y_M_order.2.1 34 = .ok (.iload_n 3, 1) := by decide +kernel
theorem d_M_order_35 : decode y_M_order.2.1 35 = .ok (.iload_n 1, 1) := by decide +kernel
theorem s_M_order_34 : aw_VS y_M_order 34 [o_ild 3, o_ild 1] 36 := .cons (v_iload_n (i := 3) d_M_order_34 rfl) (.cons (v_iload_n (i := 1) d_M_order_35 rfl) .nil)
theorem d_M_order_36 : decode y_M_order.2.1 36 = .ok (.if_icmp .ge (19), 3) := by decide +kernel
theorem d_M_order_55 : decode y_M_order.2.1 55 = .ok (.iconst 0, 1) := by decide +kernel
theorem d_M_order_56 : decode y_M_order.2.1 56 = .ok (.istore_n 3, 1) := by decide +kernel
theorem s_M_order_55 : aw_VS y_M_order 55 [o_c (.int (0 : Int32)), o_ist 3] 57 := .cons (v_iconst (v := (0 : Int32)) d_M_order_55 (by decide +kernel)) (.cons (v_istore_n d_M_order_56) .nil)
theorem d_M_order_39 : decode y_M_order.2.1 39 = .ok (.aload_n 0, 1) := by decide +kernel
theorem d_M_order_40 : decode y_M_order.2.1 40 = .ok (.iload_n 3, 1) := by decide +kernel
theorem d_M_order_41 : decode y_M_order.2.1 41 = .ok (.iload_n 2, 1) := by decide +kernel
theorem d_M_order_42 : decode y_M_order.2.1 42 = .ok (.iload_n 1, 1) := by decide +kernel
theorem s_M_order_39 : aw_VS y_M_order 39 [o_ald 0, o_ild 3, o_ild 2, o_ild 1] 43 := .cons (v_aload_n (i := 0) d_M_order_39 rfl) (.cons (v_iload_n (i := 3) d_M_order_40 rfl) (.cons (v_iload_n (i := 2) d_M_order_41 rfl) (.cons (v_iload_n (i := 1) d_M_order_42 rfl) .nil)))
theorem d_M_order_43 : decode y_M_order.2.1 43 = .ok (.invokevirtual 438, 3) := by decide +kernel
theorem b_M_order_34 {X : aw_X} {d : Nat} {Q : Option Value → aw_H → Prop} {I : Nat → Nat → Int32} {L : Nat → Nat → Int64} {D : Nat → Nat} {v1 : Int32} {v2 : Int32} {v3 : Int32}
    (h1 : v1 ≤ v3 → aw_z X (d + 1) y_M_order Q 57 [some (.ref 69), some (.int v1), some (.int v2), some (.int (0 : Int32))] [] (aw_s I L D))
    (h2 : ¬ v1 ≤ v3 → aw_m X d y_M_merge [.ref 69, .int v3, .int v2, .int v1] (aw_s I L D) (fun r A => aw_z X (d + 1) y_M_order Q 46 [some (.ref 69), some (.int v1), some (.int v2), some (.int v3)] (r.toList ++ []) A)) :
    aw_z X (d + 1) y_M_order Q 34 [some (.ref 69), some (.int v1), some (.int v2), some (.int v3)] [] (aw_s I L D) :=
  (s_M_order_34.go [some (.ref 69), some (.int v1), some (.int v2), some (.int v3)] [.int v1, .int v3] (aw_s I L D) rfl (z_icmp_ge (tgt := 55) d_M_order_36 rfl (fun q1 => (s_M_order_55.go [some (.ref 69), some (.int v1), some (.int v2), some (.int (0 : Int32))] [] (aw_s I L D) rfl (h1 q1))) (fun q2 => (s_M_order_39.go [some (.ref 69), some (.int v1), some (.int v2), some (.int v3)] [.int v1, .int v2, .int v3, .ref 69] (aw_s I L D) rfl (z_callV (av := [.int v3, .int v2, .int v1]) (st := []) ok_M_merge (Or.inl w_1959) w_1961 w_116 k_M d_M_order_43 rfl (aw_lt (o := 69) rfl) rfl rfl (Nat.le_of_ble_eq_true rfl) (Nat.le_refl _) (Nat.le_refl _) (h2 q2))))))
theorem d_M_order_124 : decode y_M_order.2.1 124 = .ok (.aload_n 0, 1) := by decide +kernel
theorem d_M_order_125 : decode y_M_order.2.1 125 = .ok (.getfield 103, 3) := by decide +kernel
theorem d_M_order_128 : decode y_M_order.2.1 128 = .ok (.aload_n 0, 1) := by decide +kernel
theorem d_M_order_129 : decode y_M_order.2.1 129 = .ok (.getfield 431, 3) := by decide +kernel
theorem d_M_order_132 : decode y_M_order.2.1 132 = .ok (.aload_n 0, 1) := by decide +kernel
theorem d_M_order_133 : decode y_M_order.2.1 133 = .ok (.getfield 115, 3) := by decide +kernel
theorem d_M_order_136 : decode y_M_order.2.1 136 = .ok (.iload_n 2, 1) := by decide +kernel
theorem s_M_order_124 : aw_VS y_M_order 124 [o_ald 0, o_getA 9 58, o_ald 0, o_getI 9 64, o_ald 0, o_getA 9 62, o_ild 2] 137 := .cons (v_aload_n (i := 0) d_M_order_124 rfl) (.cons (v_getA (k := 58) k_M (by decide) rfl (Or.inl w_1519) d_M_order_125) (.cons (v_aload_n (i := 0) d_M_order_128 rfl) (.cons (v_getI (k := 64) k_M (by decide) (Or.inl rfl) (Or.inl w_1525) d_M_order_129) (.cons (v_aload_n (i := 0) d_M_order_132 rfl) (.cons (v_getA (k := 62) k_M (by decide) rfl (Or.inl w_1523) d_M_order_133) (.cons (v_iload_n (i := 2) d_M_order_136 rfl) .nil))))))
theorem d_M_order_137 : decode y_M_order.2.1 137 = .ok (.iaload, 1) := by decide +kernel
theorem d_M_order_138 : decode y_M_order.2.1 138 = .ok (.iastore, 1) := by decide +kernel
theorem d_M_order_139 : decode y_M_order.2.1 139 = .ok (.aload_n 0, 1) := by decide +kernel
theorem d_M_order_140 : decode y_M_order.2.1 140 = .ok (.getfield 106, 3) := by decide +kernel
theorem d_M_order_143 : decode y_M_order.2.1 143 = .ok (.aload_n 0, 1) := by decide +kernel
theorem d_M_order_144 : decode y_M_order.2.1 144 = .ok (.getfield 431, 3) := by decide +kernel
theorem d_M_order_147 : decode y_M_order.2.1 147 = .ok (.iconst 0, 1) := by decide +kernel
theorem s_M_order_139 : aw_VS y_M_order 139 [o_ald 0, o_getA 9 59, o_ald 0, o_getI 9 64, o_c (.int (0 : Int32))] 148 := .cons (v_aload_n (i := 0) d_M_order_139 rfl) (.cons (v_getA (k := 59) k_M (by decide) rfl (Or.inl w_1520) d_M_order_140) (.cons (v_aload_n (i := 0) d_M_order_143 rfl) (.cons (v_getI (k := 64) k_M (by decide) (Or.inl rfl) (Or.inl w_1525) d_M_order_144) (.cons (v_iconst (v := (0 : Int32)) d_M_order_147 (by decide +kernel)) .nil))))
theorem d_M_order_148 : decode y_M_order.2.1 148 = .ok (.iastore, 1) := by decide +kernel
theorem d_M_order_149 : decode y_M_order.2.1 149 = .ok (.aload_n 0, 1) := by decide +kernel
theorem d_M_order_150 : decode y_M_order.2.1 150 = .ok (.dup, 1) := by decide +kernel
theorem d_M_order_151 : decode y_M_order.2.1 151 = .ok (.getfield 431, 3) := by decide +kernel
theorem d_M_order_154 : decode y_M_order.2.1 154 = .ok (.iconst 1, 1) := by decide +kernel
theorem d_M_order_155 : decode y_M_order.2.1 155 = .ok (.iadd, 1) := by decide +kernel
theorem d_M_order_156 : decode y_M_order.2.1 156 = .ok (.putfield 431, 3) := by decide +kernel
theorem s_M_order_149 : aw_VS y_M_order 149 [o_ald 0, o_dup, o_getI 9 64, o_c (.int (1 : Int32)), o_i2 (fun x z => x + z), o_putI 9 64] 159 := .cons (v_aload_n (i := 0) d_M_order_149 rfl) (.cons (v_dup d_M_order_150) (.cons (v_getI (k := 64) k_M (by decide) (Or.inl rfl) (Or.inl w_1525) d_M_order_151) (.cons (v_iconst (v := (1 : Int32)) d_M_order_154 (by decide +kernel)) (.cons (v_iadd d_M_order_155) (.cons (v_putI (k := 64) k_M (by decide) rfl (Or.inl ⟨rfl, Or.inl w_1525⟩) d_M_order_156) .nil)))))
theorem b_M_order_124 {X : aw_X} {d : Nat} {Q : Option Value → aw_H → Prop} {I : Nat → Nat → Int32} {L : Nat → Nat → Int64} {D : Nat → Nat} {v1 : Int32} {v2 : Int32}
    (h1 : vp_in v2 4096)
    (h2 : vp_in (I 69 64) 4096)
    (h3 : vp_in (I 69 64) 4096)
    (h4 : aw_z X (d + 1) y_M_order Q 159 [some (.ref 69), some (.int v1), some (.int v2), none] [] (aw_s (aw_u (aw_u (aw_u I 98 ((I 69 64).toNatClampNeg) (I 102 v2.toNatClampNeg)) 99 ((I 69 64).toNatClampNeg) (0 : Int32)) 69 64 ((I 69 64) + (1 : Int32))) L D)) :
    aw_z X (d + 1) y_M_order Q 124 [some (.ref 69), some (.int v1), some (.int v2), none] [] (aw_s I L D) :=
  (s_M_order_124.go [some (.ref 69), some (.int v1), some (.int v2), none] [.int v2, .ref 102, .int (I 69 64), .ref 98] (aw_s I L D) rfl (z_iald (n := 4096) rfl (aw_lt (o := 102) rfl) (h1) d_M_order_137 (z_iast (n := 4096) rfl (aw_lt (o := 98) rfl) (h2) d_M_order_138 (s_M_order_139.go [some (.ref 69), some (.int v1), some (.int v2), none] [.int (0 : Int32), .int (I 69 64), .ref 99] (aw_s (aw_u I 98 ((I 69 64).toNatClampNeg) (I 102 v2.toNatClampNeg)) L D) rfl (z_iast (n := 4096) rfl (aw_lt (o := 99) rfl) (h3) d_M_order_148 (s_M_order_149.go [some (.ref 69), some (.int v1), some (.int v2), none] [] (aw_s (aw_u (aw_u (aw_u I 98 ((I 69 64).toNatClampNeg) (I 102 v2.toNatClampNeg)) 99 ((I 69 64).toNatClampNeg) (0 : Int32)) 69 64 ((I 69 64) + (1 : Int32))) L D) rfl (h4)))))))
theorem d_M_order_121 : decode y_M_order.2.1 121 = .ok (.ifCond .eq (38), 3) := by decide +kernel
theorem b_M_order_121 {X : aw_X} {d : Nat} {Q : Option Value → aw_H → Prop} {I : Nat → Nat → Int32} {L : Nat → Nat → Int64} {D : Nat → Nat} {v1 : Int32} {v2 : Int32} {s0 : Int32}
    (h1 : s0 = 0 → aw_z X (d + 1) y_M_order Q 159 [some (.ref 69), some (.int v1), some (.int v2), none] [] (aw_s I L D))
    (h2 : ¬ s0 = 0 → aw_z X (d + 1) y_M_order Q 124 [some (.ref 69), some (.int v1), some (.int v2), none] [] (aw_s I L D)) :
    aw_z X (d + 1) y_M_order Q 121 [some (.ref 69), some (.int v1), some (.int v2), none] [.int s0] (aw_s I L D) :=
  (z_if_eq (tgt := 159) d_M_order_121 rfl (fun q1 => (h1 q1)) (fun q2 => (h2 q2)))
theorem d_M_order_57 : decode y_M_order.2.1 57 = .ok (.iload_n 3, 1) := by decide +kernel
theorem d_M_order_58 : decode y_M_order.2.1 58 = .ok (.iload_n 1, 1) := by decide +kernel
theorem s_M_order_57 : aw_VS y_M_order 57 [o_ild 3, o_ild 1] 59 := .cons (v_iload_n (i := 3) d_M_order_57 rfl) (.cons (v_iload_n (i := 1) d_M_order_58 rfl) .nil)
theorem d_M_order_59 : decode y_M_order.2.1 59 = .ok (.if_icmp .ge (21), 3) := by decide +kernel
theorem d_M_order_80 : decode y_M_order.2.1 80 = .ok (.iload_n 2, 1) := by decide +kernel
theorem d_M_order_81 : decode y_M_order.2.1 81 = .ok (.iconst 2, 1) := by decide +kernel
theorem d_M_order_82 : decode y_M_order.2.1 82 = .ok (.imul, 1) := by decide +kernel
theorem d_M_order_83 : decode y_M_order.2.1 83 = .ok (.istore_n 2, 1) := by decide +kernel
theorem s_M_order_80 : aw_VS y_M_order 80 [o_ild 2, o_c (.int (2 : Int32)), o_i2 (fun x z => x * z), o_ist 2] 84 := .cons (v_iload_n (i := 2) d_M_order_80 rfl) (.cons (v_iconst (v := (2 : Int32)) d_M_order_81 (by decide +kernel)) (.cons (v_imul d_M_order_82) (.cons (v_istore_n d_M_order_83) .nil)))
theorem d_M_order_84 : decode y_M_order.2.1 84 = .ok (.goto (-57), 3) := by decide +kernel
theorem d_M_order_62 : decode y_M_order.2.1 62 = .ok (.aload_n 0, 1) := by decide +kernel
theorem d_M_order_63 : decode y_M_order.2.1 63 = .ok (.getfield 115, 3) := by decide +kernel
theorem d_M_order_66 : decode y_M_order.2.1 66 = .ok (.iload_n 3, 1) := by decide +kernel
theorem d_M_order_67 : decode y_M_order.2.1 67 = .ok (.aload_n 0, 1) := by decide +kernel
theorem d_M_order_68 : decode y_M_order.2.1 68 = .ok (.getfield 118, 3) := by decide +kernel
theorem d_M_order_71 : decode y_M_order.2.1 71 = .ok (.iload_n 3, 1) := by decide +kernel
theorem s_M_order_62 : aw_VS y_M_order 62 [o_ald 0, o_getA 9 62, o_ild 3, o_ald 0, o_getA 9 63, o_ild 3] 72 := .cons (v_aload_n (i := 0) d_M_order_62 rfl) (.cons (v_getA (k := 62) k_M (by decide) rfl (Or.inl w_1523) d_M_order_63) (.cons (v_iload_n (i := 3) d_M_order_66 rfl) (.cons (v_aload_n (i := 0) d_M_order_67 rfl) (.cons (v_getA (k := 63) k_M (by decide) rfl (Or.inl w_1524) d_M_order_68) (.cons (v_iload_n (i := 3) d_M_order_71 rfl) .nil)))))
theorem d_M_order_72 : decode y_M_order.2.1 72 = .ok (.iaload, 1) := by decide +kernel
theorem d_M_order_73 : decode y_M_order.2.1 73 = .ok (.iastore, 1) := by decide +kernel
theorem d_M_order_74 : decode y_M_order.2.1 74 = .ok (.iinc 3 (1), 3) := by decide +kernel
theorem s_M_order_74 : aw_VS y_M_order 74 [o_inc 3 (1 : Int32)] 77 := .cons (v_iinc (k0 := (1 : Int32)) d_M_order_74 (by decide +kernel)) .nil
theorem d_M_order_77 : decode y_M_order.2.1 77 = .ok (.goto (-20), 3) := by decide +kernel
theorem b_M_order_57 {X : aw_X} {d : Nat} {Q : Option Value → aw_H → Prop} {I : Nat → Nat → Int32} {L : Nat → Nat → Int64} {D : Nat → Nat} {v1 : Int32} {v2 : Int32} {v3 : Int32}
    (h1 : v1 ≤ v3 → aw_z X (d + 1) y_M_order Q 27 [some (.ref 69), some (.int v1), some (.int (v2 * (2 : Int32))), none] [] (aw_s I L D))
    (h2 : ¬ v1 ≤ v3 → vp_in v3 4096)
    (h3 : ¬ v1 ≤ v3 → vp_in v3 4096)
    (h4 : ¬ v1 ≤ v3 → aw_z X (d + 1) y_M_order Q 57 [some (.ref 69), some (.int v1), some (.int v2), some (.int (v3 + (1 : Int32)))] [] (aw_s (aw_u I 102 v3.toNatClampNeg (I 103 v3.toNatClampNeg)) L D)) :
    aw_z X (d + 1) y_M_order Q 57 [some (.ref 69), some (.int v1), some (.int v2), some (.int v3)] [] (aw_s I L D) :=
  (s_M_order_57.go [some (.ref 69), some (.int v1), some (.int v2), some (.int v3)] [.int v1, .int v3] (aw_s I L D) rfl (z_icmp_ge (tgt := 80) d_M_order_59 rfl (fun q1 => (s_M_order_80.go [some (.ref 69), some (.int v1), some (.int (v2 * (2 : Int32))), some (.int v3)] [] (aw_s I L D) rfl (z_goto (tgt := 27) d_M_order_84 rfl (aw_Z.weak (ls' := [some (.ref 69), some (.int v1), some (.int (v2 * (2 : Int32))), none]) (h1 q1) (Nat.le_of_ble_eq_true rfl) ⟨Or.inr rfl, ⟨Or.inr rfl, ⟨Or.inr rfl, ⟨Or.inl rfl, trivial⟩⟩⟩⟩)))) (fun q2 => (s_M_order_62.go [some (.ref 69), some (.int v1), some (.int v2), some (.int v3)] [.int v3, .ref 103, .int v3, .ref 102] (aw_s I L D) rfl (z_iald (n := 4096) rfl (aw_lt (o := 103) rfl) (h2 q2) d_M_order_72 (z_iast (n := 4096) rfl (aw_lt (o := 102) rfl) (h3 q2) d_M_order_73 (s_M_order_74.go [some (.ref 69), some (.int v1), some (.int v2), some (.int (v3 + (1 : Int32)))] [] (aw_s (aw_u I 102 v3.toNatClampNeg (I 103 v3.toNatClampNeg)) L D) rfl (z_goto (tgt := 57) d_M_order_77 rfl (h4 q2)))))))))
theorem d_M_order_46 : decode y_M_order.2.1 46 = .ok (.iload_n 3, 1) := by decide +kernel
theorem d_M_order_47 : decode y_M_order.2.1 47 = .ok (.iconst 2, 1) := by decide +kernel
theorem d_M_order_48 : decode y_M_order.2.1 48 = .ok (.iload_n 2, 1) := by decide +kernel
theorem d_M_order_49 : decode y_M_order.2.1 49 = .ok (.imul, 1) := by decide +kernel
theorem d_M_order_50 : decode y_M_order.2.1 50 = .ok (.iadd, 1) := by decide +kernel
theorem d_M_order_51 : decode y_M_order.2.1 51 = .ok (.istore_n 3, 1) := by decide +kernel
theorem s_M_order_46 : aw_VS y_M_order 46 [o_ild 3, o_c (.int (2 : Int32)), o_ild 2, o_i2 (fun x z => x * z), o_i2 (fun x z => x + z), o_ist 3] 52 := .cons (v_iload_n (i := 3) d_M_order_46 rfl) (.cons (v_iconst (v := (2 : Int32)) d_M_order_47 (by decide +kernel)) (.cons (v_iload_n (i := 2) d_M_order_48 rfl) (.cons (v_imul d_M_order_49) (.cons (v_iadd d_M_order_50) (.cons (v_istore_n d_M_order_51) .nil)))))
theorem d_M_order_52 : decode y_M_order.2.1 52 = .ok (.goto (-18), 3) := by decide +kernel
theorem b_M_order_46 {X : aw_X} {d : Nat} {Q : Option Value → aw_H → Prop} {I : Nat → Nat → Int32} {L : Nat → Nat → Int64} {D : Nat → Nat} {v1 : Int32} {v2 : Int32} {v3 : Int32}
    (h1 : aw_z X (d + 1) y_M_order Q 34 [some (.ref 69), some (.int v1), some (.int v2), some (.int (v3 + ((2 : Int32) * v2)))] [] (aw_s I L D)) :
    aw_z X (d + 1) y_M_order Q 46 [some (.ref 69), some (.int v1), some (.int v2), some (.int v3)] [] (aw_s I L D) :=
  (s_M_order_46.go [some (.ref 69), some (.int v1), some (.int v2), some (.int (v3 + ((2 : Int32) * v2)))] [] (aw_s I L D) rfl (z_goto (tgt := 34) d_M_order_52 rfl (h1)))
theorem d_M_order_159 : decode y_M_order.2.1 159 = .ok (.aload_n 0, 1) := by decide +kernel
theorem d_M_order_160 : decode y_M_order.2.1 160 = .ok (.getfield 100, 3) := by decide +kernel
theorem d_M_order_163 : decode y_M_order.2.1 163 = .ok (.aload_n 0, 1) := by decide +kernel
theorem d_M_order_164 : decode y_M_order.2.1 164 = .ok (.getfield 115, 3) := by decide +kernel
theorem d_M_order_167 : decode y_M_order.2.1 167 = .ok (.iload_n 2, 1) := by decide +kernel
theorem s_M_order_159 : aw_VS y_M_order 159 [o_ald 0, o_getA 9 57, o_ald 0, o_getA 9 62, o_ild 2] 168 := .cons (v_aload_n (i := 0) d_M_order_159 rfl) (.cons (v_getA (k := 57) k_M (by decide) rfl (Or.inl w_1518) d_M_order_160) (.cons (v_aload_n (i := 0) d_M_order_163 rfl) (.cons (v_getA (k := 62) k_M (by decide) rfl (Or.inl w_1523) d_M_order_164) (.cons (v_iload_n (i := 2) d_M_order_167 rfl) .nil))))
theorem d_M_order_168 : decode y_M_order.2.1 168 = .ok (.iaload, 1) := by decide +kernel
theorem d_M_order_169 : decode y_M_order.2.1 169 = .ok (.aload_n 0, 1) := by decide +kernel
theorem d_M_order_170 : decode y_M_order.2.1 170 = .ok (.getfield 431, 3) := by decide +kernel
theorem d_M_order_173 : decode y_M_order.2.1 173 = .ok (.iconst 1, 1) := by decide +kernel
theorem d_M_order_174 : decode y_M_order.2.1 174 = .ok (.isub, 1) := by decide +kernel
theorem s_M_order_169 : aw_VS y_M_order 169 [o_ald 0, o_getI 9 64, o_c (.int (1 : Int32)), o_i2 (fun x z => x - z)] 175 := .cons (v_aload_n (i := 0) d_M_order_169 rfl) (.cons (v_getI (k := 64) k_M (by decide) (Or.inl rfl) (Or.inl w_1525) d_M_order_170) (.cons (v_iconst (v := (1 : Int32)) d_M_order_173 (by decide +kernel)) (.cons (v_isub d_M_order_174) .nil)))
theorem d_M_order_175 : decode y_M_order.2.1 175 = .ok (.iastore, 1) := by decide +kernel
theorem d_M_order_176 : decode y_M_order.2.1 176 = .ok (.aload_n 0, 1) := by decide +kernel
theorem d_M_order_177 : decode y_M_order.2.1 177 = .ok (.getfield 106, 3) := by decide +kernel
theorem d_M_order_180 : decode y_M_order.2.1 180 = .ok (.aload_n 0, 1) := by decide +kernel
theorem d_M_order_181 : decode y_M_order.2.1 181 = .ok (.getfield 431, 3) := by decide +kernel
theorem d_M_order_184 : decode y_M_order.2.1 184 = .ok (.iconst 1, 1) := by decide +kernel
theorem d_M_order_185 : decode y_M_order.2.1 185 = .ok (.isub, 1) := by decide +kernel
theorem d_M_order_186 : decode y_M_order.2.1 186 = .ok (.dup2, 1) := by decide +kernel
theorem s_M_order_176 : aw_VS y_M_order 176 [o_ald 0, o_getA 9 59, o_ald 0, o_getI 9 64, o_c (.int (1 : Int32)), o_i2 (fun x z => x - z), o_dup2] 187 := .cons (v_aload_n (i := 0) d_M_order_176 rfl) (.cons (v_getA (k := 59) k_M (by decide) rfl (Or.inl w_1520) d_M_order_177) (.cons (v_aload_n (i := 0) d_M_order_180 rfl) (.cons (v_getI (k := 64) k_M (by decide) (Or.inl rfl) (Or.inl w_1525) d_M_order_181) (.cons (v_iconst (v := (1 : Int32)) d_M_order_184 (by decide +kernel)) (.cons (v_isub d_M_order_185) (.cons (v_dup2 d_M_order_186) .nil))))))
theorem d_M_order_187 : decode y_M_order.2.1 187 = .ok (.iaload, 1) := by decide +kernel
theorem d_M_order_188 : decode y_M_order.2.1 188 = .ok (.iconst 1, 1) := by decide +kernel
theorem d_M_order_189 : decode y_M_order.2.1 189 = .ok (.iadd, 1) := by decide +kernel
theorem s_M_order_188 : aw_VS y_M_order 188 [o_c (.int (1 : Int32)), o_i2 (fun x z => x + z)] 190 := .cons (v_iconst (v := (1 : Int32)) d_M_order_188 (by decide +kernel)) (.cons (v_iadd d_M_order_189) .nil)
theorem d_M_order_190 : decode y_M_order.2.1 190 = .ok (.iastore, 1) := by decide +kernel
theorem d_M_order_191 : decode y_M_order.2.1 191 = .ok (.iinc 2 (1), 3) := by decide +kernel
theorem s_M_order_191 : aw_VS y_M_order 191 [o_inc 2 (1 : Int32)] 194 := .cons (v_iinc (k0 := (1 : Int32)) d_M_order_191 (by decide +kernel)) .nil
theorem d_M_order_194 : decode y_M_order.2.1 194 = .ok (.goto (-100), 3) := by decide +kernel
theorem b_M_order_159 {X : aw_X} {d : Nat} {Q : Option Value → aw_H → Prop} {I : Nat → Nat → Int32} {L : Nat → Nat → Int64} {D : Nat → Nat} {v1 : Int32} {v2 : Int32}
    (h1 : vp_in v2 4096)
    (h2 : vp_in (I 102 v2.toNatClampNeg) 4096)
    (h3 : vp_in ((I 69 64) - (1 : Int32)) 4096)
    (h4 : vp_in ((I 69 64) - (1 : Int32)) 4096)
    (h5 : aw_z X (d + 1) y_M_order Q 94 [some (.ref 69), some (.int v1), some (.int (v2 + (1 : Int32))), none] [] (aw_s (aw_u (aw_u I 97 ((I 102 v2.toNatClampNeg).toNatClampNeg) ((I 69 64) - (1 : Int32))) 99 (((I 69 64) - (1 : Int32)).toNatClampNeg) ((I 99 (((I 69 64) - (1 : Int32)).toNatClampNeg)) + (1 : Int32))) L D)) :
    aw_z X (d + 1) y_M_order Q 159 [some (.ref 69), some (.int v1), some (.int v2), none] [] (aw_s I L D) :=
  (s_M_order_159.go [some (.ref 69), some (.int v1), some (.int v2), none] [.int v2, .ref 102, .ref 97] (aw_s I L D) rfl (z_iald (n := 4096) rfl (aw_lt (o := 102) rfl) (h1) d_M_order_168 (s_M_order_169.go [some (.ref 69), some (.int v1), some (.int v2), none] [.int ((I 69 64) - (1 : Int32)), .int (I 102 v2.toNatClampNeg), .ref 97] (aw_s I L D) rfl (z_iast (n := 4096) rfl (aw_lt (o := 97) rfl) (h2) d_M_order_175 (s_M_order_176.go [some (.ref 69), some (.int v1), some (.int v2), none] [.int ((I 69 64) - (1 : Int32)), .ref 99, .int ((I 69 64) - (1 : Int32)), .ref 99] (aw_s (aw_u I 97 ((I 102 v2.toNatClampNeg).toNatClampNeg) ((I 69 64) - (1 : Int32))) L D) rfl (z_iald (n := 4096) rfl (aw_lt (o := 99) rfl) (h3) d_M_order_187 (s_M_order_188.go [some (.ref 69), some (.int v1), some (.int v2), none] [.int ((I 99 (((I 69 64) - (1 : Int32)).toNatClampNeg)) + (1 : Int32)), .int ((I 69 64) - (1 : Int32)), .ref 99] (aw_s (aw_u I 97 ((I 102 v2.toNatClampNeg).toNatClampNeg) ((I 69 64) - (1 : Int32))) L D) rfl (z_iast (n := 4096) rfl (aw_lt (o := 99) rfl) (h4) d_M_order_190 (s_M_order_191.go [some (.ref 69), some (.int v1), some (.int (v2 + (1 : Int32))), none] [] (aw_s (aw_u (aw_u I 97 ((I 102 v2.toNatClampNeg).toNatClampNeg) ((I 69 64) - (1 : Int32))) 99 (((I 69 64) - (1 : Int32)).toNatClampNeg) ((I 99 (((I 69 64) - (1 : Int32)).toNatClampNeg)) + (1 : Int32))) L D) rfl (z_goto (tgt := 94) d_M_order_194 rfl (h5)))))))))))
/-! M_merge -/
theorem d_M_merge_0 : decode y_M_merge.2.1 0 = .ok (.iload_n 1, 1) := by decide +kernel
theorem d_M_merge_1 : decode y_M_merge.2.1 1 = .ok (.istore 4, 2) := by decide +kernel
theorem d_M_merge_3 : decode y_M_merge.2.1 3 = .ok (.iload_n 1, 1) := by decide +kernel
theorem d_M_merge_4 : decode y_M_merge.2.1 4 = .ok (.iload_n 2, 1) := by decide +kernel
theorem d_M_merge_5 : decode y_M_merge.2.1 5 = .ok (.iadd, 1) := by decide +kernel
theorem d_M_merge_6 : decode y_M_merge.2.1 6 = .ok (.istore 5, 2) := by decide +kernel
theorem d_M_merge_8 : decode y_M_merge.2.1 8 = .ok (.iload_n 1, 1) := by decide +kernel
theorem d_M_merge_9 : decode y_M_merge.2.1 9 = .ok (.istore 6, 2) := by decide +kernel
theorem s_M_merge_0 : aw_VS y_M_merge 0 [o_ild 1, o_ist 4, o_ild 1, o_ild 2, o_i2 (fun x z => x + z), o_ist 5, o_ild 1, o_ist 6] 11 := .cons (v_iload_n (i := 1) d_M_merge_0 rfl) (.cons (v_istore d_M_merge_1) (.cons (v_iload_n (i := 1) d_M_merge_3 rfl) (.cons (v_iload_n (i := 2) d_M_merge_4 rfl) (.cons (v_iadd d_M_merge_5) (.cons (v_istore d_M_merge_6) (.cons (v_iload_n (i := 1) d_M_merge_8 rfl) (.cons (v_istore d_M_merge_9) .nil)))))))
theorem b_M_merge_0 {X : aw_X} {d : Nat} {Q : Option Value → aw_H → Prop} {I : Nat → Nat → Int32} {L : Nat → Nat → Int64} {D : Nat → Nat} {v1 : Int32} {v2 : Int32} {v3 : Int32}
    (h1 : aw_z X (d + 1) y_M_merge Q 11 [some (.ref 69), some (.int v1), some (.int v2), some (.int v3), some (.int v1), some (.int (v1 + v2)), some (.int v1), none] [] (aw_s I L D)) :
    aw_z X (d + 1) y_M_merge Q 0 [some (.ref 69), some (.int v1), some (.int v2), some (.int v3), none, none, none, none] [] (aw_s I L D) :=
  (s_M_merge_0.go [some (.ref 69), some (.int v1), some (.int v2), some (.int v3), some (.int v1), some (.int (v1 + v2)), some (.int v1), none] [] (aw_s I L D) rfl (h1))
theorem d_M_merge_11 : decode y_M_merge.2.1 11 = .ok (.iload 6, 2) := by decide +kernel
theorem d_M_merge_13 : decode y_M_merge.2.1 13 = .ok (.iload_n 1, 1) := by decide +kernel
theorem d_M_merge_14 : decode y_M_merge.2.1 14 = .ok (.iconst 2, 1) := by decide +kernel
theorem d_M_merge_15 : decode y_M_merge.2.1 15 = .ok (.iload_n 2, 1) := by decide +kernel
theorem d_M_merge_16 : decode y_M_merge.2.1 16 = .ok (.imul, 1) := by decide +kernel
theorem d_M_merge_17 : decode y_M_merge.2.1 17 = .ok (.iadd, 1) := by decide +kernel
theorem s_M_merge_11 : aw_VS y_M_merge 11 [o_ild 6, o_ild 1, o_c (.int (2 : Int32)), o_ild 2, o_i2 (fun x z => x * z), o_i2 (fun x z => x + z)] 18 := .cons (v_iload (i := 6) d_M_merge_11) (.cons (v_iload_n (i := 1) d_M_merge_13 rfl) (.cons (v_iconst (v := (2 : Int32)) d_M_merge_14 (by decide +kernel)) (.cons (v_iload_n (i := 2) d_M_merge_15 rfl) (.cons (v_imul d_M_merge_16) (.cons (v_iadd d_M_merge_17) .nil)))))
theorem d_M_merge_18 : decode y_M_merge.2.1 18 = .ok (.if_icmp .ge (99), 3) := by decide +kernel
theorem d_M_merge_117 : decode y_M_merge.2.1 117 = .ok (.return_, 1) := by decide +kernel
theorem d_M_merge_21 : decode y_M_merge.2.1 21 = .ok (.iload 6, 2) := by decide +kernel
theorem d_M_merge_23 : decode y_M_merge.2.1 23 = .ok (.iload_n 3, 1) := by decide +kernel
theorem s_M_merge_21 : aw_VS y_M_merge 21 [o_ild 6, o_ild 3] 24 := .cons (v_iload (i := 6) d_M_merge_21) (.cons (v_iload_n (i := 3) d_M_merge_23 rfl) .nil)
theorem d_M_merge_24 : decode y_M_merge.2.1 24 = .ok (.if_icmp .ge (93), 3) := by decide +kernel
theorem d_M_merge_27 : decode y_M_merge.2.1 27 = .ok (.iload 4, 2) := by decide +kernel
theorem d_M_merge_29 : decode y_M_merge.2.1 29 = .ok (.iload_n 1, 1) := by decide +kernel
theorem d_M_merge_30 : decode y_M_merge.2.1 30 = .ok (.iload_n 2, 1) := by decide +kernel
theorem d_M_merge_31 : decode y_M_merge.2.1 31 = .ok (.iadd, 1) := by decide +kernel
theorem s_M_merge_27 : aw_VS y_M_merge 27 [o_ild 4, o_ild 1, o_ild 2, o_i2 (fun x z => x + z)] 32 := .cons (v_iload (i := 4) d_M_merge_27) (.cons (v_iload_n (i := 1) d_M_merge_29 rfl) (.cons (v_iload_n (i := 2) d_M_merge_30 rfl) (.cons (v_iadd d_M_merge_31) .nil)))
theorem d_M_merge_32 : decode y_M_merge.2.1 32 = .ok (.if_icmp .ge (38), 3) := by decide +kernel
theorem d_M_merge_35 : decode y_M_merge.2.1 35 = .ok (.iload 5, 2) := by decide +kernel
theorem d_M_merge_37 : decode y_M_merge.2.1 37 = .ok (.iload_n 1, 1) := by decide +kernel
theorem d_M_merge_38 : decode y_M_merge.2.1 38 = .ok (.iconst 2, 1) := by decide +kernel
theorem d_M_merge_39 : decode y_M_merge.2.1 39 = .ok (.iload_n 2, 1) := by decide +kernel
theorem d_M_merge_40 : decode y_M_merge.2.1 40 = .ok (.imul, 1) := by decide +kernel
theorem d_M_merge_41 : decode y_M_merge.2.1 41 = .ok (.iadd, 1) := by decide +kernel
theorem s_M_merge_35 : aw_VS y_M_merge 35 [o_ild 5, o_ild 1, o_c (.int (2 : Int32)), o_ild 2, o_i2 (fun x z => x * z), o_i2 (fun x z => x + z)] 42 := .cons (v_iload (i := 5) d_M_merge_35) (.cons (v_iload_n (i := 1) d_M_merge_37 rfl) (.cons (v_iconst (v := (2 : Int32)) d_M_merge_38 (by decide +kernel)) (.cons (v_iload_n (i := 2) d_M_merge_39 rfl) (.cons (v_imul d_M_merge_40) (.cons (v_iadd d_M_merge_41) .nil)))))
theorem d_M_merge_42 : decode y_M_merge.2.1 42 = .ok (.if_icmp .ge (24), 3) := by decide +kernel
theorem d_M_merge_45 : decode y_M_merge.2.1 45 = .ok (.aload_n 0, 1) := by decide +kernel
theorem d_M_merge_46 : decode y_M_merge.2.1 46 = .ok (.aload_n 0, 1) := by decide +kernel
theorem d_M_merge_47 : decode y_M_merge.2.1 47 = .ok (.getfield 115, 3) := by decide +kernel
theorem d_M_merge_50 : decode y_M_merge.2.1 50 = .ok (.iload 4, 2) := by decide +kernel
theorem s_M_merge_45 : aw_VS y_M_merge 45 [o_ald 0, o_ald 0, o_getA 9 62, o_ild 4] 52 := .cons (v_aload_n (i := 0) d_M_merge_45 rfl) (.cons (v_aload_n (i := 0) d_M_merge_46 rfl) (.cons (v_getA (k := 62) k_M (by decide) rfl (Or.inl w_1523) d_M_merge_47) (.cons (v_iload (i := 4) d_M_merge_50) .nil)))
theorem d_M_merge_52 : decode y_M_merge.2.1 52 = .ok (.iaload, 1) := by decide +kernel
theorem d_M_merge_53 : decode y_M_merge.2.1 53 = .ok (.aload_n 0, 1) := by decide +kernel
theorem d_M_merge_54 : decode y_M_merge.2.1 54 = .ok (.getfield 115, 3) := by decide +kernel
theorem d_M_merge_57 : decode y_M_merge.2.1 57 = .ok (.iload 5, 2) := by decide +kernel
theorem s_M_merge_53 : aw_VS y_M_merge 53 [o_ald 0, o_getA 9 62, o_ild 5] 59 := .cons (v_aload_n (i := 0) d_M_merge_53 rfl) (.cons (v_getA (k := 62) k_M (by decide) rfl (Or.inl w_1523) d_M_merge_54) (.cons (v_iload (i := 5) d_M_merge_57) .nil))
theorem d_M_merge_59 : decode y_M_merge.2.1 59 = .ok (.iaload, 1) := by decide +kernel
theorem d_M_merge_60 : decode y_M_merge.2.1 60 = .ok (.invokevirtual 442, 3) := by decide +kernel
theorem b_M_merge_11 {X : aw_X} {d : Nat} {Q : Option Value → aw_H → Prop} {I : Nat → Nat → Int32} {L : Nat → Nat → Int64} {D : Nat → Nat} {v1 : Int32} {v2 : Int32} {v3 : Int32} {v4 : Int32} {v5 : Int32} {v6 : Int32}
    (h1 : (v1 + ((2 : Int32) * v2)) ≤ v6 → Q none (aw_s I L D))
    (h2 : ¬ (v1 + ((2 : Int32) * v2)) ≤ v6 → v3 ≤ v6 → Q none (aw_s I L D))
    (h3 : ¬ (v1 + ((2 : Int32) * v2)) ≤ v6 → ¬ v3 ≤ v6 → (v1 + v2) ≤ v4 → aw_z X (d + 1) y_M_merge Q 70 [some (.ref 69), some (.int v1), some (.int v2), some (.int v3), some (.int v4), some (.int v5), some (.int v6), none] [] (aw_s I L D))
    (h4 : ¬ (v1 + ((2 : Int32) * v2)) ≤ v6 → ¬ v3 ≤ v6 → ¬ (v1 + v2) ≤ v4 → (v1 + ((2 : Int32) * v2)) ≤ v5 → aw_z X (d + 1) y_M_merge Q 66 [some (.ref 69), some (.int v1), some (.int v2), some (.int v3), some (.int v4), some (.int v5), some (.int v6), none] [] (aw_s I L D))
    (h5 : ¬ (v1 + ((2 : Int32) * v2)) ≤ v6 → ¬ v3 ≤ v6 → ¬ (v1 + v2) ≤ v4 → ¬ (v1 + ((2 : Int32) * v2)) ≤ v5 → vp_in v4 4096)
    (h6 : ¬ (v1 + ((2 : Int32) * v2)) ≤ v6 → ¬ v3 ≤ v6 → ¬ (v1 + v2) ≤ v4 → ¬ (v1 + ((2 : Int32) * v2)) ≤ v5 → vp_in v5 4096)
    (h7 : ¬ (v1 + ((2 : Int32) * v2)) ≤ v6 → ¬ v3 ≤ v6 → ¬ (v1 + v2) ≤ v4 → ¬ (v1 + ((2 : Int32) * v2)) ≤ v5 → aw_m X d y_M_compare [.ref 69, .int (I 102 v4.toNatClampNeg), .int (I 102 v5.toNatClampNeg)] (aw_s I L D) (fun r A => aw_z X (d + 1) y_M_merge Q 63 [some (.ref 69), some (.int v1), some (.int v2), some (.int v3), some (.int v4), some (.int v5), some (.int v6), none] (r.toList ++ []) A)) :
    aw_z X (d + 1) y_M_merge Q 11 [some (.ref 69), some (.int v1), some (.int v2), some (.int v3), some (.int v4), some (.int v5), some (.int v6), none] [] (aw_s I L D) :=
  (s_M_merge_11.go [some (.ref 69), some (.int v1), some (.int v2), some (.int v3), some (.int v4), some (.int v5), some (.int v6), none] [.int (v1 + ((2 : Int32) * v2)), .int v6] (aw_s I L D) rfl (z_icmp_ge (tgt := 117) d_M_merge_18 rfl (fun q1 => (z_vret d_M_merge_117 rfl (h1 q1))) (fun q2 => (s_M_merge_21.go [some (.ref 69), some (.int v1), some (.int v2), some (.int v3), some (.int v4), some (.int v5), some (.int v6), none] [.int v3, .int v6] (aw_s I L D) rfl (z_icmp_ge (tgt := 117) d_M_merge_24 rfl (fun q3 => (z_vret d_M_merge_117 rfl (h2 q2 q3))) (fun q4 => (s_M_merge_27.go [some (.ref 69), some (.int v1), some (.int v2), some (.int v3), some (.int v4), some (.int v5), some (.int v6), none] [.int (v1 + v2), .int v4] (aw_s I L D) rfl (z_icmp_ge (tgt := 70) d_M_merge_32 rfl (fun q5 => (h3 q2 q4 q5)) (fun q6 => (s_M_merge_35.go [some (.ref 69), some (.int v1), some (.int v2), some (.int v3), some (.int v4), some (.int v5), some (.int v6), none] [.int (v1 + ((2 : Int32) * v2)), .int v5] (aw_s I L D) rfl (z_icmp_ge (tgt := 66) d_M_merge_42 rfl (fun q7 => (h4 q2 q4 q6 q7)) (fun q8 => (s_M_merge_45.go [some (.ref 69), some (.int v1), some (.int v2), some (.int v3), some (.int v4), some (.int v5), some (.int v6), none] [.int v4, .ref 102, .ref 69] (aw_s I L D) rfl (z_iald (n := 4096) rfl (aw_lt (o := 102) rfl) (h5 q2 q4 q6 q8) d_M_merge_52 (s_M_merge_53.go [some (.ref 69), some (.int v1), some (.int v2), some (.int v3), some (.int v4), some (.int v5), some (.int v6), none] [.int v5, .ref 102, .int (I 102 v4.toNatClampNeg), .ref 69] (aw_s I L D) rfl (z_iald (n := 4096) rfl (aw_lt (o := 102) rfl) (h6 q2 q4 q6 q8) d_M_merge_59 (z_callV (av := [.int (I 102 v4.toNatClampNeg), .int (I 102 v5.toNatClampNeg)]) (st := []) ok_M_compare (Or.inl w_1963) w_1965 w_117 k_M d_M_merge_60 rfl (aw_lt (o := 69) rfl) rfl rfl (Nat.le_of_ble_eq_true rfl) (Nat.le_refl _) (Nat.le_refl _) (h7 q2 q4 q6 q8))))))))))))))))))
theorem d_M_merge_70 : decode y_M_merge.2.1 70 = .ok (.iconst 0, 1) := by decide +kernel
theorem s_M_merge_70 : aw_VS y_M_merge 70 [o_c (.int (0 : Int32))] 71 := .cons (v_iconst (v := (0 : Int32)) d_M_merge_70 (by decide +kernel)) .nil
theorem b_M_merge_70 {X : aw_X} {d : Nat} {Q : Option Value → aw_H → Prop} {I : Nat → Nat → Int32} {L : Nat → Nat → Int64} {D : Nat → Nat} {v1 : Int32} {v2 : Int32} {v3 : Int32} {v4 : Int32} {v5 : Int32} {v6 : Int32}
    (h1 : aw_z X (d + 1) y_M_merge Q 71 [some (.ref 69), some (.int v1), some (.int v2), some (.int v3), some (.int v4), some (.int v5), some (.int v6), none] [.int (0 : Int32)] (aw_s I L D)) :
    aw_z X (d + 1) y_M_merge Q 70 [some (.ref 69), some (.int v1), some (.int v2), some (.int v3), some (.int v4), some (.int v5), some (.int v6), none] [] (aw_s I L D) :=
  (s_M_merge_70.go [some (.ref 69), some (.int v1), some (.int v2), some (.int v3), some (.int v4), some (.int v5), some (.int v6), none] [.int (0 : Int32)] (aw_s I L D) rfl (h1))
theorem d_M_merge_66 : decode y_M_merge.2.1 66 = .ok (.iconst 1, 1) := by decide +kernel
theorem s_M_merge_66 : aw_VS y_M_merge 66 [o_c (.int (1 : Int32))] 67 := .cons (v_iconst (v := (1 : Int32)) d_M_merge_66 (by decide +kernel)) .nil
theorem d_M_merge_67 : decode y_M_merge.2.1 67 = .ok (.goto (4), 3) := by decide +kernel
theorem b_M_merge_66 {X : aw_X} {d : Nat} {Q : Option Value → aw_H → Prop} {I : Nat → Nat → Int32} {L : Nat → Nat → Int64} {D : Nat → Nat} {v1 : Int32} {v2 : Int32} {v3 : Int32} {v4 : Int32} {v5 : Int32} {v6 : Int32}
    (h1 : aw_z X (d + 1) y_M_merge Q 71 [some (.ref 69), some (.int v1), some (.int v2), some (.int v3), some (.int v4), some (.int v5), some (.int v6), none] [.int (1 : Int32)] (aw_s I L D)) :
    aw_z X (d + 1) y_M_merge Q 66 [some (.ref 69), some (.int v1), some (.int v2), some (.int v3), some (.int v4), some (.int v5), some (.int v6), none] [] (aw_s I L D) :=
  (s_M_merge_66.go [some (.ref 69), some (.int v1), some (.int v2), some (.int v3), some (.int v4), some (.int v5), some (.int v6), none] [.int (1 : Int32)] (aw_s I L D) rfl (z_goto (tgt := 71) d_M_merge_67 rfl (h1)))
theorem d_M_merge_63 : decode y_M_merge.2.1 63 = .ok (.ifCond .gt (7), 3) := by decide +kernel
theorem b_M_merge_63 {X : aw_X} {d : Nat} {Q : Option Value → aw_H → Prop} {I : Nat → Nat → Int32} {L : Nat → Nat → Int64} {D : Nat → Nat} {v1 : Int32} {v2 : Int32} {v3 : Int32} {v4 : Int32} {v5 : Int32} {v6 : Int32} {s0 : Int32}
    (h1 : 0 < s0 → aw_z X (d + 1) y_M_merge Q 70 [some (.ref 69), some (.int v1), some (.int v2), some (.int v3), some (.int v4), some (.int v5), some (.int v6), none] [] (aw_s I L D))
    (h2 : ¬ 0 < s0 → aw_z X (d + 1) y_M_merge Q 66 [some (.ref 69), some (.int v1), some (.int v2), some (.int v3), some (.int v4), some (.int v5), some (.int v6), none] [] (aw_s I L D)) :
    aw_z X (d + 1) y_M_merge Q 63 [some (.ref 69), some (.int v1), some (.int v2), some (.int v3), some (.int v4), some (.int v5), some (.int v6), none] [.int s0] (aw_s I L D) :=
  (z_if_gt (tgt := 70) d_M_merge_63 rfl (fun q1 => (h1 q1)) (fun q2 => (h2 q2)))
theorem d_M_merge_71 : decode y_M_merge.2.1 71 = .ok (.istore 7, 2) := by decide +kernel
theorem d_M_merge_73 : decode y_M_merge.2.1 73 = .ok (.aload_n 0, 1) := by decide +kernel
theorem d_M_merge_74 : decode y_M_merge.2.1 74 = .ok (.getfield 118, 3) := by decide +kernel
theorem d_M_merge_77 : decode y_M_merge.2.1 77 = .ok (.iload 6, 2) := by decide +kernel
theorem d_M_merge_79 : decode y_M_merge.2.1 79 = .ok (.aload_n 0, 1) := by decide +kernel
theorem d_M_merge_80 : decode y_M_merge.2.1 80 = .ok (.getfield 115, 3) := by decide +kernel
theorem d_M_merge_83 : decode y_M_merge.2.1 83 = .ok (.iload 7, 2) := by decide +kernel
theorem s_M_merge_71 : aw_VS y_M_merge 71 [o_ist 7, o_ald 0, o_getA 9 63, o_ild 6, o_ald 0, o_getA 9 62, o_ild 7] 85 := .cons (v_istore d_M_merge_71) (.cons (v_aload_n (i := 0) d_M_merge_73 rfl) (.cons (v_getA (k := 63) k_M (by decide) rfl (Or.inl w_1524) d_M_merge_74) (.cons (v_iload (i := 6) d_M_merge_77) (.cons (v_aload_n (i := 0) d_M_merge_79 rfl) (.cons (v_getA (k := 62) k_M (by decide) rfl (Or.inl w_1523) d_M_merge_80) (.cons (v_iload (i := 7) d_M_merge_83) .nil))))))
theorem d_M_merge_85 : decode y_M_merge.2.1 85 = .ok (.ifCond .eq (8), 3) := by decide +kernel
theorem d_M_merge_93 : decode y_M_merge.2.1 93 = .ok (.iload 5, 2) := by decide +kernel
theorem s_M_merge_93 : aw_VS y_M_merge 93 [o_ild 5] 95 := .cons (v_iload (i := 5) d_M_merge_93) .nil
theorem d_M_merge_88 : decode y_M_merge.2.1 88 = .ok (.iload 4, 2) := by decide +kernel
theorem s_M_merge_88 : aw_VS y_M_merge 88 [o_ild 4] 90 := .cons (v_iload (i := 4) d_M_merge_88) .nil
theorem d_M_merge_90 : decode y_M_merge.2.1 90 = .ok (.goto (5), 3) := by decide +kernel
theorem b_M_merge_71 {X : aw_X} {d : Nat} {Q : Option Value → aw_H → Prop} {I : Nat → Nat → Int32} {L : Nat → Nat → Int64} {D : Nat → Nat} {v1 : Int32} {v2 : Int32} {v3 : Int32} {v4 : Int32} {v5 : Int32} {v6 : Int32} {s0 : Int32}
    (h1 : s0 = 0 → aw_z X (d + 1) y_M_merge Q 95 [some (.ref 69), some (.int v1), some (.int v2), some (.int v3), some (.int v4), some (.int v5), some (.int v6), some (.int s0)] [.int v5, .ref 102, .int v6, .ref 103] (aw_s I L D))
    (h2 : ¬ s0 = 0 → aw_z X (d + 1) y_M_merge Q 95 [some (.ref 69), some (.int v1), some (.int v2), some (.int v3), some (.int v4), some (.int v5), some (.int v6), some (.int s0)] [.int v4, .ref 102, .int v6, .ref 103] (aw_s I L D)) :
    aw_z X (d + 1) y_M_merge Q 71 [some (.ref 69), some (.int v1), some (.int v2), some (.int v3), some (.int v4), some (.int v5), some (.int v6), none] [.int s0] (aw_s I L D) :=
  (s_M_merge_71.go [some (.ref 69), some (.int v1), some (.int v2), some (.int v3), some (.int v4), some (.int v5), some (.int v6), some (.int s0)] [.int s0, .ref 102, .int v6, .ref 103] (aw_s I L D) rfl (z_if_eq (tgt := 93) d_M_merge_85 rfl (fun q1 => (s_M_merge_93.go [some (.ref 69), some (.int v1), some (.int v2), some (.int v3), some (.int v4), some (.int v5), some (.int v6), some (.int s0)] [.int v5, .ref 102, .int v6, .ref 103] (aw_s I L D) rfl (h1 q1))) (fun q2 => (s_M_merge_88.go [some (.ref 69), some (.int v1), some (.int v2), some (.int v3), some (.int v4), some (.int v5), some (.int v6), some (.int s0)] [.int v4, .ref 102, .int v6, .ref 103] (aw_s I L D) rfl (z_goto (tgt := 95) d_M_merge_90 rfl (h2 q2))))))
theorem d_M_merge_95 : decode y_M_merge.2.1 95 = .ok (.iaload, 1) := by decide +kernel
theorem d_M_merge_96 : decode y_M_merge.2.1 96 = .ok (.iastore, 1) := by decide +kernel
theorem d_M_merge_97 : decode y_M_merge.2.1 97 = .ok (.iload 7, 2) := by decide +kernel
theorem s_M_merge_97 : aw_VS y_M_merge 97 [o_ild 7] 99 := .cons (v_iload (i := 7) d_M_merge_97) .nil
theorem d_M_merge_99 : decode y_M_merge.2.1 99 = .ok (.ifCond .eq (9), 3) := by decide +kernel
theorem d_M_merge_108 : decode y_M_merge.2.1 108 = .ok (.iinc 5 (1), 3) := by decide +kernel
theorem s_M_merge_108 : aw_VS y_M_merge 108 [o_inc 5 (1 : Int32)] 111 := .cons (v_iinc (k0 := (1 : Int32)) d_M_merge_108 (by decide +kernel)) .nil
theorem d_M_merge_111 : decode y_M_merge.2.1 111 = .ok (.iinc 6 (1), 3) := by decide +kernel
theorem s_M_merge_111 : aw_VS y_M_merge 111 [o_inc 6 (1 : Int32)] 114 := .cons (v_iinc (k0 := (1 : Int32)) d_M_merge_111 (by decide +kernel)) .nil
theorem d_M_merge_114 : decode y_M_merge.2.1 114 = .ok (.goto (-103), 3) := by decide +kernel
theorem d_M_merge_102 : decode y_M_merge.2.1 102 = .ok (.iinc 4 (1), 3) := by decide +kernel
theorem s_M_merge_102 : aw_VS y_M_merge 102 [o_inc 4 (1 : Int32)] 105 := .cons (v_iinc (k0 := (1 : Int32)) d_M_merge_102 (by decide +kernel)) .nil
theorem d_M_merge_105 : decode y_M_merge.2.1 105 = .ok (.goto (6), 3) := by decide +kernel
theorem b_M_merge_95 {X : aw_X} {d : Nat} {Q : Option Value → aw_H → Prop} {I : Nat → Nat → Int32} {L : Nat → Nat → Int64} {D : Nat → Nat} {v1 : Int32} {v2 : Int32} {v3 : Int32} {v4 : Int32} {v5 : Int32} {v6 : Int32} {v7 : Int32} {s3 : Int32} {s1 : Int32}
    (h1 : vp_in s3 4096)
    (h2 : vp_in s1 4096)
    (h3 : v7 = 0 → aw_z X (d + 1) y_M_merge Q 11 [some (.ref 69), some (.int v1), some (.int v2), some (.int v3), some (.int v4), some (.int (v5 + (1 : Int32))), some (.int (v6 + (1 : Int32))), none] [] (aw_s (aw_u I 103 s1.toNatClampNeg (I 102 s3.toNatClampNeg)) L D))
    (h4 : ¬ v7 = 0 → aw_z X (d + 1) y_M_merge Q 11 [some (.ref 69), some (.int v1), some (.int v2), some (.int v3), some (.int (v4 + (1 : Int32))), some (.int v5), some (.int (v6 + (1 : Int32))), none] [] (aw_s (aw_u I 103 s1.toNatClampNeg (I 102 s3.toNatClampNeg)) L D)) :
    aw_z X (d + 1) y_M_merge Q 95 [some (.ref 69), some (.int v1), some (.int v2), some (.int v3), some (.int v4), some (.int v5), some (.int v6), some (.int v7)] [.int s3, .ref 102, .int s1, .ref 103] (aw_s I L D) :=
  (z_iald (n := 4096) rfl (aw_lt (o := 102) rfl) (h1) d_M_merge_95 (z_iast (n := 4096) rfl (aw_lt (o := 103) rfl) (h2) d_M_merge_96 (s_M_merge_97.go [some (.ref 69), some (.int v1), some (.int v2), some (.int v3), some (.int v4), some (.int v5), some (.int v6), some (.int v7)] [.int v7] (aw_s (aw_u I 103 s1.toNatClampNeg (I 102 s3.toNatClampNeg)) L D) rfl (z_if_eq (tgt := 108) d_M_merge_99 rfl (fun q1 => (s_M_merge_108.go [some (.ref 69), some (.int v1), some (.int v2), some (.int v3), some (.int v4), some (.int (v5 + (1 : Int32))), some (.int v6), some (.int v7)] [] (aw_s (aw_u I 103 s1.toNatClampNeg (I 102 s3.toNatClampNeg)) L D) rfl (s_M_merge_111.go [some (.ref 69), some (.int v1), some (.int v2), some (.int v3), some (.int v4), some (.int (v5 + (1 : Int32))), some (.int (v6 + (1 : Int32))), some (.int v7)] [] (aw_s (aw_u I 103 s1.toNatClampNeg (I 102 s3.toNatClampNeg)) L D) rfl (z_goto (tgt := 11) d_M_merge_114 rfl (aw_Z.weak (ls' := [some (.ref 69), some (.int v1), some (.int v2), some (.int v3), some (.int v4), some (.int (v5 + (1 : Int32))), some (.int (v6 + (1 : Int32))), none]) (h3 q1) (Nat.le_of_ble_eq_true rfl) ⟨Or.inr rfl, ⟨Or.inr rfl, ⟨Or.inr rfl, ⟨Or.inr rfl, ⟨Or.inr rfl, ⟨Or.inr rfl, ⟨Or.inr rfl, ⟨Or.inl rfl, trivial⟩⟩⟩⟩⟩⟩⟩⟩))))) (fun q2 => (s_M_merge_102.go [some (.ref 69), some (.int v1), some (.int v2), some (.int v3), some (.int (v4 + (1 : Int32))), some (.int v5), some (.int v6), some (.int v7)] [] (aw_s (aw_u I 103 s1.toNatClampNeg (I 102 s3.toNatClampNeg)) L D) rfl (z_goto (tgt := 111) d_M_merge_105 rfl (s_M_merge_111.go [some (.ref 69), some (.int v1), some (.int v2), some (.int v3), some (.int (v4 + (1 : Int32))), some (.int v5), some (.int (v6 + (1 : Int32))), some (.int v7)] [] (aw_s (aw_u I 103 s1.toNatClampNeg (I 102 s3.toNatClampNeg)) L D) rfl (z_goto (tgt := 11) d_M_merge_114 rfl (aw_Z.weak (ls' := [some (.ref 69), some (.int v1), some (.int v2), some (.int v3), some (.int (v4 + (1 : Int32))), some (.int v5), some (.int (v6 + (1 : Int32))), none]) (h4 q2) (Nat.le_of_ble_eq_true rfl) ⟨Or.inr rfl, ⟨Or.inr rfl, ⟨Or.inr rfl, ⟨Or.inr rfl, ⟨Or.inr rfl, ⟨Or.inr rfl, ⟨Or.inr rfl, ⟨Or.inl rfl, trivial⟩⟩⟩⟩⟩⟩⟩⟩))))))))))
/-! M_compare -/
theorem d_M_compare_0 : decode y_M_compare.2.1 0 = .ok (.aload_n 0, 1) := by decide +kernel
theorem d_M_compare_1 : decode y_M_compare.2.1 1 = .ok (.getfield 88, 3) := by decide +kernel
theorem d_M_compare_4 : decode y_M_compare.2.1 4 = .ok (.iload_n 1, 1) := by decide +kernel
theorem s_M_compare_0 : aw_VS y_M_compare 0 [o_ald 0, o_getA 9 53, o_ild 1] 5 := .cons (v_aload_n (i := 0) d_M_compare_0 rfl) (.cons (v_getA (k := 53) k_M (by decide) rfl (Or.inl w_1514) d_M_compare_1) (.cons (v_iload_n (i := 1) d_M_compare_4 rfl) .nil))
theorem d_M_compare_5 : decode y_M_compare.2.1 5 = .ok (.iaload, 1) := by decide +kernel
theorem d_M_compare_6 : decode y_M_compare.2.1 6 = .ok (.aload_n 0, 1) := by decide +kernel
theorem d_M_compare_7 : decode y_M_compare.2.1 7 = .ok (.getfield 88, 3) := by decide +kernel
theorem d_M_compare_10 : decode y_M_compare.2.1 10 = .ok (.iload_n 2, 1) := by decide +kernel
theorem s_M_compare_6 : aw_VS y_M_compare 6 [o_ald 0, o_getA 9 53, o_ild 2] 11 := .cons (v_aload_n (i := 0) d_M_compare_6 rfl) (.cons (v_getA (k := 53) k_M (by decide) rfl (Or.inl w_1514) d_M_compare_7) (.cons (v_iload_n (i := 2) d_M_compare_10 rfl) .nil))
theorem d_M_compare_11 : decode y_M_compare.2.1 11 = .ok (.iaload, 1) := by decide +kernel
theorem d_M_compare_12 : decode y_M_compare.2.1 12 = .ok (.if_icmp .ge (12), 3) := by decide +kernel
theorem d_M_compare_24 : decode y_M_compare.2.1 24 = .ok (.aload_n 0, 1) := by decide +kernel
theorem d_M_compare_25 : decode y_M_compare.2.1 25 = .ok (.getfield 88, 3) := by decide +kernel
theorem d_M_compare_28 : decode y_M_compare.2.1 28 = .ok (.iload_n 2, 1) := by decide +kernel
theorem s_M_compare_24 : aw_VS y_M_compare 24 [o_ald 0, o_getA 9 53, o_ild 2] 29 := .cons (v_aload_n (i := 0) d_M_compare_24 rfl) (.cons (v_getA (k := 53) k_M (by decide) rfl (Or.inl w_1514) d_M_compare_25) (.cons (v_iload_n (i := 2) d_M_compare_28 rfl) .nil))
theorem d_M_compare_29 : decode y_M_compare.2.1 29 = .ok (.iaload, 1) := by decide +kernel
theorem d_M_compare_30 : decode y_M_compare.2.1 30 = .ok (.istore_n 3, 1) := by decide +kernel
theorem d_M_compare_31 : decode y_M_compare.2.1 31 = .ok (.iconst 0, 1) := by decide +kernel
theorem d_M_compare_32 : decode y_M_compare.2.1 32 = .ok (.istore 4, 2) := by decide +kernel
theorem s_M_compare_30 : aw_VS y_M_compare 30 [o_ist 3, o_c (.int (0 : Int32)), o_ist 4] 34 := .cons (v_istore_n d_M_compare_30) (.cons (v_iconst (v := (0 : Int32)) d_M_compare_31 (by decide +kernel)) (.cons (v_istore d_M_compare_32) .nil))
theorem d_M_compare_15 : decode y_M_compare.2.1 15 = .ok (.aload_n 0, 1) := by decide +kernel
theorem d_M_compare_16 : decode y_M_compare.2.1 16 = .ok (.getfield 88, 3) := by decide +kernel
theorem d_M_compare_19 : decode y_M_compare.2.1 19 = .ok (.iload_n 1, 1) := by decide +kernel
theorem s_M_compare_15 : aw_VS y_M_compare 15 [o_ald 0, o_getA 9 53, o_ild 1] 20 := .cons (v_aload_n (i := 0) d_M_compare_15 rfl) (.cons (v_getA (k := 53) k_M (by decide) rfl (Or.inl w_1514) d_M_compare_16) (.cons (v_iload_n (i := 1) d_M_compare_19 rfl) .nil))
theorem d_M_compare_20 : decode y_M_compare.2.1 20 = .ok (.iaload, 1) := by decide +kernel
theorem d_M_compare_21 : decode y_M_compare.2.1 21 = .ok (.goto (9), 3) := by decide +kernel
theorem b_M_compare_0 {X : aw_X} {d : Nat} {Q : Option Value → aw_H → Prop} {I : Nat → Nat → Int32} {L : Nat → Nat → Int64} {D : Nat → Nat} {v1 : Int32} {v2 : Int32}
    (h1 : vp_in v1 4096)
    (h2 : vp_in v2 4096)
    (h3 : (I 93 v2.toNatClampNeg) ≤ (I 93 v1.toNatClampNeg) → vp_in v2 4096)
    (h4 : (I 93 v2.toNatClampNeg) ≤ (I 93 v1.toNatClampNeg) → aw_z X d y_M_compare Q 34 [some (.ref 69), some (.int v1), some (.int v2), some (.int (I 93 v2.toNatClampNeg)), some (.int (0 : Int32)), none, none] [] (aw_s I L D))
    (h5 : ¬ (I 93 v2.toNatClampNeg) ≤ (I 93 v1.toNatClampNeg) → vp_in v1 4096)
    (h6 : ¬ (I 93 v2.toNatClampNeg) ≤ (I 93 v1.toNatClampNeg) → aw_z X d y_M_compare Q 34 [some (.ref 69), some (.int v1), some (.int v2), some (.int (I 93 v1.toNatClampNeg)), some (.int (0 : Int32)), none, none] [] (aw_s I L D)) :
    aw_z X d y_M_compare Q 0 [some (.ref 69), some (.int v1), some (.int v2), none, none, none, none] [] (aw_s I L D) :=
  (s_M_compare_0.go [some (.ref 69), some (.int v1), some (.int v2), none, none, none, none] [.int v1, .ref 93] (aw_s I L D) rfl (z_iald (n := 4096) rfl (aw_lt (o := 93) rfl) (h1) d_M_compare_5 (s_M_compare_6.go [some (.ref 69), some (.int v1), some (.int v2), none, none, none, none] [.int v2, .ref 93, .int (I 93 v1.toNatClampNeg)] (aw_s I L D) rfl (z_iald (n := 4096) rfl (aw_lt (o := 93) rfl) (h2) d_M_compare_11 (z_icmp_ge (tgt := 24) d_M_compare_12 rfl (fun q1 => (s_M_compare_24.go [some (.ref 69), some (.int v1), some (.int v2), none, none, none, none] [.int v2, .ref 93] (aw_s I L D) rfl (z_iald (n := 4096) rfl (aw_lt (o := 93) rfl) (h3 q1) d_M_compare_29 (s_M_compare_30.go [some (.ref 69), some (.int v1), some (.int v2), some (.int (I 93 v2.toNatClampNeg)), some (.int (0 : Int32)), none, none] [] (aw_s I L D) rfl (h4 q1))))) (fun q2 => (s_M_compare_15.go [some (.ref 69), some (.int v1), some (.int v2), none, none, none, none] [.int v1, .ref 93] (aw_s I L D) rfl (z_iald (n := 4096) rfl (aw_lt (o := 93) rfl) (h5 q2) d_M_compare_20 (z_goto (tgt := 30) d_M_compare_21 rfl (s_M_compare_30.go [some (.ref 69), some (.int v1), some (.int v2), some (.int (I 93 v1.toNatClampNeg)), some (.int (0 : Int32)), none, none] [] (aw_s I L D) rfl (h6 q2)))))))))))
theorem d_M_compare_34 : decode y_M_compare.2.1 34 = .ok (.iload 4, 2) := by decide +kernel
theorem d_M_compare_36 : decode y_M_compare.2.1 36 = .ok (.iload_n 3, 1) := by decide +kernel
theorem s_M_compare_34 : aw_VS y_M_compare 34 [o_ild 4, o_ild 3] 37 := .cons (v_iload (i := 4) d_M_compare_34) (.cons (v_iload_n (i := 3) d_M_compare_36 rfl) .nil)
theorem d_M_compare_37 : decode y_M_compare.2.1 37 = .ok (.if_icmp .ge (73), 3) := by decide +kernel
theorem d_M_compare_110 : decode y_M_compare.2.1 110 = .ok (.aload_n 0, 1) := by decide +kernel
theorem d_M_compare_111 : decode y_M_compare.2.1 111 = .ok (.getfield 88, 3) := by decide +kernel
theorem d_M_compare_114 : decode y_M_compare.2.1 114 = .ok (.iload_n 1, 1) := by decide +kernel
theorem s_M_compare_110 : aw_VS y_M_compare 110 [o_ald 0, o_getA 9 53, o_ild 1] 115 := .cons (v_aload_n (i := 0) d_M_compare_110 rfl) (.cons (v_getA (k := 53) k_M (by decide) rfl (Or.inl w_1514) d_M_compare_111) (.cons (v_iload_n (i := 1) d_M_compare_114 rfl) .nil))
theorem d_M_compare_115 : decode y_M_compare.2.1 115 = .ok (.iaload, 1) := by decide +kernel
theorem d_M_compare_116 : decode y_M_compare.2.1 116 = .ok (.aload_n 0, 1) := by decide +kernel
theorem d_M_compare_117 : decode y_M_compare.2.1 117 = .ok (.getfield 88, 3) := by decide +kernel
theorem d_M_compare_120 : decode y_M_compare.2.1 120 = .ok (.iload_n 2, 1) := by decide +kernel
theorem s_M_compare_116 : aw_VS y_M_compare 116 [o_ald 0, o_getA 9 53, o_ild 2] 121 := .cons (v_aload_n (i := 0) d_M_compare_116 rfl) (.cons (v_getA (k := 53) k_M (by decide) rfl (Or.inl w_1514) d_M_compare_117) (.cons (v_iload_n (i := 2) d_M_compare_120 rfl) .nil))
theorem d_M_compare_121 : decode y_M_compare.2.1 121 = .ok (.iaload, 1) := by decide +kernel
theorem d_M_compare_122 : decode y_M_compare.2.1 122 = .ok (.if_icmp .eq (17), 3) := by decide +kernel
theorem d_M_compare_139 : decode y_M_compare.2.1 139 = .ok (.aload_n 0, 1) := by decide +kernel
theorem d_M_compare_140 : decode y_M_compare.2.1 140 = .ok (.getfield 91, 3) := by decide +kernel
theorem d_M_compare_143 : decode y_M_compare.2.1 143 = .ok (.iload_n 1, 1) := by decide +kernel
theorem s_M_compare_139 : aw_VS y_M_compare 139 [o_ald 0, o_getA 9 54, o_ild 1] 144 := .cons (v_aload_n (i := 0) d_M_compare_139 rfl) (.cons (v_getA (k := 54) k_M (by decide) rfl (Or.inl w_1515) d_M_compare_140) (.cons (v_iload_n (i := 1) d_M_compare_143 rfl) .nil))
theorem d_M_compare_144 : decode y_M_compare.2.1 144 = .ok (.iaload, 1) := by decide +kernel
theorem d_M_compare_145 : decode y_M_compare.2.1 145 = .ok (.aload_n 0, 1) := by decide +kernel
theorem d_M_compare_146 : decode y_M_compare.2.1 146 = .ok (.getfield 91, 3) := by decide +kernel
theorem d_M_compare_149 : decode y_M_compare.2.1 149 = .ok (.iload_n 2, 1) := by decide +kernel
theorem s_M_compare_145 : aw_VS y_M_compare 145 [o_ald 0, o_getA 9 54, o_ild 2] 150 := .cons (v_aload_n (i := 0) d_M_compare_145 rfl) (.cons (v_getA (k := 54) k_M (by decide) rfl (Or.inl w_1515) d_M_compare_146) (.cons (v_iload_n (i := 2) d_M_compare_149 rfl) .nil))
theorem d_M_compare_150 : decode y_M_compare.2.1 150 = .ok (.iaload, 1) := by decide +kernel
theorem d_M_compare_151 : decode y_M_compare.2.1 151 = .ok (.if_icmp .eq (17), 3) := by decide +kernel
theorem d_M_compare_168 : decode y_M_compare.2.1 168 = .ok (.aload_n 0, 1) := by decide +kernel
theorem d_M_compare_169 : decode y_M_compare.2.1 169 = .ok (.getfield 97, 3) := by decide +kernel
theorem d_M_compare_172 : decode y_M_compare.2.1 172 = .ok (.iload_n 1, 1) := by decide +kernel
theorem s_M_compare_168 : aw_VS y_M_compare 168 [o_ald 0, o_getA 9 56, o_ild 1] 173 := .cons (v_aload_n (i := 0) d_M_compare_168 rfl) (.cons (v_getA (k := 56) k_M (by decide) rfl (Or.inl w_1517) d_M_compare_169) (.cons (v_iload_n (i := 1) d_M_compare_172 rfl) .nil))
theorem d_M_compare_173 : decode y_M_compare.2.1 173 = .ok (.iaload, 1) := by decide +kernel
theorem d_M_compare_174 : decode y_M_compare.2.1 174 = .ok (.iconst (-1), 1) := by decide +kernel
theorem s_M_compare_174 : aw_VS y_M_compare 174 [o_c (.int (-1 : Int32))] 175 := .cons (v_iconst (v := (-1 : Int32)) d_M_compare_174 (by decide +kernel)) .nil
theorem d_M_compare_175 : decode y_M_compare.2.1 175 = .ok (.if_icmp .ne (7), 3) := by decide +kernel
theorem d_M_compare_182 : decode y_M_compare.2.1 182 = .ok (.iconst 0, 1) := by decide +kernel
theorem s_M_compare_182 : aw_VS y_M_compare 182 [o_c (.int (0 : Int32))] 183 := .cons (v_iconst (v := (0 : Int32)) d_M_compare_182 (by decide +kernel)) .nil
theorem d_M_compare_178 : decode y_M_compare.2.1 178 = .ok (.iconst 1, 1) := by decide +kernel
theorem s_M_compare_178 : aw_VS y_M_compare 178 [o_c (.int (1 : Int32))] 179 := .cons (v_iconst (v := (1 : Int32)) d_M_compare_178 (by decide +kernel)) .nil
theorem d_M_compare_179 : decode y_M_compare.2.1 179 = .ok (.goto (4), 3) := by decide +kernel
theorem d_M_compare_154 : decode y_M_compare.2.1 154 = .ok (.aload_n 0, 1) := by decide +kernel
theorem d_M_compare_155 : decode y_M_compare.2.1 155 = .ok (.getfield 91, 3) := by decide +kernel
theorem d_M_compare_158 : decode y_M_compare.2.1 158 = .ok (.iload_n 1, 1) := by decide +kernel
theorem s_M_compare_154 : aw_VS y_M_compare 154 [o_ald 0, o_getA 9 54, o_ild 1] 159 := .cons (v_aload_n (i := 0) d_M_compare_154 rfl) (.cons (v_getA (k := 54) k_M (by decide) rfl (Or.inl w_1515) d_M_compare_155) (.cons (v_iload_n (i := 1) d_M_compare_158 rfl) .nil))
theorem d_M_compare_159 : decode y_M_compare.2.1 159 = .ok (.iaload, 1) := by decide +kernel
theorem d_M_compare_160 : decode y_M_compare.2.1 160 = .ok (.aload_n 0, 1) := by decide +kernel
theorem d_M_compare_161 : decode y_M_compare.2.1 161 = .ok (.getfield 91, 3) := by decide +kernel
theorem d_M_compare_164 : decode y_M_compare.2.1 164 = .ok (.iload_n 2, 1) := by decide +kernel
theorem s_M_compare_160 : aw_VS y_M_compare 160 [o_ald 0, o_getA 9 54, o_ild 2] 165 := .cons (v_aload_n (i := 0) d_M_compare_160 rfl) (.cons (v_getA (k := 54) k_M (by decide) rfl (Or.inl w_1515) d_M_compare_161) (.cons (v_iload_n (i := 2) d_M_compare_164 rfl) .nil))
theorem d_M_compare_165 : decode y_M_compare.2.1 165 = .ok (.iaload, 1) := by decide +kernel
theorem d_M_compare_166 : decode y_M_compare.2.1 166 = .ok (.isub, 1) := by decide +kernel
theorem s_M_compare_166 : aw_VS y_M_compare 166 [o_i2 (fun x z => x - z)] 167 := .cons (v_isub d_M_compare_166) .nil
theorem d_M_compare_167 : decode y_M_compare.2.1 167 = .ok (.ireturn, 1) := by decide +kernel
theorem d_M_compare_125 : decode y_M_compare.2.1 125 = .ok (.aload_n 0, 1) := by decide +kernel
theorem d_M_compare_126 : decode y_M_compare.2.1 126 = .ok (.getfield 88, 3) := by decide +kernel
theorem d_M_compare_129 : decode y_M_compare.2.1 129 = .ok (.iload_n 1, 1) := by decide +kernel
theorem s_M_compare_125 : aw_VS y_M_compare 125 [o_ald 0, o_getA 9 53, o_ild 1] 130 := .cons (v_aload_n (i := 0) d_M_compare_125 rfl) (.cons (v_getA (k := 53) k_M (by decide) rfl (Or.inl w_1514) d_M_compare_126) (.cons (v_iload_n (i := 1) d_M_compare_129 rfl) .nil))
theorem d_M_compare_130 : decode y_M_compare.2.1 130 = .ok (.iaload, 1) := by decide +kernel
theorem d_M_compare_131 : decode y_M_compare.2.1 131 = .ok (.aload_n 0, 1) := by decide +kernel
theorem d_M_compare_132 : decode y_M_compare.2.1 132 = .ok (.getfield 88, 3) := by decide +kernel
theorem d_M_compare_135 : decode y_M_compare.2.1 135 = .ok (.iload_n 2, 1) := by decide +kernel
theorem s_M_compare_131 : aw_VS y_M_compare 131 [o_ald 0, o_getA 9 53, o_ild 2] 136 := .cons (v_aload_n (i := 0) d_M_compare_131 rfl) (.cons (v_getA (k := 53) k_M (by decide) rfl (Or.inl w_1514) d_M_compare_132) (.cons (v_iload_n (i := 2) d_M_compare_135 rfl) .nil))
theorem d_M_compare_136 : decode y_M_compare.2.1 136 = .ok (.iaload, 1) := by decide +kernel
theorem d_M_compare_137 : decode y_M_compare.2.1 137 = .ok (.isub, 1) := by decide +kernel
theorem s_M_compare_137 : aw_VS y_M_compare 137 [o_i2 (fun x z => x - z)] 138 := .cons (v_isub d_M_compare_137) .nil
theorem d_M_compare_138 : decode y_M_compare.2.1 138 = .ok (.ireturn, 1) := by decide +kernel
theorem d_M_compare_40 : decode y_M_compare.2.1 40 = .ok (.aload_n 0, 1) := by decide +kernel
theorem d_M_compare_41 : decode y_M_compare.2.1 41 = .ok (.getfield 82, 3) := by decide +kernel
theorem d_M_compare_44 : decode y_M_compare.2.1 44 = .ok (.iload_n 1, 1) := by decide +kernel
theorem s_M_compare_40 : aw_VS y_M_compare 40 [o_ald 0, o_getA 9 51, o_ild 1] 45 := .cons (v_aload_n (i := 0) d_M_compare_40 rfl) (.cons (v_getA (k := 51) k_M (by decide) rfl (Or.inl w_1512) d_M_compare_41) (.cons (v_iload_n (i := 1) d_M_compare_44 rfl) .nil))
theorem d_M_compare_45 : decode y_M_compare.2.1 45 = .ok (.laload, 1) := by decide +kernel
theorem d_M_compare_46 : decode y_M_compare.2.1 46 = .ok (.iload 4, 2) := by decide +kernel
theorem d_M_compare_48 : decode y_M_compare.2.1 48 = .ok (.lshr, 1) := by decide +kernel
theorem d_M_compare_49 : decode y_M_compare.2.1 49 = .ok (.lconst 1, 1) := by decide +kernel
theorem d_M_compare_50 : decode y_M_compare.2.1 50 = .ok (.land, 1) := by decide +kernel
theorem d_M_compare_51 : decode y_M_compare.2.1 51 = .ok (.lconst 1, 1) := by decide +kernel
theorem d_M_compare_52 : decode y_M_compare.2.1 52 = .ok (.lcmp, 1) := by decide +kernel
theorem s_M_compare_46 : aw_VS y_M_compare 46 [o_ild 4, o_ls (fun x z => x >>> (z.toInt64 &&& 63)), o_c (.long (1 : Int64)), o_l2 (fun x z => x &&& z), o_c (.long (1 : Int64)), o_lc] 53 := .cons (v_iload (i := 4) d_M_compare_46) (.cons (v_lshr d_M_compare_48) (.cons (v_lconst (v := (1 : Int64)) d_M_compare_49 (by decide +kernel)) (.cons (v_land d_M_compare_50) (.cons (v_lconst (v := (1 : Int64)) d_M_compare_51 (by decide +kernel)) (.cons (v_lcmp d_M_compare_52) .nil)))))
theorem d_M_compare_53 : decode y_M_compare.2.1 53 = .ok (.ifCond .ne (7), 3) := by decide +kernel
theorem d_M_compare_60 : decode y_M_compare.2.1 60 = .ok (.iconst 0, 1) := by decide +kernel
theorem s_M_compare_60 : aw_VS y_M_compare 60 [o_c (.int (0 : Int32))] 61 := .cons (v_iconst (v := (0 : Int32)) d_M_compare_60 (by decide +kernel)) .nil
theorem d_M_compare_56 : decode y_M_compare.2.1 56 = .ok (.iconst 1, 1) := by decide +kernel
theorem s_M_compare_56 : aw_VS y_M_compare 56 [o_c (.int (1 : Int32))] 57 := .cons (v_iconst (v := (1 : Int32)) d_M_compare_56 (by decide +kernel)) .nil
theorem d_M_compare_57 : decode y_M_compare.2.1 57 = .ok (.goto (4), 3) := by decide +kernel
theorem b_M_compare_34 {X : aw_X} {d : Nat} {Q : Option Value → aw_H → Prop} {I : Nat → Nat → Int32} {L : Nat → Nat → Int64} {D : Nat → Nat} {v1 : Int32} {v2 : Int32} {v3 : Int32} {v4 : Int32}
    (h1 : v3 ≤ v4 → vp_in v1 4096)
    (h2 : v3 ≤ v4 → vp_in v2 4096)
    (h3 : v3 ≤ v4 → (I 93 v1.toNatClampNeg) = (I 93 v2.toNatClampNeg) → vp_in v1 4096)
    (h4 : v3 ≤ v4 → (I 93 v1.toNatClampNeg) = (I 93 v2.toNatClampNeg) → vp_in v2 4096)
    (h5 : v3 ≤ v4 → (I 93 v1.toNatClampNeg) = (I 93 v2.toNatClampNeg) → (I 94 v1.toNatClampNeg) = (I 94 v2.toNatClampNeg) → vp_in v1 4096)
    (h6 : v3 ≤ v4 → (I 93 v1.toNatClampNeg) = (I 93 v2.toNatClampNeg) → (I 94 v1.toNatClampNeg) = (I 94 v2.toNatClampNeg) → ¬ (I 96 v1.toNatClampNeg) = (-1 : Int32) → aw_z X d y_M_compare Q 183 [some (.ref 69), some (.int v1), some (.int v2), none, none, none, none] [.int (0 : Int32)] (aw_s I L D))
    (h7 : v3 ≤ v4 → (I 93 v1.toNatClampNeg) = (I 93 v2.toNatClampNeg) → (I 94 v1.toNatClampNeg) = (I 94 v2.toNatClampNeg) → (I 96 v1.toNatClampNeg) = (-1 : Int32) → aw_z X d y_M_compare Q 183 [some (.ref 69), some (.int v1), some (.int v2), none, none, none, none] [.int (1 : Int32)] (aw_s I L D))
    (h8 : v3 ≤ v4 → (I 93 v1.toNatClampNeg) = (I 93 v2.toNatClampNeg) → ¬ (I 94 v1.toNatClampNeg) = (I 94 v2.toNatClampNeg) → vp_in v1 4096)
    (h9 : v3 ≤ v4 → (I 93 v1.toNatClampNeg) = (I 93 v2.toNatClampNeg) → ¬ (I 94 v1.toNatClampNeg) = (I 94 v2.toNatClampNeg) → vp_in v2 4096)
    (h10 : v3 ≤ v4 → (I 93 v1.toNatClampNeg) = (I 93 v2.toNatClampNeg) → ¬ (I 94 v1.toNatClampNeg) = (I 94 v2.toNatClampNeg) → Q (some (.int ((I 94 v1.toNatClampNeg) - (I 94 v2.toNatClampNeg)))) (aw_s I L D))
    (h11 : v3 ≤ v4 → ¬ (I 93 v1.toNatClampNeg) = (I 93 v2.toNatClampNeg) → vp_in v1 4096)
    (h12 : v3 ≤ v4 → ¬ (I 93 v1.toNatClampNeg) = (I 93 v2.toNatClampNeg) → vp_in v2 4096)
    (h13 : v3 ≤ v4 → ¬ (I 93 v1.toNatClampNeg) = (I 93 v2.toNatClampNeg) → Q (some (.int ((I 93 v1.toNatClampNeg) - (I 93 v2.toNatClampNeg)))) (aw_s I L D))
    (h14 : ¬ v3 ≤ v4 → vp_in v1 4096)
    (h15 : ¬ v3 ≤ v4 → ¬ (lg_cmp (((L 91 v1.toNatClampNeg) >>> (v4.toInt64 &&& 63)) &&& (1 : Int64)) (1 : Int64)) = 0 → aw_z X d y_M_compare Q 61 [some (.ref 69), some (.int v1), some (.int v2), some (.int v3), some (.int v4), none, none] [.int (0 : Int32)] (aw_s I L D))
    (h16 : ¬ v3 ≤ v4 → (lg_cmp (((L 91 v1.toNatClampNeg) >>> (v4.toInt64 &&& 63)) &&& (1 : Int64)) (1 : Int64)) = 0 → aw_z X d y_M_compare Q 61 [some (.ref 69), some (.int v1), some (.int v2), some (.int v3), some (.int v4), none, none] [.int (1 : Int32)] (aw_s I L D)) :
    aw_z X d y_M_compare Q 34 [some (.ref 69), some (.int v1), some (.int v2), some (.int v3), some (.int v4), none, none] [] (aw_s I L D) :=
  (s_M_compare_34.go [some (.ref 69), some (.int v1), some (.int v2), some (.int v3), some (.int v4), none, none] [.int v3, .int v4] (aw_s I L D) rfl (z_icmp_ge (tgt := 110) d_M_compare_37 rfl (fun q1 => (s_M_compare_110.go [some (.ref 69), some (.int v1), some (.int v2), some (.int v3), some (.int v4), none, none] [.int v1, .ref 93] (aw_s I L D) rfl (z_iald (n := 4096) rfl (aw_lt (o := 93) rfl) (h1 q1) d_M_compare_115 (s_M_compare_116.go [some (.ref 69), some (.int v1), some (.int v2), some (.int v3), some (.int v4), none, none] [.int v2, .ref 93, .int (I 93 v1.toNatClampNeg)] (aw_s I L D) rfl (z_iald (n := 4096) rfl (aw_lt (o := 93) rfl) (h2 q1) d_M_compare_121 (z_icmp_eq (tgt := 139) d_M_compare_122 rfl (fun q3 => (s_M_compare_139.go [some (.ref 69), some (.int v1), some (.int v2), some (.int v3), some (.int v4), none, none] [.int v1, .ref 94] (aw_s I L D) rfl (z_iald (n := 4096) rfl (aw_lt (o := 94) rfl) (h3 q1 q3) d_M_compare_144 (s_M_compare_145.go [some (.ref 69), some (.int v1), some (.int v2), some (.int v3), some (.int v4), none, none] [.int v2, .ref 94, .int (I 94 v1.toNatClampNeg)] (aw_s I L D) rfl (z_iald (n := 4096) rfl (aw_lt (o := 94) rfl) (h4 q1 q3) d_M_compare_150 (z_icmp_eq (tgt := 168) d_M_compare_151 rfl (fun q5 => (s_M_compare_168.go [some (.ref 69), some (.int v1), some (.int v2), some (.int v3), some (.int v4), none, none] [.int v1, .ref 96] (aw_s I L D) rfl (z_iald (n := 4096) rfl (aw_lt (o := 96) rfl) (h5 q1 q3 q5) d_M_compare_173 (s_M_compare_174.go [some (.ref 69), some (.int v1), some (.int v2), some (.int v3), some (.int v4), none, none] [.int (-1 : Int32), .int (I 96 v1.toNatClampNeg)] (aw_s I L D) rfl (z_icmp_ne (tgt := 182) d_M_compare_175 rfl (fun q7 => (s_M_compare_182.go [some (.ref 69), some (.int v1), some (.int v2), some (.int v3), some (.int v4), none, none] [.int (0 : Int32)] (aw_s I L D) rfl (aw_Z.weak (ls' := [some (.ref 69), some (.int v1), some (.int v2), none, none, none, none]) (h6 q1 q3 q5 q7) (Nat.le_of_ble_eq_true rfl) ⟨Or.inr rfl, ⟨Or.inr rfl, ⟨Or.inr rfl, ⟨Or.inl rfl, ⟨Or.inl rfl, ⟨Or.inl rfl, ⟨Or.inl rfl, trivial⟩⟩⟩⟩⟩⟩⟩))) (fun q8 => (s_M_compare_178.go [some (.ref 69), some (.int v1), some (.int v2), some (.int v3), some (.int v4), none, none] [.int (1 : Int32)] (aw_s I L D) rfl (z_goto (tgt := 183) d_M_compare_179 rfl (aw_Z.weak (ls' := [some (.ref 69), some (.int v1), some (.int v2), none, none, none, none]) (h7 q1 q3 q5 q8) (Nat.le_of_ble_eq_true rfl) ⟨Or.inr rfl, ⟨Or.inr rfl, ⟨Or.inr rfl, ⟨Or.inl rfl, ⟨Or.inl rfl, ⟨Or.inl rfl, ⟨Or.inl rfl, trivial⟩⟩⟩⟩⟩⟩⟩))))))))) (fun q6 => (s_M_compare_154.go [some (.ref 69), some (.int v1), some (.int v2), some (.int v3), some (.int v4), none, none] [.int v1, .ref 94] (aw_s I L D) rfl (z_iald (n := 4096) rfl (aw_lt (o := 94) rfl) (h8 q1 q3 q6) d_M_compare_159 (s_M_compare_160.go [some (.ref 69), some (.int v1), some (.int v2), some (.int v3), some (.int v4), none, none] [.int v2, .ref 94, .int (I 94 v1.toNatClampNeg)] (aw_s I L D) rfl (z_iald (n := 4096) rfl (aw_lt (o := 94) rfl) (h9 q1 q3 q6) d_M_compare_165 (s_M_compare_166.go [some (.ref 69), some (.int v1), some (.int v2), some (.int v3), some (.int v4), none, none] [.int ((I 94 v1.toNatClampNeg) - (I 94 v2.toNatClampNeg))] (aw_s I L D) rfl (z_iret d_M_compare_167 rfl rfl (h10 q1 q3 q6)))))))))))))) (fun q4 => (s_M_compare_125.go [some (.ref 69), some (.int v1), some (.int v2), some (.int v3), some (.int v4), none, none] [.int v1, .ref 93] (aw_s I L D) rfl (z_iald (n := 4096) rfl (aw_lt (o := 93) rfl) (h11 q1 q4) d_M_compare_130 (s_M_compare_131.go [some (.ref 69), some (.int v1), some (.int v2), some (.int v3), some (.int v4), none, none] [.int v2, .ref 93, .int (I 93 v1.toNatClampNeg)] (aw_s I L D) rfl (z_iald (n := 4096) rfl (aw_lt (o := 93) rfl) (h12 q1 q4) d_M_compare_136 (s_M_compare_137.go [some (.ref 69), some (.int v1), some (.int v2), some (.int v3), some (.int v4), none, none] [.int ((I 93 v1.toNatClampNeg) - (I 93 v2.toNatClampNeg))] (aw_s I L D) rfl (z_iret d_M_compare_138 rfl rfl (h13 q1 q4)))))))))))))) (fun q2 => (s_M_compare_40.go [some (.ref 69), some (.int v1), some (.int v2), some (.int v3), some (.int v4), none, none] [.int v1, .ref 91] (aw_s I L D) rfl (z_lald (n := 4096) rfl (aw_lt (o := 91) rfl) (h14 q2) d_M_compare_45 (s_M_compare_46.go [some (.ref 69), some (.int v1), some (.int v2), some (.int v3), some (.int v4), none, none] [.int (lg_cmp (((L 91 v1.toNatClampNeg) >>> (v4.toInt64 &&& 63)) &&& (1 : Int64)) (1 : Int64))] (aw_s I L D) rfl (z_if_ne (tgt := 60) d_M_compare_53 rfl (fun q9 => (s_M_compare_60.go [some (.ref 69), some (.int v1), some (.int v2), some (.int v3), some (.int v4), none, none] [.int (0 : Int32)] (aw_s I L D) rfl (h15 q2 q9))) (fun q10 => (s_M_compare_56.go [some (.ref 69), some (.int v1), some (.int v2), some (.int v3), some (.int v4), none, none] [.int (1 : Int32)] (aw_s I L D) rfl (z_goto (tgt := 61) d_M_compare_57 rfl (h16 q2 q10)))))))))))
theorem d_M_compare_183 : decode y_M_compare.2.1 183 = .ok (.aload_n 0, 1) := by decide +kernel
theorem d_M_compare_184 : decode y_M_compare.2.1 184 = .ok (.getfield 97, 3) := by decide +kernel
theorem d_M_compare_187 : decode y_M_compare.2.1 187 = .ok (.iload_n 2, 1) := by decide +kernel
theorem s_M_compare_183 : aw_VS y_M_compare 183 [o_ald 0, o_getA 9 56, o_ild 2] 188 := .cons (v_aload_n (i := 0) d_M_compare_183 rfl) (.cons (v_getA (k := 56) k_M (by decide) rfl (Or.inl w_1517) d_M_compare_184) (.cons (v_iload_n (i := 2) d_M_compare_187 rfl) .nil))
theorem d_M_compare_188 : decode y_M_compare.2.1 188 = .ok (.iaload, 1) := by decide +kernel
theorem d_M_compare_189 : decode y_M_compare.2.1 189 = .ok (.iconst (-1), 1) := by decide +kernel
theorem s_M_compare_189 : aw_VS y_M_compare 189 [o_c (.int (-1 : Int32))] 190 := .cons (v_iconst (v := (-1 : Int32)) d_M_compare_189 (by decide +kernel)) .nil
theorem d_M_compare_190 : decode y_M_compare.2.1 190 = .ok (.if_icmp .ne (7), 3) := by decide +kernel
theorem d_M_compare_197 : decode y_M_compare.2.1 197 = .ok (.iconst 0, 1) := by decide +kernel
theorem s_M_compare_197 : aw_VS y_M_compare 197 [o_c (.int (0 : Int32))] 198 := .cons (v_iconst (v := (0 : Int32)) d_M_compare_197 (by decide +kernel)) .nil
theorem d_M_compare_193 : decode y_M_compare.2.1 193 = .ok (.iconst 1, 1) := by decide +kernel
theorem s_M_compare_193 : aw_VS y_M_compare 193 [o_c (.int (1 : Int32))] 194 := .cons (v_iconst (v := (1 : Int32)) d_M_compare_193 (by decide +kernel)) .nil
theorem d_M_compare_194 : decode y_M_compare.2.1 194 = .ok (.goto (4), 3) := by decide +kernel
theorem b_M_compare_183 {X : aw_X} {d : Nat} {Q : Option Value → aw_H → Prop} {I : Nat → Nat → Int32} {L : Nat → Nat → Int64} {D : Nat → Nat} {v1 : Int32} {v2 : Int32} {s0 : Int32}
    (h1 : vp_in v2 4096)
    (h2 : ¬ (I 96 v2.toNatClampNeg) = (-1 : Int32) → aw_z X d y_M_compare Q 198 [some (.ref 69), some (.int v1), some (.int v2), none, none, none, none] [.int (0 : Int32), .int s0] (aw_s I L D))
    (h3 : (I 96 v2.toNatClampNeg) = (-1 : Int32) → aw_z X d y_M_compare Q 198 [some (.ref 69), some (.int v1), some (.int v2), none, none, none, none] [.int (1 : Int32), .int s0] (aw_s I L D)) :
    aw_z X d y_M_compare Q 183 [some (.ref 69), some (.int v1), some (.int v2), none, none, none, none] [.int s0] (aw_s I L D) :=
  (s_M_compare_183.go [some (.ref 69), some (.int v1), some (.int v2), none, none, none, none] [.int v2, .ref 96, .int s0] (aw_s I L D) rfl (z_iald (n := 4096) rfl (aw_lt (o := 96) rfl) (h1) d_M_compare_188 (s_M_compare_189.go [some (.ref 69), some (.int v1), some (.int v2), none, none, none, none] [.int (-1 : Int32), .int (I 96 v2.toNatClampNeg), .int s0] (aw_s I L D) rfl (z_icmp_ne (tgt := 197) d_M_compare_190 rfl (fun q1 => (s_M_compare_197.go [some (.ref 69), some (.int v1), some (.int v2), none, none, none, none] [.int (0 : Int32), .int s0] (aw_s I L D) rfl (h2 q1))) (fun q2 => (s_M_compare_193.go [some (.ref 69), some (.int v1), some (.int v2), none, none, none, none] [.int (1 : Int32), .int s0] (aw_s I L D) rfl (z_goto (tgt := 198) d_M_compare_194 rfl (h3 q2))))))))
theorem d_M_compare_61 : decode y_M_compare.2.1 61 = .ok (.istore 5, 2) := by decide +kernel
theorem d_M_compare_63 : decode y_M_compare.2.1 63 = .ok (.aload_n 0, 1) := by decide +kernel
theorem d_M_compare_64 : decode y_M_compare.2.1 64 = .ok (.getfield 82, 3) := by decide +kernel
theorem d_M_compare_67 : decode y_M_compare.2.1 67 = .ok (.iload_n 2, 1) := by decide +kernel
theorem s_M_compare_61 : aw_VS y_M_compare 61 [o_ist 5, o_ald 0, o_getA 9 51, o_ild 2] 68 := .cons (v_istore d_M_compare_61) (.cons (v_aload_n (i := 0) d_M_compare_63 rfl) (.cons (v_getA (k := 51) k_M (by decide) rfl (Or.inl w_1512) d_M_compare_64) (.cons (v_iload_n (i := 2) d_M_compare_67 rfl) .nil)))
theorem d_M_compare_68 : decode y_M_compare.2.1 68 = .ok (.laload, 1) := by decide +kernel
theorem d_M_compare_69 : decode y_M_compare.2.1 69 = .ok (.iload 4, 2) := by decide +kernel
theorem d_M_compare_71 : decode y_M_compare.2.1 71 = .ok (.lshr, 1) := by decide +kernel
theorem d_M_compare_72 : decode y_M_compare.2.1 72 = .ok (.lconst 1, 1) := by decide +kernel
theorem d_M_compare_73 : decode y_M_compare.2.1 73 = .ok (.land, 1) := by decide +kernel
theorem d_M_compare_74 : decode y_M_compare.2.1 74 = .ok (.lconst 1, 1) := by decide +kernel
theorem d_M_compare_75 : decode y_M_compare.2.1 75 = .ok (.lcmp, 1) := by decide +kernel
theorem s_M_compare_69 : aw_VS y_M_compare 69 [o_ild 4, o_ls (fun x z => x >>> (z.toInt64 &&& 63)), o_c (.long (1 : Int64)), o_l2 (fun x z => x &&& z), o_c (.long (1 : Int64)), o_lc] 76 := .cons (v_iload (i := 4) d_M_compare_69) (.cons (v_lshr d_M_compare_71) (.cons (v_lconst (v := (1 : Int64)) d_M_compare_72 (by decide +kernel)) (.cons (v_land d_M_compare_73) (.cons (v_lconst (v := (1 : Int64)) d_M_compare_74 (by decide +kernel)) (.cons (v_lcmp d_M_compare_75) .nil)))))
theorem d_M_compare_76 : decode y_M_compare.2.1 76 = .ok (.ifCond .ne (7), 3) := by decide +kernel
theorem d_M_compare_83 : decode y_M_compare.2.1 83 = .ok (.iconst 0, 1) := by decide +kernel
theorem s_M_compare_83 : aw_VS y_M_compare 83 [o_c (.int (0 : Int32))] 84 := .cons (v_iconst (v := (0 : Int32)) d_M_compare_83 (by decide +kernel)) .nil
theorem d_M_compare_79 : decode y_M_compare.2.1 79 = .ok (.iconst 1, 1) := by decide +kernel
theorem s_M_compare_79 : aw_VS y_M_compare 79 [o_c (.int (1 : Int32))] 80 := .cons (v_iconst (v := (1 : Int32)) d_M_compare_79 (by decide +kernel)) .nil
theorem d_M_compare_80 : decode y_M_compare.2.1 80 = .ok (.goto (4), 3) := by decide +kernel
theorem b_M_compare_61 {X : aw_X} {d : Nat} {Q : Option Value → aw_H → Prop} {I : Nat → Nat → Int32} {L : Nat → Nat → Int64} {D : Nat → Nat} {v1 : Int32} {v2 : Int32} {v3 : Int32} {v4 : Int32} {s0 : Int32}
    (h1 : vp_in v2 4096)
    (h2 : ¬ (lg_cmp (((L 91 v2.toNatClampNeg) >>> (v4.toInt64 &&& 63)) &&& (1 : Int64)) (1 : Int64)) = 0 → aw_z X d y_M_compare Q 84 [some (.ref 69), some (.int v1), some (.int v2), some (.int v3), some (.int v4), some (.int s0), none] [.int (0 : Int32)] (aw_s I L D))
    (h3 : (lg_cmp (((L 91 v2.toNatClampNeg) >>> (v4.toInt64 &&& 63)) &&& (1 : Int64)) (1 : Int64)) = 0 → aw_z X d y_M_compare Q 84 [some (.ref 69), some (.int v1), some (.int v2), some (.int v3), some (.int v4), some (.int s0), none] [.int (1 : Int32)] (aw_s I L D)) :
    aw_z X d y_M_compare Q 61 [some (.ref 69), some (.int v1), some (.int v2), some (.int v3), some (.int v4), none, none] [.int s0] (aw_s I L D) :=
  (s_M_compare_61.go [some (.ref 69), some (.int v1), some (.int v2), some (.int v3), some (.int v4), some (.int s0), none] [.int v2, .ref 91] (aw_s I L D) rfl (z_lald (n := 4096) rfl (aw_lt (o := 91) rfl) (h1) d_M_compare_68 (s_M_compare_69.go [some (.ref 69), some (.int v1), some (.int v2), some (.int v3), some (.int v4), some (.int s0), none] [.int (lg_cmp (((L 91 v2.toNatClampNeg) >>> (v4.toInt64 &&& 63)) &&& (1 : Int64)) (1 : Int64))] (aw_s I L D) rfl (z_if_ne (tgt := 83) d_M_compare_76 rfl (fun q1 => (s_M_compare_83.go [some (.ref 69), some (.int v1), some (.int v2), some (.int v3), some (.int v4), some (.int s0), none] [.int (0 : Int32)] (aw_s I L D) rfl (h2 q1))) (fun q2 => (s_M_compare_79.go [some (.ref 69), some (.int v1), some (.int v2), some (.int v3), some (.int v4), some (.int s0), none] [.int (1 : Int32)] (aw_s I L D) rfl (z_goto (tgt := 84) d_M_compare_80 rfl (h3 q2))))))))
theorem d_M_compare_198 : decode y_M_compare.2.1 198 = .ok (.if_icmp .eq (19), 3) := by decide +kernel
theorem d_M_compare_217 : decode y_M_compare.2.1 217 = .ok (.aload_n 0, 1) := by decide +kernel
theorem d_M_compare_218 : decode y_M_compare.2.1 218 = .ok (.getfield 94, 3) := by decide +kernel
theorem d_M_compare_221 : decode y_M_compare.2.1 221 = .ok (.iload_n 1, 1) := by decide +kernel
theorem s_M_compare_217 : aw_VS y_M_compare 217 [o_ald 0, o_getA 9 55, o_ild 1] 222 := .cons (v_aload_n (i := 0) d_M_compare_217 rfl) (.cons (v_getA (k := 55) k_M (by decide) rfl (Or.inl w_1516) d_M_compare_218) (.cons (v_iload_n (i := 1) d_M_compare_221 rfl) .nil))
theorem d_M_compare_222 : decode y_M_compare.2.1 222 = .ok (.iaload, 1) := by decide +kernel
theorem d_M_compare_223 : decode y_M_compare.2.1 223 = .ok (.aload_n 0, 1) := by decide +kernel
theorem d_M_compare_224 : decode y_M_compare.2.1 224 = .ok (.getfield 94, 3) := by decide +kernel
theorem d_M_compare_227 : decode y_M_compare.2.1 227 = .ok (.iload_n 2, 1) := by decide +kernel
theorem s_M_compare_223 : aw_VS y_M_compare 223 [o_ald 0, o_getA 9 55, o_ild 2] 228 := .cons (v_aload_n (i := 0) d_M_compare_223 rfl) (.cons (v_getA (k := 55) k_M (by decide) rfl (Or.inl w_1516) d_M_compare_224) (.cons (v_iload_n (i := 2) d_M_compare_227 rfl) .nil))
theorem d_M_compare_228 : decode y_M_compare.2.1 228 = .ok (.iaload, 1) := by decide +kernel
theorem d_M_compare_229 : decode y_M_compare.2.1 229 = .ok (.isub, 1) := by decide +kernel
theorem s_M_compare_229 : aw_VS y_M_compare 229 [o_i2 (fun x z => x - z)] 230 := .cons (v_isub d_M_compare_229) .nil
theorem d_M_compare_230 : decode y_M_compare.2.1 230 = .ok (.ireturn, 1) := by decide +kernel
theorem d_M_compare_201 : decode y_M_compare.2.1 201 = .ok (.aload_n 0, 1) := by decide +kernel
theorem d_M_compare_202 : decode y_M_compare.2.1 202 = .ok (.getfield 97, 3) := by decide +kernel
theorem d_M_compare_205 : decode y_M_compare.2.1 205 = .ok (.iload_n 1, 1) := by decide +kernel
theorem s_M_compare_201 : aw_VS y_M_compare 201 [o_ald 0, o_getA 9 56, o_ild 1] 206 := .cons (v_aload_n (i := 0) d_M_compare_201 rfl) (.cons (v_getA (k := 56) k_M (by decide) rfl (Or.inl w_1517) d_M_compare_202) (.cons (v_iload_n (i := 1) d_M_compare_205 rfl) .nil))
theorem d_M_compare_206 : decode y_M_compare.2.1 206 = .ok (.iaload, 1) := by decide +kernel
theorem d_M_compare_207 : decode y_M_compare.2.1 207 = .ok (.iconst (-1), 1) := by decide +kernel
theorem s_M_compare_207 : aw_VS y_M_compare 207 [o_c (.int (-1 : Int32))] 208 := .cons (v_iconst (v := (-1 : Int32)) d_M_compare_207 (by decide +kernel)) .nil
theorem d_M_compare_208 : decode y_M_compare.2.1 208 = .ok (.if_icmp .ne (7), 3) := by decide +kernel
theorem d_M_compare_215 : decode y_M_compare.2.1 215 = .ok (.iconst (-1), 1) := by decide +kernel
theorem s_M_compare_215 : aw_VS y_M_compare 215 [o_c (.int (-1 : Int32))] 216 := .cons (v_iconst (v := (-1 : Int32)) d_M_compare_215 (by decide +kernel)) .nil
theorem d_M_compare_216 : decode y_M_compare.2.1 216 = .ok (.ireturn, 1) := by decide +kernel
theorem d_M_compare_211 : decode y_M_compare.2.1 211 = .ok (.iconst 1, 1) := by decide +kernel
theorem s_M_compare_211 : aw_VS y_M_compare 211 [o_c (.int (1 : Int32))] 212 := .cons (v_iconst (v := (1 : Int32)) d_M_compare_211 (by decide +kernel)) .nil
theorem d_M_compare_212 : decode y_M_compare.2.1 212 = .ok (.goto (4), 3) := by decide +kernel
theorem b_M_compare_198 {X : aw_X} {d : Nat} {Q : Option Value → aw_H → Prop} {I : Nat → Nat → Int32} {L : Nat → Nat → Int64} {D : Nat → Nat} {v1 : Int32} {v2 : Int32} {s1 : Int32} {s0 : Int32}
    (h1 : s0 = s1 → vp_in v1 4096)
    (h2 : s0 = s1 → vp_in v2 4096)
    (h3 : s0 = s1 → Q (some (.int ((I 95 v1.toNatClampNeg) - (I 95 v2.toNatClampNeg)))) (aw_s I L D))
    (h4 : ¬ s0 = s1 → vp_in v1 4096)
    (h5 : ¬ s0 = s1 → ¬ (I 96 v1.toNatClampNeg) = (-1 : Int32) → Q (some (.int (-1 : Int32))) (aw_s I L D))
    (h6 : ¬ s0 = s1 → (I 96 v1.toNatClampNeg) = (-1 : Int32) → Q (some (.int (1 : Int32))) (aw_s I L D)) :
    aw_z X d y_M_compare Q 198 [some (.ref 69), some (.int v1), some (.int v2), none, none, none, none] [.int s1, .int s0] (aw_s I L D) :=
  (z_icmp_eq (tgt := 217) d_M_compare_198 rfl (fun q1 => (s_M_compare_217.go [some (.ref 69), some (.int v1), some (.int v2), none, none, none, none] [.int v1, .ref 95] (aw_s I L D) rfl (z_iald (n := 4096) rfl (aw_lt (o := 95) rfl) (h1 q1) d_M_compare_222 (s_M_compare_223.go [some (.ref 69), some (.int v1), some (.int v2), none, none, none, none] [.int v2, .ref 95, .int (I 95 v1.toNatClampNeg)] (aw_s I L D) rfl (z_iald (n := 4096) rfl (aw_lt (o := 95) rfl) (h2 q1) d_M_compare_228 (s_M_compare_229.go [some (.ref 69), some (.int v1), some (.int v2), none, none, none, none] [.int ((I 95 v1.toNatClampNeg) - (I 95 v2.toNatClampNeg))] (aw_s I L D) rfl (z_iret d_M_compare_230 rfl rfl (h3 q1)))))))) (fun q2 => (s_M_compare_201.go [some (.ref 69), some (.int v1), some (.int v2), none, none, none, none] [.int v1, .ref 96] (aw_s I L D) rfl (z_iald (n := 4096) rfl (aw_lt (o := 96) rfl) (h4 q2) d_M_compare_206 (s_M_compare_207.go [some (.ref 69), some (.int v1), some (.int v2), none, none, none, none] [.int (-1 : Int32), .int (I 96 v1.toNatClampNeg)] (aw_s I L D) rfl (z_icmp_ne (tgt := 215) d_M_compare_208 rfl (fun q3 => (s_M_compare_215.go [some (.ref 69), some (.int v1), some (.int v2), none, none, none, none] [.int (-1 : Int32)] (aw_s I L D) rfl (z_iret d_M_compare_216 rfl rfl (h5 q2 q3)))) (fun q4 => (s_M_compare_211.go [some (.ref 69), some (.int v1), some (.int v2), none, none, none, none] [.int (1 : Int32)] (aw_s I L D) rfl (z_goto (tgt := 216) d_M_compare_212 rfl (z_iret d_M_compare_216 rfl rfl (h6 q2 q4)))))))))))
theorem d_M_compare_84 : decode y_M_compare.2.1 84 = .ok (.istore 6, 2) := by decide +kernel
theorem d_M_compare_86 : decode y_M_compare.2.1 86 = .ok (.iload 5, 2) := by decide +kernel
theorem d_M_compare_88 : decode y_M_compare.2.1 88 = .ok (.iload 6, 2) := by decide +kernel
theorem s_M_compare_84 : aw_VS y_M_compare 84 [o_ist 6, o_ild 5, o_ild 6] 90 := .cons (v_istore d_M_compare_84) (.cons (v_iload (i := 5) d_M_compare_86) (.cons (v_iload (i := 6) d_M_compare_88) .nil))
theorem d_M_compare_90 : decode y_M_compare.2.1 90 = .ok (.if_icmp .eq (14), 3) := by decide +kernel
theorem d_M_compare_104 : decode y_M_compare.2.1 104 = .ok (.iinc 4 (1), 3) := by decide +kernel
theorem s_M_compare_104 : aw_VS y_M_compare 104 [o_inc 4 (1 : Int32)] 107 := .cons (v_iinc (k0 := (1 : Int32)) d_M_compare_104 (by decide +kernel)) .nil
theorem d_M_compare_107 : decode y_M_compare.2.1 107 = .ok (.goto (-73), 3) := by decide +kernel
theorem d_M_compare_93 : decode y_M_compare.2.1 93 = .ok (.iload 5, 2) := by decide +kernel
theorem s_M_compare_93 : aw_VS y_M_compare 93 [o_ild 5] 95 := .cons (v_iload (i := 5) d_M_compare_93) .nil
theorem d_M_compare_95 : decode y_M_compare.2.1 95 = .ok (.ifCond .eq (7), 3) := by decide +kernel
theorem d_M_compare_102 : decode y_M_compare.2.1 102 = .ok (.iconst 1, 1) := by decide +kernel
theorem s_M_compare_102 : aw_VS y_M_compare 102 [o_c (.int (1 : Int32))] 103 := .cons (v_iconst (v := (1 : Int32)) d_M_compare_102 (by decide +kernel)) .nil
theorem d_M_compare_103 : decode y_M_compare.2.1 103 = .ok (.ireturn, 1) := by decide +kernel
theorem d_M_compare_98 : decode y_M_compare.2.1 98 = .ok (.iconst (-1), 1) := by decide +kernel
theorem s_M_compare_98 : aw_VS y_M_compare 98 [o_c (.int (-1 : Int32))] 99 := .cons (v_iconst (v := (-1 : Int32)) d_M_compare_98 (by decide +kernel)) .nil
theorem d_M_compare_99 : decode y_M_compare.2.1 99 = .ok (.goto (4), 3) := by decide +kernel
theorem b_M_compare_84 {X : aw_X} {d : Nat} {Q : Option Value → aw_H → Prop} {I : Nat → Nat → Int32} {L : Nat → Nat → Int64} {D : Nat → Nat} {v1 : Int32} {v2 : Int32} {v3 : Int32} {v4 : Int32} {v5 : Int32} {s0 : Int32}
    (h1 : v5 = s0 → aw_z X d y_M_compare Q 34 [some (.ref 69), some (.int v1), some (.int v2), some (.int v3), some (.int (v4 + (1 : Int32))), none, none] [] (aw_s I L D))
    (h2 : ¬ v5 = s0 → v5 = 0 → Q (some (.int (1 : Int32))) (aw_s I L D))
    (h3 : ¬ v5 = s0 → ¬ v5 = 0 → Q (some (.int (-1 : Int32))) (aw_s I L D)) :
    aw_z X d y_M_compare Q 84 [some (.ref 69), some (.int v1), some (.int v2), some (.int v3), some (.int v4), some (.int v5), none] [.int s0] (aw_s I L D) :=
  (s_M_compare_84.go [some (.ref 69), some (.int v1), some (.int v2), some (.int v3), some (.int v4), some (.int v5), some (.int s0)] [.int s0, .int v5] (aw_s I L D) rfl (z_icmp_eq (tgt := 104) d_M_compare_90 rfl (fun q1 => (s_M_compare_104.go [some (.ref 69), some (.int v1), some (.int v2), some (.int v3), some (.int (v4 + (1 : Int32))), some (.int v5), some (.int s0)] [] (aw_s I L D) rfl (z_goto (tgt := 34) d_M_compare_107 rfl (aw_Z.weak (ls' := [some (.ref 69), some (.int v1), some (.int v2), some (.int v3), some (.int (v4 + (1 : Int32))), none, none]) (h1 q1) (Nat.le_of_ble_eq_true rfl) ⟨Or.inr rfl, ⟨Or.inr rfl, ⟨Or.inr rfl, ⟨Or.inr rfl, ⟨Or.inr rfl, ⟨Or.inl rfl, ⟨Or.inl rfl, trivial⟩⟩⟩⟩⟩⟩⟩)))) (fun q2 => (s_M_compare_93.go [some (.ref 69), some (.int v1), some (.int v2), some (.int v3), some (.int v4), some (.int v5), some (.int s0)] [.int v5] (aw_s I L D) rfl (z_if_eq (tgt := 102) d_M_compare_95 rfl (fun q3 => (s_M_compare_102.go [some (.ref 69), some (.int v1), some (.int v2), some (.int v3), some (.int v4), some (.int v5), some (.int s0)] [.int (1 : Int32)] (aw_s I L D) rfl (z_iret d_M_compare_103 rfl rfl (h2 q2 q3)))) (fun q4 => (s_M_compare_98.go [some (.ref 69), some (.int v1), some (.int v2), some (.int v3), some (.int v4), some (.int v5), some (.int s0)] [.int (-1 : Int32)] (aw_s I L D) rfl (z_goto (tgt := 103) d_M_compare_99 rfl (z_iret d_M_compare_103 rfl rfl (h3 q2 q4))))))))))
/-! M_way -/
theorem d_M_way_0 : decode y_M_way.2.1 0 = .ok (.aload_n 0, 1) := by decide +kernel
theorem d_M_way_1 : decode y_M_way.2.1 1 = .ok (.iload_n 1, 1) := by decide +kernel
theorem s_M_way_0 : aw_VS y_M_way 0 [o_ald 0, o_ild 1] 2 := .cons (v_aload_n (i := 0) d_M_way_0 rfl) (.cons (v_iload_n (i := 1) d_M_way_1 rfl) .nil)
theorem d_M_way_2 : decode y_M_way.2.1 2 = .ok (.invokevirtual 445, 3) := by decide +kernel
theorem b_M_way_0 {X : aw_X} {d : Nat} {Q : Option Value → aw_H → Prop} {I : Nat → Nat → Int32} {L : Nat → Nat → Int64} {D : Nat → Nat} {v1 : Int32} {v2 : Int32}
    (h1 : aw_m X d y_M_isWay [.ref 69, .int v1] (aw_s I L D) (fun r A => aw_z X (d + 1) y_M_way Q 5 [some (.ref 69), some (.int v1), some (.int v2), none] (r.toList ++ []) A)) :
    aw_z X (d + 1) y_M_way Q 0 [some (.ref 69), some (.int v1), some (.int v2), none] [] (aw_s I L D) :=
  (s_M_way_0.go [some (.ref 69), some (.int v1), some (.int v2), none] [.int v1, .ref 69] (aw_s I L D) rfl (z_callV (av := [.int v1]) (st := []) ok_M_isWay (Or.inl w_1971) w_1973 w_118 k_M d_M_way_2 rfl (aw_lt (o := 69) rfl) rfl rfl (Nat.le_of_ble_eq_true rfl) (Nat.le_refl _) (Nat.le_refl _) (h1)))
theorem d_M_way_5 : decode y_M_way.2.1 5 = .ok (.ifCond .eq (12), 3) := by decide +kernel
theorem d_M_way_8 : decode y_M_way.2.1 8 = .ok (.iload_n 2, 1) := by decide +kernel
theorem d_M_way_9 : decode y_M_way.2.1 9 = .ok (.iconst 0, 1) := by decide +kernel
theorem d_M_way_10 : decode y_M_way.2.1 10 = .ok (.iconst 5, 1) := by decide +kernel
theorem s_M_way_8 : aw_VS y_M_way 8 [o_ild 2, o_c (.int (0 : Int32)), o_c (.int (5 : Int32))] 11 := .cons (v_iload_n (i := 2) d_M_way_8 rfl) (.cons (v_iconst (v := (0 : Int32)) d_M_way_9 (by decide +kernel)) (.cons (v_iconst (v := (5 : Int32)) d_M_way_10 (by decide +kernel)) .nil))
theorem d_M_way_11 : decode y_M_way.2.1 11 = .ok (.invokestatic 234, 3) := by decide +kernel
theorem b_M_way_5 {X : aw_X} {d : Nat} {Q : Option Value → aw_H → Prop} {I : Nat → Nat → Int32} {L : Nat → Nat → Int64} {D : Nat → Nat} {v1 : Int32} {v2 : Int32} {s0 : Int32}
    (h1 : s0 = 0 → aw_z X (d + 1) y_M_way Q 17 [some (.ref 69), none, none, none] [] (aw_s I L D))
    (h2 : ¬ s0 = 0 → aw_m X d y_M_isIn [.int v2, .int (0 : Int32), .int (5 : Int32)] (aw_s I L D) (fun r A => aw_z X (d + 1) y_M_way Q 14 [some (.ref 69), some (.int v1), some (.int v2), none] (r.toList ++ []) A)) :
    aw_z X (d + 1) y_M_way Q 5 [some (.ref 69), some (.int v1), some (.int v2), none] [.int s0] (aw_s I L D) :=
  (z_if_eq (tgt := 17) d_M_way_5 rfl (fun q1 => (aw_Z.weak (ls' := [some (.ref 69), none, none, none]) (h1 q1) (Nat.le_of_ble_eq_true rfl) ⟨Or.inr rfl, ⟨Or.inl rfl, ⟨Or.inl rfl, ⟨Or.inl rfl, trivial⟩⟩⟩⟩)) (fun q2 => (s_M_way_8.go [some (.ref 69), some (.int v1), some (.int v2), none] [.int (5 : Int32), .int (0 : Int32), .int v2] (aw_s I L D) rfl (z_callS (av := [.int v2, .int (0 : Int32), .int (5 : Int32)]) (st := []) ok_M_isIn (Or.inl w_1873) w_1874 d_M_way_11 rfl rfl (Nat.le_of_ble_eq_true rfl) (Nat.le_refl _) (Nat.le_refl _) (h2 q2)))))
theorem d_M_way_17 : decode y_M_way.2.1 17 = .ok (.aload_n 0, 1) := by decide +kernel
theorem s_M_way_17 : aw_VS y_M_way 17 [o_ald 0] 18 := .cons (v_aload_n (i := 0) d_M_way_17 rfl) .nil
theorem d_M_way_18 : decode y_M_way.2.1 18 = .ok (.invokevirtual 448, 3) := by decide +kernel
theorem b_M_way_17 {X : aw_X} {d : Nat} {Q : Option Value → aw_H → Prop} {I : Nat → Nat → Int32} {L : Nat → Nat → Int64} {D : Nat → Nat} 
    (h1 : aw_m X d y_M_refuse [.ref 69] (aw_s I L D) (fun r A => aw_z X (d + 1) y_M_way Q 21 [none, none, none, none] (r.toList ++ []) A)) :
    aw_z X (d + 1) y_M_way Q 17 [some (.ref 69), none, none, none] [] (aw_s I L D) :=
  (s_M_way_17.go [some (.ref 69), none, none, none] [.ref 69] (aw_s I L D) rfl (z_callV (av := []) (st := []) ok_M_refuse (Or.inl w_1975) w_1977 w_119 k_M d_M_way_18 rfl (aw_lt (o := 69) rfl) rfl rfl (Nat.le_of_ble_eq_true rfl) (Nat.le_refl _) (Nat.le_refl _) (aw_C.mono (h1) (fun _ _ zz => aw_Z.weak (ls' := [none, none, none, none]) zz (Nat.le_of_ble_eq_true rfl) ⟨Or.inl rfl, ⟨Or.inl rfl, ⟨Or.inl rfl, ⟨Or.inl rfl, trivial⟩⟩⟩⟩))))
theorem d_M_way_14 : decode y_M_way.2.1 14 = .ok (.ifCond .ne (8), 3) := by decide +kernel
theorem d_M_way_22 : decode y_M_way.2.1 22 = .ok (.aload_n 0, 1) := by decide +kernel
theorem d_M_way_23 : decode y_M_way.2.1 23 = .ok (.iconst 0, 1) := by decide +kernel
theorem d_M_way_24 : decode y_M_way.2.1 24 = .ok (.putfield 160, 3) := by decide +kernel
theorem d_M_way_27 : decode y_M_way.2.1 27 = .ok (.aload_n 0, 1) := by decide +kernel
theorem d_M_way_28 : decode y_M_way.2.1 28 = .ok (.getfield 103, 3) := by decide +kernel
theorem d_M_way_31 : decode y_M_way.2.1 31 = .ok (.iload_n 1, 1) := by decide +kernel
theorem s_M_way_22 : aw_VS y_M_way 22 [o_ald 0, o_c (.int (0 : Int32)), o_putI 9 0, o_ald 0, o_getA 9 58, o_ild 1] 32 := .cons (v_aload_n (i := 0) d_M_way_22 rfl) (.cons (v_iconst (v := (0 : Int32)) d_M_way_23 (by decide +kernel)) (.cons (v_putI (k := 0) k_M (by decide) rfl (Or.inl ⟨rfl, Or.inl w_1461⟩) d_M_way_24) (.cons (v_aload_n (i := 0) d_M_way_27 rfl) (.cons (v_getA (k := 58) k_M (by decide) rfl (Or.inl w_1519) d_M_way_28) (.cons (v_iload_n (i := 1) d_M_way_31 rfl) .nil)))))
theorem d_M_way_32 : decode y_M_way.2.1 32 = .ok (.iaload, 1) := by decide +kernel
theorem d_M_way_33 : decode y_M_way.2.1 33 = .ok (.istore_n 3, 1) := by decide +kernel
theorem d_M_way_34 : decode y_M_way.2.1 34 = .ok (.iload_n 2, 1) := by decide +kernel
theorem s_M_way_33 : aw_VS y_M_way 33 [o_ist 3, o_ild 2] 35 := .cons (v_istore_n d_M_way_33) (.cons (v_iload_n (i := 2) d_M_way_34 rfl) .nil)
theorem d_M_way_35 : decode y_M_way.2.1 35 = .ok (.tableswitch (63) (0) (4) #[33, 40, 47, 54, 61], 33) := by decide +kernel
theorem d_M_way_68 : decode y_M_way.2.1 68 = .ok (.aload_n 0, 1) := by decide +kernel
theorem d_M_way_69 : decode y_M_way.2.1 69 = .ok (.getfield 94, 3) := by decide +kernel
theorem d_M_way_72 : decode y_M_way.2.1 72 = .ok (.iload_n 3, 1) := by decide +kernel
theorem s_M_way_68 : aw_VS y_M_way 68 [o_ald 0, o_getA 9 55, o_ild 3] 73 := .cons (v_aload_n (i := 0) d_M_way_68 rfl) (.cons (v_getA (k := 55) k_M (by decide) rfl (Or.inl w_1516) d_M_way_69) (.cons (v_iload_n (i := 3) d_M_way_72 rfl) .nil))
theorem d_M_way_73 : decode y_M_way.2.1 73 = .ok (.iaload, 1) := by decide +kernel
theorem d_M_way_74 : decode y_M_way.2.1 74 = .ok (.ireturn, 1) := by decide +kernel
theorem d_M_way_75 : decode y_M_way.2.1 75 = .ok (.aload_n 0, 1) := by decide +kernel
theorem d_M_way_76 : decode y_M_way.2.1 76 = .ok (.getfield 97, 3) := by decide +kernel
theorem d_M_way_79 : decode y_M_way.2.1 79 = .ok (.iload_n 3, 1) := by decide +kernel
theorem s_M_way_75 : aw_VS y_M_way 75 [o_ald 0, o_getA 9 56, o_ild 3] 80 := .cons (v_aload_n (i := 0) d_M_way_75 rfl) (.cons (v_getA (k := 56) k_M (by decide) rfl (Or.inl w_1517) d_M_way_76) (.cons (v_iload_n (i := 3) d_M_way_79 rfl) .nil))
theorem d_M_way_80 : decode y_M_way.2.1 80 = .ok (.iaload, 1) := by decide +kernel
theorem d_M_way_81 : decode y_M_way.2.1 81 = .ok (.ireturn, 1) := by decide +kernel
theorem d_M_way_82 : decode y_M_way.2.1 82 = .ok (.aload_n 0, 1) := by decide +kernel
theorem d_M_way_83 : decode y_M_way.2.1 83 = .ok (.getfield 88, 3) := by decide +kernel
theorem d_M_way_86 : decode y_M_way.2.1 86 = .ok (.iload_n 3, 1) := by decide +kernel
theorem s_M_way_82 : aw_VS y_M_way 82 [o_ald 0, o_getA 9 53, o_ild 3] 87 := .cons (v_aload_n (i := 0) d_M_way_82 rfl) (.cons (v_getA (k := 53) k_M (by decide) rfl (Or.inl w_1514) d_M_way_83) (.cons (v_iload_n (i := 3) d_M_way_86 rfl) .nil))
theorem d_M_way_87 : decode y_M_way.2.1 87 = .ok (.iaload, 1) := by decide +kernel
theorem d_M_way_88 : decode y_M_way.2.1 88 = .ok (.ireturn, 1) := by decide +kernel
theorem d_M_way_89 : decode y_M_way.2.1 89 = .ok (.aload_n 0, 1) := by decide +kernel
theorem d_M_way_90 : decode y_M_way.2.1 90 = .ok (.getfield 106, 3) := by decide +kernel
theorem d_M_way_93 : decode y_M_way.2.1 93 = .ok (.iload_n 1, 1) := by decide +kernel
theorem s_M_way_89 : aw_VS y_M_way 89 [o_ald 0, o_getA 9 59, o_ild 1] 94 := .cons (v_aload_n (i := 0) d_M_way_89 rfl) (.cons (v_getA (k := 59) k_M (by decide) rfl (Or.inl w_1520) d_M_way_90) (.cons (v_iload_n (i := 1) d_M_way_93 rfl) .nil))
theorem d_M_way_94 : decode y_M_way.2.1 94 = .ok (.iaload, 1) := by decide +kernel
theorem d_M_way_95 : decode y_M_way.2.1 95 = .ok (.ireturn, 1) := by decide +kernel
theorem d_M_way_96 : decode y_M_way.2.1 96 = .ok (.iload_n 3, 1) := by decide +kernel
theorem s_M_way_96 : aw_VS y_M_way 96 [o_ild 3] 97 := .cons (v_iload_n (i := 3) d_M_way_96 rfl) .nil
theorem d_M_way_97 : decode y_M_way.2.1 97 = .ok (.ireturn, 1) := by decide +kernel
theorem d_M_way_98 : decode y_M_way.2.1 98 = .ok (.aload_n 0, 1) := by decide +kernel
theorem d_M_way_99 : decode y_M_way.2.1 99 = .ok (.getfield 91, 3) := by decide +kernel
theorem d_M_way_102 : decode y_M_way.2.1 102 = .ok (.iload_n 3, 1) := by decide +kernel
theorem s_M_way_98 : aw_VS y_M_way 98 [o_ald 0, o_getA 9 54, o_ild 3] 103 := .cons (v_aload_n (i := 0) d_M_way_98 rfl) (.cons (v_getA (k := 54) k_M (by decide) rfl (Or.inl w_1515) d_M_way_99) (.cons (v_iload_n (i := 3) d_M_way_102 rfl) .nil))
theorem d_M_way_103 : decode y_M_way.2.1 103 = .ok (.iaload, 1) := by decide +kernel
theorem d_M_way_104 : decode y_M_way.2.1 104 = .ok (.ireturn, 1) := by decide +kernel
theorem b_M_way_14 {X : aw_X} {d : Nat} {Q : Option Value → aw_H → Prop} {I : Nat → Nat → Int32} {L : Nat → Nat → Int64} {D : Nat → Nat} {v1 : Int32} {v2 : Int32} {s0 : Int32}
    (h1 : ¬ s0 = 0 → vp_in v1 4096)
    (h2 : ¬ s0 = 0 → v2 = (0 : Int32) → vp_in (I 98 v1.toNatClampNeg) 4096)
    (h3 : ¬ s0 = 0 → v2 = (0 : Int32) → Q (some (.int (I 95 ((I 98 v1.toNatClampNeg).toNatClampNeg)))) (aw_s (aw_u I 69 0 (0 : Int32)) L D))
    (h4 : ¬ s0 = 0 → ¬ v2 = (0 : Int32) → v2 = (1 : Int32) → vp_in (I 98 v1.toNatClampNeg) 4096)
    (h5 : ¬ s0 = 0 → ¬ v2 = (0 : Int32) → v2 = (1 : Int32) → Q (some (.int (I 96 ((I 98 v1.toNatClampNeg).toNatClampNeg)))) (aw_s (aw_u I 69 0 (0 : Int32)) L D))
    (h6 : ¬ s0 = 0 → ¬ v2 = (0 : Int32) → ¬ v2 = (1 : Int32) → v2 = (2 : Int32) → vp_in (I 98 v1.toNatClampNeg) 4096)
    (h7 : ¬ s0 = 0 → ¬ v2 = (0 : Int32) → ¬ v2 = (1 : Int32) → v2 = (2 : Int32) → Q (some (.int (I 93 ((I 98 v1.toNatClampNeg).toNatClampNeg)))) (aw_s (aw_u I 69 0 (0 : Int32)) L D))
    (h8 : ¬ s0 = 0 → ¬ v2 = (0 : Int32) → ¬ v2 = (1 : Int32) → ¬ v2 = (2 : Int32) → v2 = (3 : Int32) → vp_in v1 4096)
    (h9 : ¬ s0 = 0 → ¬ v2 = (0 : Int32) → ¬ v2 = (1 : Int32) → ¬ v2 = (2 : Int32) → v2 = (3 : Int32) → Q (some (.int (I 99 v1.toNatClampNeg))) (aw_s (aw_u I 69 0 (0 : Int32)) L D))
    (h10 : ¬ s0 = 0 → ¬ v2 = (0 : Int32) → ¬ v2 = (1 : Int32) → ¬ v2 = (2 : Int32) → ¬ v2 = (3 : Int32) → v2 = (4 : Int32) → Q (some (.int (I 98 v1.toNatClampNeg))) (aw_s (aw_u I 69 0 (0 : Int32)) L D))
    (h11 : ¬ s0 = 0 → ¬ v2 = (0 : Int32) → ¬ v2 = (1 : Int32) → ¬ v2 = (2 : Int32) → ¬ v2 = (3 : Int32) → ¬ v2 = (4 : Int32) → vp_in (I 98 v1.toNatClampNeg) 4096)
    (h12 : ¬ s0 = 0 → ¬ v2 = (0 : Int32) → ¬ v2 = (1 : Int32) → ¬ v2 = (2 : Int32) → ¬ v2 = (3 : Int32) → ¬ v2 = (4 : Int32) → Q (some (.int (I 94 ((I 98 v1.toNatClampNeg).toNatClampNeg)))) (aw_s (aw_u I 69 0 (0 : Int32)) L D))
    (h13 : s0 = 0 → aw_z X (d + 1) y_M_way Q 17 [some (.ref 69), none, none, none] [] (aw_s I L D)) :
    aw_z X (d + 1) y_M_way Q 14 [some (.ref 69), some (.int v1), some (.int v2), none] [.int s0] (aw_s I L D) :=
  (z_if_ne (tgt := 22) d_M_way_14 rfl (fun q1 => (s_M_way_22.go [some (.ref 69), some (.int v1), some (.int v2), none] [.int v1, .ref 98] (aw_s (aw_u I 69 0 (0 : Int32)) L D) rfl (z_iald (n := 4096) rfl (aw_lt (o := 98) rfl) (h1 q1) d_M_way_32 (s_M_way_33.go [some (.ref 69), some (.int v1), some (.int v2), some (.int (I 98 v1.toNatClampNeg))] [.int v2] (aw_s (aw_u I 69 0 (0 : Int32)) L D) rfl (Decidable.byCases (fun q3 => z_tableIn (off := 33) (tgt := 68) d_M_way_35 (by rw [q3]; decide +kernel) (by rw [q3]; decide +kernel) (by rw [q3]; decide +kernel) rfl (s_M_way_68.go [some (.ref 69), some (.int v1), some (.int v2), some (.int (I 98 v1.toNatClampNeg))] [.int (I 98 v1.toNatClampNeg), .ref 95] (aw_s (aw_u I 69 0 (0 : Int32)) L D) rfl (z_iald (n := 4096) rfl (aw_lt (o := 95) rfl) (h2 q1 q3) d_M_way_73 (z_iret d_M_way_74 rfl rfl (h3 q1 q3))))) (fun q3n => (Decidable.byCases (fun q4 => z_tableIn (off := 40) (tgt := 75) d_M_way_35 (by rw [q4]; decide +kernel) (by rw [q4]; decide +kernel) (by rw [q4]; decide +kernel) rfl (s_M_way_75.go [some (.ref 69), some (.int v1), some (.int v2), some (.int (I 98 v1.toNatClampNeg))] [.int (I 98 v1.toNatClampNeg), .ref 96] (aw_s (aw_u I 69 0 (0 : Int32)) L D) rfl (z_iald (n := 4096) rfl (aw_lt (o := 96) rfl) (h4 q1 q3n q4) d_M_way_80 (z_iret d_M_way_81 rfl rfl (h5 q1 q3n q4))))) (fun q4n => (Decidable.byCases (fun q5 => z_tableIn (off := 47) (tgt := 82) d_M_way_35 (by rw [q5]; decide +kernel) (by rw [q5]; decide +kernel) (by rw [q5]; decide +kernel) rfl (s_M_way_82.go [some (.ref 69), some (.int v1), some (.int v2), some (.int (I 98 v1.toNatClampNeg))] [.int (I 98 v1.toNatClampNeg), .ref 93] (aw_s (aw_u I 69 0 (0 : Int32)) L D) rfl (z_iald (n := 4096) rfl (aw_lt (o := 93) rfl) (h6 q1 q3n q4n q5) d_M_way_87 (z_iret d_M_way_88 rfl rfl (h7 q1 q3n q4n q5))))) (fun q5n => (Decidable.byCases (fun q6 => z_tableIn (off := 54) (tgt := 89) d_M_way_35 (by rw [q6]; decide +kernel) (by rw [q6]; decide +kernel) (by rw [q6]; decide +kernel) rfl (s_M_way_89.go [some (.ref 69), some (.int v1), some (.int v2), some (.int (I 98 v1.toNatClampNeg))] [.int v1, .ref 99] (aw_s (aw_u I 69 0 (0 : Int32)) L D) rfl (z_iald (n := 4096) rfl (aw_lt (o := 99) rfl) (h8 q1 q3n q4n q5n q6) d_M_way_94 (z_iret d_M_way_95 rfl rfl (h9 q1 q3n q4n q5n q6))))) (fun q6n => (Decidable.byCases (fun q7 => z_tableIn (off := 61) (tgt := 96) d_M_way_35 (by rw [q7]; decide +kernel) (by rw [q7]; decide +kernel) (by rw [q7]; decide +kernel) rfl (s_M_way_96.go [some (.ref 69), some (.int v1), some (.int v2), some (.int (I 98 v1.toNatClampNeg))] [.int (I 98 v1.toNatClampNeg)] (aw_s (aw_u I 69 0 (0 : Int32)) L D) rfl (z_iret d_M_way_97 rfl rfl (h10 q1 q3n q4n q5n q6n q7)))) (fun q7n => z_tableOut (tgt := 98) d_M_way_35 (by have := aw_swout q3n (a := 0) rfl; have := aw_swout q4n (a := 1) rfl; have := aw_swout q5n (a := 2) rfl; have := aw_swout q6n (a := 3) rfl; have := aw_swout q7n (a := 4) rfl; omega) rfl (s_M_way_98.go [some (.ref 69), some (.int v1), some (.int v2), some (.int (I 98 v1.toNatClampNeg))] [.int (I 98 v1.toNatClampNeg), .ref 94] (aw_s (aw_u I 69 0 (0 : Int32)) L D) rfl (z_iald (n := 4096) rfl (aw_lt (o := 94) rfl) (h11 q1 q3n q4n q5n q6n q7n) d_M_way_103 (z_iret d_M_way_104 rfl rfl (h12 q1 q3n q4n q5n q6n q7n)))))))))))))))))) (fun q2 => (aw_Z.weak (ls' := [some (.ref 69), none, none, none]) (h13 q2) (Nat.le_of_ble_eq_true rfl) ⟨Or.inr rfl, ⟨Or.inl rfl, ⟨Or.inl rfl, ⟨Or.inl rfl, trivial⟩⟩⟩⟩)))
theorem d_M_way_21 : decode y_M_way.2.1 21 = .ok (.ireturn, 1) := by decide +kernel
theorem b_M_way_21 {X : aw_X} {d : Nat} {Q : Option Value → aw_H → Prop} {I : Nat → Nat → Int32} {L : Nat → Nat → Int64} {D : Nat → Nat} {s0 : Int32}
    (h1 : Q (some (.int s0)) (aw_s I L D)) :
    aw_z X (d + 1) y_M_way Q 21 [none, none, none, none] [.int s0] (aw_s I L D) :=
  (z_iret d_M_way_21 rfl rfl (h1))
/-! M_isWay -/
theorem d_M_isWay_0 : decode y_M_isWay.2.1 0 = .ok (.aload_n 0, 1) := by decide +kernel
theorem d_M_isWay_1 : decode y_M_isWay.2.1 1 = .ok (.getfield 363, 3) := by decide +kernel
theorem s_M_isWay_0 : aw_VS y_M_isWay 0 [o_ald 0, o_getI 9 36] 4 := .cons (v_aload_n (i := 0) d_M_isWay_0 rfl) (.cons (v_getI (k := 36) k_M (by decide) (Or.inr rfl) (Or.inl w_1497) d_M_isWay_1) .nil)
theorem d_M_isWay_4 : decode y_M_isWay.2.1 4 = .ok (.ifCond .eq (19), 3) := by decide +kernel
theorem d_M_isWay_23 : decode y_M_isWay.2.1 23 = .ok (.iconst 0, 1) := by decide +kernel
theorem s_M_isWay_23 : aw_VS y_M_isWay 23 [o_c (.int (0 : Int32))] 24 := .cons (v_iconst (v := (0 : Int32)) d_M_isWay_23 (by decide +kernel)) .nil
theorem d_M_isWay_24 : decode y_M_isWay.2.1 24 = .ok (.ireturn, 1) := by decide +kernel
theorem d_M_isWay_7 : decode y_M_isWay.2.1 7 = .ok (.iload_n 1, 1) := by decide +kernel
theorem s_M_isWay_7 : aw_VS y_M_isWay 7 [o_ild 1] 8 := .cons (v_iload_n (i := 1) d_M_isWay_7 rfl) .nil
theorem d_M_isWay_8 : decode y_M_isWay.2.1 8 = .ok (.ifCond .lt (15), 3) := by decide +kernel
theorem d_M_isWay_11 : decode y_M_isWay.2.1 11 = .ok (.iload_n 1, 1) := by decide +kernel
theorem d_M_isWay_12 : decode y_M_isWay.2.1 12 = .ok (.aload_n 0, 1) := by decide +kernel
theorem d_M_isWay_13 : decode y_M_isWay.2.1 13 = .ok (.getfield 431, 3) := by decide +kernel
theorem s_M_isWay_11 : aw_VS y_M_isWay 11 [o_ild 1, o_ald 0, o_getI 9 64] 16 := .cons (v_iload_n (i := 1) d_M_isWay_11 rfl) (.cons (v_aload_n (i := 0) d_M_isWay_12 rfl) (.cons (v_getI (k := 64) k_M (by decide) (Or.inl rfl) (Or.inl w_1525) d_M_isWay_13) .nil))
theorem d_M_isWay_16 : decode y_M_isWay.2.1 16 = .ok (.if_icmp .ge (7), 3) := by decide +kernel
theorem d_M_isWay_19 : decode y_M_isWay.2.1 19 = .ok (.iconst 1, 1) := by decide +kernel
theorem s_M_isWay_19 : aw_VS y_M_isWay 19 [o_c (.int (1 : Int32))] 20 := .cons (v_iconst (v := (1 : Int32)) d_M_isWay_19 (by decide +kernel)) .nil
theorem d_M_isWay_20 : decode y_M_isWay.2.1 20 = .ok (.goto (4), 3) := by decide +kernel
theorem b_M_isWay_0 {X : aw_X} {d : Nat} {Q : Option Value → aw_H → Prop} {I : Nat → Nat → Int32} {L : Nat → Nat → Int64} {D : Nat → Nat} {v1 : Int32}
    (h1 : (I 69 36) = 0 → Q (some (.int (0 : Int32))) (aw_s I L D))
    (h2 : ¬ (I 69 36) = 0 → v1 < 0 → Q (some (.int (0 : Int32))) (aw_s I L D))
    (h3 : ¬ (I 69 36) = 0 → ¬ v1 < 0 → (I 69 64) ≤ v1 → Q (some (.int (0 : Int32))) (aw_s I L D))
    (h4 : ¬ (I 69 36) = 0 → ¬ v1 < 0 → ¬ (I 69 64) ≤ v1 → Q (some (.int (1 : Int32))) (aw_s I L D)) :
    aw_z X d y_M_isWay Q 0 [some (.ref 69), some (.int v1)] [] (aw_s I L D) :=
  (s_M_isWay_0.go [some (.ref 69), some (.int v1)] [.int (I 69 36)] (aw_s I L D) rfl (z_if_eq (tgt := 23) d_M_isWay_4 rfl (fun q1 => (s_M_isWay_23.go [some (.ref 69), some (.int v1)] [.int (0 : Int32)] (aw_s I L D) rfl (z_iret d_M_isWay_24 rfl (aw_nz (by decide +kernel)) (h1 q1)))) (fun q2 => (s_M_isWay_7.go [some (.ref 69), some (.int v1)] [.int v1] (aw_s I L D) rfl (z_if_lt (tgt := 23) d_M_isWay_8 rfl (fun q3 => (s_M_isWay_23.go [some (.ref 69), some (.int v1)] [.int (0 : Int32)] (aw_s I L D) rfl (z_iret d_M_isWay_24 rfl (aw_nz (by decide +kernel)) (h2 q2 q3)))) (fun q4 => (s_M_isWay_11.go [some (.ref 69), some (.int v1)] [.int (I 69 64), .int v1] (aw_s I L D) rfl (z_icmp_ge (tgt := 23) d_M_isWay_16 rfl (fun q5 => (s_M_isWay_23.go [some (.ref 69), some (.int v1)] [.int (0 : Int32)] (aw_s I L D) rfl (z_iret d_M_isWay_24 rfl (aw_nz (by decide +kernel)) (h3 q2 q4 q5)))) (fun q6 => (s_M_isWay_19.go [some (.ref 69), some (.int v1)] [.int (1 : Int32)] (aw_s I L D) rfl (z_goto (tgt := 24) d_M_isWay_20 rfl (z_iret d_M_isWay_24 rfl (aw_nz (by decide +kernel)) (h4 q2 q4 q6)))))))))))))
/-! M_refuse -/
theorem d_M_refuse_0 : decode y_M_refuse.2.1 0 = .ok (.aload_n 0, 1) := by decide +kernel
theorem d_M_refuse_1 : decode y_M_refuse.2.1 1 = .ok (.iconst 1, 1) := by decide +kernel
theorem d_M_refuse_2 : decode y_M_refuse.2.1 2 = .ok (.putfield 160, 3) := by decide +kernel
theorem d_M_refuse_5 : decode y_M_refuse.2.1 5 = .ok (.iconst 0, 1) := by decide +kernel
theorem s_M_refuse_0 : aw_VS y_M_refuse 0 [o_ald 0, o_c (.int (1 : Int32)), o_putI 9 0, o_c (.int (0 : Int32))] 6 := .cons (v_aload_n (i := 0) d_M_refuse_0 rfl) (.cons (v_iconst (v := (1 : Int32)) d_M_refuse_1 (by decide +kernel)) (.cons (v_putI (k := 0) k_M (by decide) rfl (Or.inl ⟨rfl, Or.inl w_1461⟩) d_M_refuse_2) (.cons (v_iconst (v := (0 : Int32)) d_M_refuse_5 (by decide +kernel)) .nil)))
theorem d_M_refuse_6 : decode y_M_refuse.2.1 6 = .ok (.ireturn, 1) := by decide +kernel
theorem b_M_refuse_0 {X : aw_X} {d : Nat} {Q : Option Value → aw_H → Prop} {I : Nat → Nat → Int32} {L : Nat → Nat → Int64} {D : Nat → Nat} 
    (h1 : Q (some (.int (0 : Int32))) (aw_s (aw_u I 69 0 (1 : Int32)) L D)) :
    aw_z X d y_M_refuse Q 0 [some (.ref 69)] [] (aw_s I L D) :=
  (s_M_refuse_0.go [some (.ref 69)] [.int (0 : Int32)] (aw_s (aw_u I 69 0 (1 : Int32)) L D) rfl (z_iret d_M_refuse_6 rfl rfl (h1)))
/-! M_went -/
theorem d_M_went_0 : decode y_M_went.2.1 0 = .ok (.aload_n 0, 1) := by decide +kernel
theorem d_M_went_1 : decode y_M_went.2.1 1 = .ok (.iconst 0, 1) := by decide +kernel
theorem d_M_went_2 : decode y_M_went.2.1 2 = .ok (.putfield 160, 3) := by decide +kernel
theorem d_M_went_5 : decode y_M_went.2.1 5 = .ok (.aload_n 0, 1) := by decide +kernel
theorem d_M_went_6 : decode y_M_went.2.1 6 = .ok (.iload_n 1, 1) := by decide +kernel
theorem s_M_went_0 : aw_VS y_M_went 0 [o_ald 0, o_c (.int (0 : Int32)), o_putI 9 0, o_ald 0, o_ild 1] 7 := .cons (v_aload_n (i := 0) d_M_went_0 rfl) (.cons (v_iconst (v := (0 : Int32)) d_M_went_1 (by decide +kernel)) (.cons (v_putI (k := 0) k_M (by decide) rfl (Or.inl ⟨rfl, Or.inl w_1461⟩) d_M_went_2) (.cons (v_aload_n (i := 0) d_M_went_5 rfl) (.cons (v_iload_n (i := 1) d_M_went_6 rfl) .nil))))
theorem d_M_went_7 : decode y_M_went.2.1 7 = .ok (.invokevirtual 445, 3) := by decide +kernel
theorem b_M_went_0 {X : aw_X} {d : Nat} {Q : Option Value → aw_H → Prop} {I : Nat → Nat → Int32} {L : Nat → Nat → Int64} {D : Nat → Nat} {v1 : Int32} {v2 : Int32}
    (h1 : aw_m X d y_M_isWay [.ref 69, .int v1] (aw_s (aw_u I 69 0 (0 : Int32)) L D) (fun r A => aw_z X (d + 1) y_M_went Q 10 [some (.ref 69), some (.int v1), some (.int v2)] (r.toList ++ []) A)) :
    aw_z X (d + 1) y_M_went Q 0 [some (.ref 69), some (.int v1), some (.int v2)] [] (aw_s I L D) :=
  (s_M_went_0.go [some (.ref 69), some (.int v1), some (.int v2)] [.int v1, .ref 69] (aw_s (aw_u I 69 0 (0 : Int32)) L D) rfl (z_callV (av := [.int v1]) (st := []) ok_M_isWay (Or.inl w_1971) w_1973 w_118 k_M d_M_went_7 rfl (aw_lt (o := 69) rfl) rfl rfl (Nat.le_of_ble_eq_true rfl) (Nat.le_refl _) (Nat.le_refl _) (h1)))
theorem d_M_went_10 : decode y_M_went.2.1 10 = .ok (.ifCond .eq (22), 3) := by decide +kernel
theorem d_M_went_32 : decode y_M_went.2.1 32 = .ok (.iconst (-1), 1) := by decide +kernel
theorem s_M_went_32 : aw_VS y_M_went 32 [o_c (.int (-1 : Int32))] 33 := .cons (v_iconst (v := (-1 : Int32)) d_M_went_32 (by decide +kernel)) .nil
theorem d_M_went_33 : decode y_M_went.2.1 33 = .ok (.ireturn, 1) := by decide +kernel
theorem d_M_went_13 : decode y_M_went.2.1 13 = .ok (.iload_n 2, 1) := by decide +kernel
theorem s_M_went_13 : aw_VS y_M_went 13 [o_ild 2] 14 := .cons (v_iload_n (i := 2) d_M_went_13 rfl) .nil
theorem d_M_went_14 : decode y_M_went.2.1 14 = .ok (.ifCond .lt (18), 3) := by decide +kernel
theorem d_M_went_17 : decode y_M_went.2.1 17 = .ok (.iload_n 2, 1) := by decide +kernel
theorem d_M_went_18 : decode y_M_went.2.1 18 = .ok (.aload_n 0, 1) := by decide +kernel
theorem d_M_went_19 : decode y_M_went.2.1 19 = .ok (.getfield 88, 3) := by decide +kernel
theorem d_M_went_22 : decode y_M_went.2.1 22 = .ok (.aload_n 0, 1) := by decide +kernel
theorem d_M_went_23 : decode y_M_went.2.1 23 = .ok (.getfield 103, 3) := by decide +kernel
theorem d_M_went_26 : decode y_M_went.2.1 26 = .ok (.iload_n 1, 1) := by decide +kernel
theorem s_M_went_17 : aw_VS y_M_went 17 [o_ild 2, o_ald 0, o_getA 9 53, o_ald 0, o_getA 9 58, o_ild 1] 27 := .cons (v_iload_n (i := 2) d_M_went_17 rfl) (.cons (v_aload_n (i := 0) d_M_went_18 rfl) (.cons (v_getA (k := 53) k_M (by decide) rfl (Or.inl w_1514) d_M_went_19) (.cons (v_aload_n (i := 0) d_M_went_22 rfl) (.cons (v_getA (k := 58) k_M (by decide) rfl (Or.inl w_1519) d_M_went_23) (.cons (v_iload_n (i := 1) d_M_went_26 rfl) .nil)))))
theorem d_M_went_27 : decode y_M_went.2.1 27 = .ok (.iaload, 1) := by decide +kernel
theorem d_M_went_28 : decode y_M_went.2.1 28 = .ok (.iaload, 1) := by decide +kernel
theorem d_M_went_29 : decode y_M_went.2.1 29 = .ok (.if_icmp .lt (5), 3) := by decide +kernel
theorem d_M_went_34 : decode y_M_went.2.1 34 = .ok (.aload_n 0, 1) := by decide +kernel
theorem d_M_went_35 : decode y_M_went.2.1 35 = .ok (.getfield 82, 3) := by decide +kernel
theorem d_M_went_38 : decode y_M_went.2.1 38 = .ok (.aload_n 0, 1) := by decide +kernel
theorem d_M_went_39 : decode y_M_went.2.1 39 = .ok (.getfield 103, 3) := by decide +kernel
theorem d_M_went_42 : decode y_M_went.2.1 42 = .ok (.iload_n 1, 1) := by decide +kernel
theorem s_M_went_34 : aw_VS y_M_went 34 [o_ald 0, o_getA 9 51, o_ald 0, o_getA 9 58, o_ild 1] 43 := .cons (v_aload_n (i := 0) d_M_went_34 rfl) (.cons (v_getA (k := 51) k_M (by decide) rfl (Or.inl w_1512) d_M_went_35) (.cons (v_aload_n (i := 0) d_M_went_38 rfl) (.cons (v_getA (k := 58) k_M (by decide) rfl (Or.inl w_1519) d_M_went_39) (.cons (v_iload_n (i := 1) d_M_went_42 rfl) .nil))))
theorem d_M_went_43 : decode y_M_went.2.1 43 = .ok (.iaload, 1) := by decide +kernel
theorem d_M_went_44 : decode y_M_went.2.1 44 = .ok (.laload, 1) := by decide +kernel
theorem d_M_went_45 : decode y_M_went.2.1 45 = .ok (.iload_n 2, 1) := by decide +kernel
theorem d_M_went_46 : decode y_M_went.2.1 46 = .ok (.lshr, 1) := by decide +kernel
theorem d_M_went_47 : decode y_M_went.2.1 47 = .ok (.lconst 1, 1) := by decide +kernel
theorem d_M_went_48 : decode y_M_went.2.1 48 = .ok (.land, 1) := by decide +kernel
theorem d_M_went_49 : decode y_M_went.2.1 49 = .ok (.l2i, 1) := by decide +kernel
theorem s_M_went_45 : aw_VS y_M_went 45 [o_ild 2, o_ls (fun x z => x >>> (z.toInt64 &&& 63)), o_c (.long (1 : Int64)), o_l2 (fun x z => x &&& z), o_li (fun x => x.toInt32)] 50 := .cons (v_iload_n (i := 2) d_M_went_45 rfl) (.cons (v_lshr d_M_went_46) (.cons (v_lconst (v := (1 : Int64)) d_M_went_47 (by decide +kernel)) (.cons (v_land d_M_went_48) (.cons (v_l2i d_M_went_49) .nil))))
theorem d_M_went_50 : decode y_M_went.2.1 50 = .ok (.ireturn, 1) := by decide +kernel
theorem b_M_went_10 {X : aw_X} {d : Nat} {Q : Option Value → aw_H → Prop} {I : Nat → Nat → Int32} {L : Nat → Nat → Int64} {D : Nat → Nat} {v1 : Int32} {v2 : Int32} {s0 : Int32}
    (h1 : s0 = 0 → Q (some (.int (-1 : Int32))) (aw_s I L D))
    (h2 : ¬ s0 = 0 → v2 < 0 → Q (some (.int (-1 : Int32))) (aw_s I L D))
    (h3 : ¬ s0 = 0 → ¬ v2 < 0 → vp_in v1 4096)
    (h4 : ¬ s0 = 0 → ¬ v2 < 0 → vp_in (I 98 v1.toNatClampNeg) 4096)
    (h5 : ¬ s0 = 0 → ¬ v2 < 0 → v2 < (I 93 ((I 98 v1.toNatClampNeg).toNatClampNeg)) → vp_in v1 4096)
    (h6 : ¬ s0 = 0 → ¬ v2 < 0 → v2 < (I 93 ((I 98 v1.toNatClampNeg).toNatClampNeg)) → vp_in (I 98 v1.toNatClampNeg) 4096)
    (h7 : ¬ s0 = 0 → ¬ v2 < 0 → v2 < (I 93 ((I 98 v1.toNatClampNeg).toNatClampNeg)) → Q (some (.int ((((L 91 ((I 98 v1.toNatClampNeg).toNatClampNeg)) >>> (v2.toInt64 &&& 63)) &&& (1 : Int64)).toInt32))) (aw_s I L D))
    (h8 : ¬ s0 = 0 → ¬ v2 < 0 → ¬ v2 < (I 93 ((I 98 v1.toNatClampNeg).toNatClampNeg)) → Q (some (.int (-1 : Int32))) (aw_s I L D)) :
    aw_z X (d + 1) y_M_went Q 10 [some (.ref 69), some (.int v1), some (.int v2)] [.int s0] (aw_s I L D) :=
  (z_if_eq (tgt := 32) d_M_went_10 rfl (fun q1 => (s_M_went_32.go [some (.ref 69), some (.int v1), some (.int v2)] [.int (-1 : Int32)] (aw_s I L D) rfl (z_iret d_M_went_33 rfl rfl (h1 q1)))) (fun q2 => (s_M_went_13.go [some (.ref 69), some (.int v1), some (.int v2)] [.int v2] (aw_s I L D) rfl (z_if_lt (tgt := 32) d_M_went_14 rfl (fun q3 => (s_M_went_32.go [some (.ref 69), some (.int v1), some (.int v2)] [.int (-1 : Int32)] (aw_s I L D) rfl (z_iret d_M_went_33 rfl rfl (h2 q2 q3)))) (fun q4 => (s_M_went_17.go [some (.ref 69), some (.int v1), some (.int v2)] [.int v1, .ref 98, .ref 93, .int v2] (aw_s I L D) rfl (z_iald (n := 4096) rfl (aw_lt (o := 98) rfl) (h3 q2 q4) d_M_went_27 (z_iald (n := 4096) rfl (aw_lt (o := 93) rfl) (h4 q2 q4) d_M_went_28 (z_icmp_lt (tgt := 34) d_M_went_29 rfl (fun q5 => (s_M_went_34.go [some (.ref 69), some (.int v1), some (.int v2)] [.int v1, .ref 98, .ref 91] (aw_s I L D) rfl (z_iald (n := 4096) rfl (aw_lt (o := 98) rfl) (h5 q2 q4 q5) d_M_went_43 (z_lald (n := 4096) rfl (aw_lt (o := 91) rfl) (h6 q2 q4 q5) d_M_went_44 (s_M_went_45.go [some (.ref 69), some (.int v1), some (.int v2)] [.int ((((L 91 ((I 98 v1.toNatClampNeg).toNatClampNeg)) >>> (v2.toInt64 &&& 63)) &&& (1 : Int64)).toInt32)] (aw_s I L D) rfl (z_iret d_M_went_50 rfl rfl (h7 q2 q4 q5))))))) (fun q6 => (s_M_went_32.go [some (.ref 69), some (.int v1), some (.int v2)] [.int (-1 : Int32)] (aw_s I L D) rfl (z_iret d_M_went_33 rfl rfl (h8 q2 q4 q6)))))))))))))
/-! M_along -/
theorem d_M_along_0 : decode y_M_along.2.1 0 = .ok (.aload_n 0, 1) := by decide +kernel
theorem d_M_along_1 : decode y_M_along.2.1 1 = .ok (.iconst 0, 1) := by decide +kernel
theorem d_M_along_2 : decode y_M_along.2.1 2 = .ok (.putfield 160, 3) := by decide +kernel
theorem d_M_along_5 : decode y_M_along.2.1 5 = .ok (.aload_n 0, 1) := by decide +kernel
theorem d_M_along_6 : decode y_M_along.2.1 6 = .ok (.getfield 363, 3) := by decide +kernel
theorem s_M_along_0 : aw_VS y_M_along 0 [o_ald 0, o_c (.int (0 : Int32)), o_putI 9 0, o_ald 0, o_getI 9 36] 9 := .cons (v_aload_n (i := 0) d_M_along_0 rfl) (.cons (v_iconst (v := (0 : Int32)) d_M_along_1 (by decide +kernel)) (.cons (v_putI (k := 0) k_M (by decide) rfl (Or.inl ⟨rfl, Or.inl w_1461⟩) d_M_along_2) (.cons (v_aload_n (i := 0) d_M_along_5 rfl) (.cons (v_getI (k := 36) k_M (by decide) (Or.inr rfl) (Or.inl w_1497) d_M_along_6) .nil))))
theorem d_M_along_9 : decode y_M_along.2.1 9 = .ok (.ifCond .eq (24), 3) := by decide +kernel
theorem d_M_along_33 : decode y_M_along.2.1 33 = .ok (.iconst (-1), 1) := by decide +kernel
theorem s_M_along_33 : aw_VS y_M_along 33 [o_c (.int (-1 : Int32))] 34 := .cons (v_iconst (v := (-1 : Int32)) d_M_along_33 (by decide +kernel)) .nil
theorem d_M_along_34 : decode y_M_along.2.1 34 = .ok (.ireturn, 1) := by decide +kernel
theorem d_M_along_12 : decode y_M_along.2.1 12 = .ok (.iload_n 1, 1) := by decide +kernel
theorem s_M_along_12 : aw_VS y_M_along 12 [o_ild 1] 13 := .cons (v_iload_n (i := 1) d_M_along_12 rfl) .nil
theorem d_M_along_13 : decode y_M_along.2.1 13 = .ok (.ifCond .lt (20), 3) := by decide +kernel
theorem d_M_along_16 : decode y_M_along.2.1 16 = .ok (.iload_n 1, 1) := by decide +kernel
theorem d_M_along_17 : decode y_M_along.2.1 17 = .ok (.aload_n 0, 1) := by decide +kernel
theorem s_M_along_16 : aw_VS y_M_along 16 [o_ild 1, o_ald 0] 18 := .cons (v_iload_n (i := 1) d_M_along_16 rfl) (.cons (v_aload_n (i := 0) d_M_along_17 rfl) .nil)
theorem d_M_along_18 : decode y_M_along.2.1 18 = .ok (.invokevirtual 423, 3) := by decide +kernel
theorem b_M_along_0 {X : aw_X} {d : Nat} {Q : Option Value → aw_H → Prop} {I : Nat → Nat → Int32} {L : Nat → Nat → Int64} {D : Nat → Nat} {v1 : Int32}
    (h1 : (I 69 36) = 0 → Q (some (.int (-1 : Int32))) (aw_s (aw_u I 69 0 (0 : Int32)) L D))
    (h2 : ¬ (I 69 36) = 0 → v1 < 0 → Q (some (.int (-1 : Int32))) (aw_s (aw_u I 69 0 (0 : Int32)) L D))
    (h3 : ¬ (I 69 36) = 0 → ¬ v1 < 0 → aw_m X d y_M_rows [.ref 69] (aw_s (aw_u I 69 0 (0 : Int32)) L D) (fun r A => aw_z X (d + 1) y_M_along Q 21 [some (.ref 69), some (.int v1)] (r.toList ++ [.int v1]) A)) :
    aw_z X (d + 1) y_M_along Q 0 [some (.ref 69), some (.int v1)] [] (aw_s I L D) :=
  (s_M_along_0.go [some (.ref 69), some (.int v1)] [.int (I 69 36)] (aw_s (aw_u I 69 0 (0 : Int32)) L D) rfl (z_if_eq (tgt := 33) d_M_along_9 rfl (fun q1 => (s_M_along_33.go [some (.ref 69), some (.int v1)] [.int (-1 : Int32)] (aw_s (aw_u I 69 0 (0 : Int32)) L D) rfl (z_iret d_M_along_34 rfl rfl (h1 q1)))) (fun q2 => (s_M_along_12.go [some (.ref 69), some (.int v1)] [.int v1] (aw_s (aw_u I 69 0 (0 : Int32)) L D) rfl (z_if_lt (tgt := 33) d_M_along_13 rfl (fun q3 => (s_M_along_33.go [some (.ref 69), some (.int v1)] [.int (-1 : Int32)] (aw_s (aw_u I 69 0 (0 : Int32)) L D) rfl (z_iret d_M_along_34 rfl rfl (h2 q2 q3)))) (fun q4 => (s_M_along_16.go [some (.ref 69), some (.int v1)] [.ref 69, .int v1] (aw_s (aw_u I 69 0 (0 : Int32)) L D) rfl (z_callV (av := []) (st := [.int v1]) ok_M_rows (Or.inl w_1915) w_1917 w_105 k_M d_M_along_18 rfl (aw_lt (o := 69) rfl) rfl rfl (Nat.le_of_ble_eq_true rfl) (Nat.le_refl _) (Nat.le_refl _) (h3 q2 q4)))))))))
theorem d_M_along_21 : decode y_M_along.2.1 21 = .ok (.if_icmp .ge (12), 3) := by decide +kernel
theorem d_M_along_24 : decode y_M_along.2.1 24 = .ok (.aload_n 0, 1) := by decide +kernel
theorem d_M_along_25 : decode y_M_along.2.1 25 = .ok (.getfield 100, 3) := by decide +kernel
theorem d_M_along_28 : decode y_M_along.2.1 28 = .ok (.iload_n 1, 1) := by decide +kernel
theorem s_M_along_24 : aw_VS y_M_along 24 [o_ald 0, o_getA 9 57, o_ild 1] 29 := .cons (v_aload_n (i := 0) d_M_along_24 rfl) (.cons (v_getA (k := 57) k_M (by decide) rfl (Or.inl w_1518) d_M_along_25) (.cons (v_iload_n (i := 1) d_M_along_28 rfl) .nil))
theorem d_M_along_29 : decode y_M_along.2.1 29 = .ok (.iaload, 1) := by decide +kernel
theorem d_M_along_30 : decode y_M_along.2.1 30 = .ok (.goto (4), 3) := by decide +kernel
theorem b_M_along_21 {X : aw_X} {d : Nat} {Q : Option Value → aw_H → Prop} {I : Nat → Nat → Int32} {L : Nat → Nat → Int64} {D : Nat → Nat} {v1 : Int32} {s1 : Int32} {s0 : Int32}
    (h1 : s1 ≤ s0 → Q (some (.int (-1 : Int32))) (aw_s I L D))
    (h2 : ¬ s1 ≤ s0 → vp_in v1 4096)
    (h3 : ¬ s1 ≤ s0 → Q (some (.int (I 97 v1.toNatClampNeg))) (aw_s I L D)) :
    aw_z X (d + 1) y_M_along Q 21 [some (.ref 69), some (.int v1)] [.int s1, .int s0] (aw_s I L D) :=
  (z_icmp_ge (tgt := 33) d_M_along_21 rfl (fun q1 => (s_M_along_33.go [some (.ref 69), some (.int v1)] [.int (-1 : Int32)] (aw_s I L D) rfl (z_iret d_M_along_34 rfl rfl (h1 q1)))) (fun q2 => (s_M_along_24.go [some (.ref 69), some (.int v1)] [.int v1, .ref 97] (aw_s I L D) rfl (z_iald (n := 4096) rfl (aw_lt (o := 97) rfl) (h2 q2) d_M_along_29 (z_goto (tgt := 34) d_M_along_30 rfl (z_iret d_M_along_34 rfl rfl (h3 q2)))))))
/-! M_least -/
theorem d_M_least_0 : decode y_M_least.2.1 0 = .ok (.aload_n 0, 1) := by decide +kernel
theorem d_M_least_1 : decode y_M_least.2.1 1 = .ok (.iconst 0, 1) := by decide +kernel
theorem d_M_least_2 : decode y_M_least.2.1 2 = .ok (.putfield 160, 3) := by decide +kernel
theorem d_M_least_5 : decode y_M_least.2.1 5 = .ok (.aload_n 0, 1) := by decide +kernel
theorem d_M_least_6 : decode y_M_least.2.1 6 = .ok (.getfield 363, 3) := by decide +kernel
theorem s_M_least_0 : aw_VS y_M_least 0 [o_ald 0, o_c (.int (0 : Int32)), o_putI 9 0, o_ald 0, o_getI 9 36] 9 := .cons (v_aload_n (i := 0) d_M_least_0 rfl) (.cons (v_iconst (v := (0 : Int32)) d_M_least_1 (by decide +kernel)) (.cons (v_putI (k := 0) k_M (by decide) rfl (Or.inl ⟨rfl, Or.inl w_1461⟩) d_M_least_2) (.cons (v_aload_n (i := 0) d_M_least_5 rfl) (.cons (v_getI (k := 36) k_M (by decide) (Or.inr rfl) (Or.inl w_1497) d_M_least_6) .nil))))
theorem d_M_least_9 : decode y_M_least.2.1 9 = .ok (.ifCond .eq (12), 3) := by decide +kernel
theorem d_M_least_21 : decode y_M_least.2.1 21 = .ok (.iconst (-1), 1) := by decide +kernel
theorem s_M_least_21 : aw_VS y_M_least 21 [o_c (.int (-1 : Int32))] 22 := .cons (v_iconst (v := (-1 : Int32)) d_M_least_21 (by decide +kernel)) .nil
theorem d_M_least_22 : decode y_M_least.2.1 22 = .ok (.ireturn, 1) := by decide +kernel
theorem d_M_least_12 : decode y_M_least.2.1 12 = .ok (.iload_n 1, 1) := by decide +kernel
theorem d_M_least_13 : decode y_M_least.2.1 13 = .ok (.iconst 0, 1) := by decide +kernel
theorem d_M_least_14 : decode y_M_least.2.1 14 = .ok (.iconst 5, 1) := by decide +kernel
theorem s_M_least_12 : aw_VS y_M_least 12 [o_ild 1, o_c (.int (0 : Int32)), o_c (.int (5 : Int32))] 15 := .cons (v_iload_n (i := 1) d_M_least_12 rfl) (.cons (v_iconst (v := (0 : Int32)) d_M_least_13 (by decide +kernel)) (.cons (v_iconst (v := (5 : Int32)) d_M_least_14 (by decide +kernel)) .nil))
theorem d_M_least_15 : decode y_M_least.2.1 15 = .ok (.invokestatic 234, 3) := by decide +kernel
theorem b_M_least_0 {X : aw_X} {d : Nat} {Q : Option Value → aw_H → Prop} {I : Nat → Nat → Int32} {L : Nat → Nat → Int64} {D : Nat → Nat} {v1 : Int32} {v2 : Int32}
    (h1 : (I 69 36) = 0 → Q (some (.int (-1 : Int32))) (aw_s (aw_u I 69 0 (0 : Int32)) L D))
    (h2 : ¬ (I 69 36) = 0 → aw_m X d y_M_isIn [.int v1, .int (0 : Int32), .int (5 : Int32)] (aw_s (aw_u I 69 0 (0 : Int32)) L D) (fun r A => aw_z X (d + 1) y_M_least Q 18 [some (.ref 69), some (.int v1), some (.int v2), none] (r.toList ++ []) A)) :
    aw_z X (d + 1) y_M_least Q 0 [some (.ref 69), some (.int v1), some (.int v2), none] [] (aw_s I L D) :=
  (s_M_least_0.go [some (.ref 69), some (.int v1), some (.int v2), none] [.int (I 69 36)] (aw_s (aw_u I 69 0 (0 : Int32)) L D) rfl (z_if_eq (tgt := 21) d_M_least_9 rfl (fun q1 => (s_M_least_21.go [some (.ref 69), some (.int v1), some (.int v2), none] [.int (-1 : Int32)] (aw_s (aw_u I 69 0 (0 : Int32)) L D) rfl (z_iret d_M_least_22 rfl rfl (h1 q1)))) (fun q2 => (s_M_least_12.go [some (.ref 69), some (.int v1), some (.int v2), none] [.int (5 : Int32), .int (0 : Int32), .int v1] (aw_s (aw_u I 69 0 (0 : Int32)) L D) rfl (z_callS (av := [.int v1, .int (0 : Int32), .int (5 : Int32)]) (st := []) ok_M_isIn (Or.inl w_1873) w_1874 d_M_least_15 rfl rfl (Nat.le_of_ble_eq_true rfl) (Nat.le_refl _) (Nat.le_refl _) (h2 q2))))))
theorem d_M_least_18 : decode y_M_least.2.1 18 = .ok (.ifCond .ne (5), 3) := by decide +kernel
theorem d_M_least_23 : decode y_M_least.2.1 23 = .ok (.iconst 0, 1) := by decide +kernel
theorem d_M_least_24 : decode y_M_least.2.1 24 = .ok (.istore_n 3, 1) := by decide +kernel
theorem s_M_least_23 : aw_VS y_M_least 23 [o_c (.int (0 : Int32)), o_ist 3] 25 := .cons (v_iconst (v := (0 : Int32)) d_M_least_23 (by decide +kernel)) (.cons (v_istore_n d_M_least_24) .nil)
theorem b_M_least_18 {X : aw_X} {d : Nat} {Q : Option Value → aw_H → Prop} {I : Nat → Nat → Int32} {L : Nat → Nat → Int64} {D : Nat → Nat} {v1 : Int32} {v2 : Int32} {s0 : Int32}
    (h1 : ¬ s0 = 0 → aw_z X (d + 1) y_M_least Q 25 [some (.ref 69), some (.int v1), some (.int v2), some (.int (0 : Int32))] [] (aw_s I L D))
    (h2 : s0 = 0 → Q (some (.int (-1 : Int32))) (aw_s I L D)) :
    aw_z X (d + 1) y_M_least Q 18 [some (.ref 69), some (.int v1), some (.int v2), none] [.int s0] (aw_s I L D) :=
  (z_if_ne (tgt := 23) d_M_least_18 rfl (fun q1 => (s_M_least_23.go [some (.ref 69), some (.int v1), some (.int v2), some (.int (0 : Int32))] [] (aw_s I L D) rfl (h1 q1))) (fun q2 => (s_M_least_21.go [some (.ref 69), some (.int v1), some (.int v2), none] [.int (-1 : Int32)] (aw_s I L D) rfl (z_iret d_M_least_22 rfl rfl (h2 q2)))))
theorem d_M_least_25 : decode y_M_least.2.1 25 = .ok (.iload_n 3, 1) := by decide +kernel
theorem d_M_least_26 : decode y_M_least.2.1 26 = .ok (.aload_n 0, 1) := by decide +kernel
theorem s_M_least_25 : aw_VS y_M_least 25 [o_ild 3, o_ald 0] 27 := .cons (v_iload_n (i := 3) d_M_least_25 rfl) (.cons (v_aload_n (i := 0) d_M_least_26 rfl) .nil)
theorem d_M_least_27 : decode y_M_least.2.1 27 = .ok (.invokevirtual 423, 3) := by decide +kernel
theorem b_M_least_25 {X : aw_X} {d : Nat} {Q : Option Value → aw_H → Prop} {I : Nat → Nat → Int32} {L : Nat → Nat → Int64} {D : Nat → Nat} {v1 : Int32} {v2 : Int32} {v3 : Int32}
    (h1 : aw_m X d y_M_rows [.ref 69] (aw_s I L D) (fun r A => aw_z X (d + 1) y_M_least Q 30 [some (.ref 69), some (.int v1), some (.int v2), some (.int v3)] (r.toList ++ [.int v3]) A)) :
    aw_z X (d + 1) y_M_least Q 25 [some (.ref 69), some (.int v1), some (.int v2), some (.int v3)] [] (aw_s I L D) :=
  (s_M_least_25.go [some (.ref 69), some (.int v1), some (.int v2), some (.int v3)] [.ref 69, .int v3] (aw_s I L D) rfl (z_callV (av := []) (st := [.int v3]) ok_M_rows (Or.inl w_1915) w_1917 w_105 k_M d_M_least_27 rfl (aw_lt (o := 69) rfl) rfl rfl (Nat.le_of_ble_eq_true rfl) (Nat.le_refl _) (Nat.le_refl _) (h1)))
theorem d_M_least_30 : decode y_M_least.2.1 30 = .ok (.if_icmp .ge (36), 3) := by decide +kernel
theorem d_M_least_66 : decode y_M_least.2.1 66 = .ok (.iconst (-1), 1) := by decide +kernel
theorem s_M_least_66 : aw_VS y_M_least 66 [o_c (.int (-1 : Int32))] 67 := .cons (v_iconst (v := (-1 : Int32)) d_M_least_66 (by decide +kernel)) .nil
theorem d_M_least_67 : decode y_M_least.2.1 67 = .ok (.ireturn, 1) := by decide +kernel
theorem d_M_least_33 : decode y_M_least.2.1 33 = .ok (.aload_n 0, 1) := by decide +kernel
theorem d_M_least_34 : decode y_M_least.2.1 34 = .ok (.getfield 94, 3) := by decide +kernel
theorem d_M_least_37 : decode y_M_least.2.1 37 = .ok (.iload_n 3, 1) := by decide +kernel
theorem s_M_least_33 : aw_VS y_M_least 33 [o_ald 0, o_getA 9 55, o_ild 3] 38 := .cons (v_aload_n (i := 0) d_M_least_33 rfl) (.cons (v_getA (k := 55) k_M (by decide) rfl (Or.inl w_1516) d_M_least_34) (.cons (v_iload_n (i := 3) d_M_least_37 rfl) .nil))
theorem d_M_least_38 : decode y_M_least.2.1 38 = .ok (.iaload, 1) := by decide +kernel
theorem d_M_least_39 : decode y_M_least.2.1 39 = .ok (.iload_n 1, 1) := by decide +kernel
theorem s_M_least_39 : aw_VS y_M_least 39 [o_ild 1] 40 := .cons (v_iload_n (i := 1) d_M_least_39 rfl) .nil
theorem d_M_least_40 : decode y_M_least.2.1 40 = .ok (.if_icmp .ne (20), 3) := by decide +kernel
theorem d_M_least_60 : decode y_M_least.2.1 60 = .ok (.iinc 3 (1), 3) := by decide +kernel
theorem s_M_least_60 : aw_VS y_M_least 60 [o_inc 3 (1 : Int32)] 63 := .cons (v_iinc (k0 := (1 : Int32)) d_M_least_60 (by decide +kernel)) .nil
theorem d_M_least_63 : decode y_M_least.2.1 63 = .ok (.goto (-38), 3) := by decide +kernel
theorem d_M_least_43 : decode y_M_least.2.1 43 = .ok (.iload_n 2, 1) := by decide +kernel
theorem d_M_least_44 : decode y_M_least.2.1 44 = .ok (.iconst (-1), 1) := by decide +kernel
theorem s_M_least_43 : aw_VS y_M_least 43 [o_ild 2, o_c (.int (-1 : Int32))] 45 := .cons (v_iload_n (i := 2) d_M_least_43 rfl) (.cons (v_iconst (v := (-1 : Int32)) d_M_least_44 (by decide +kernel)) .nil)
theorem d_M_least_45 : decode y_M_least.2.1 45 = .ok (.if_icmp .eq (13), 3) := by decide +kernel
theorem d_M_least_58 : decode y_M_least.2.1 58 = .ok (.iload_n 3, 1) := by decide +kernel
theorem s_M_least_58 : aw_VS y_M_least 58 [o_ild 3] 59 := .cons (v_iload_n (i := 3) d_M_least_58 rfl) .nil
theorem d_M_least_59 : decode y_M_least.2.1 59 = .ok (.ireturn, 1) := by decide +kernel
theorem d_M_least_48 : decode y_M_least.2.1 48 = .ok (.aload_n 0, 1) := by decide +kernel
theorem d_M_least_49 : decode y_M_least.2.1 49 = .ok (.getfield 97, 3) := by decide +kernel
theorem d_M_least_52 : decode y_M_least.2.1 52 = .ok (.iload_n 3, 1) := by decide +kernel
theorem s_M_least_48 : aw_VS y_M_least 48 [o_ald 0, o_getA 9 56, o_ild 3] 53 := .cons (v_aload_n (i := 0) d_M_least_48 rfl) (.cons (v_getA (k := 56) k_M (by decide) rfl (Or.inl w_1517) d_M_least_49) (.cons (v_iload_n (i := 3) d_M_least_52 rfl) .nil))
theorem d_M_least_53 : decode y_M_least.2.1 53 = .ok (.iaload, 1) := by decide +kernel
theorem d_M_least_54 : decode y_M_least.2.1 54 = .ok (.iload_n 2, 1) := by decide +kernel
theorem s_M_least_54 : aw_VS y_M_least 54 [o_ild 2] 55 := .cons (v_iload_n (i := 2) d_M_least_54 rfl) .nil
theorem d_M_least_55 : decode y_M_least.2.1 55 = .ok (.if_icmp .ne (5), 3) := by decide +kernel
theorem b_M_least_30 {X : aw_X} {d : Nat} {Q : Option Value → aw_H → Prop} {I : Nat → Nat → Int32} {L : Nat → Nat → Int64} {D : Nat → Nat} {v1 : Int32} {v2 : Int32} {v3 : Int32} {s1 : Int32} {s0 : Int32}
    (h1 : s1 ≤ s0 → Q (some (.int (-1 : Int32))) (aw_s I L D))
    (h2 : ¬ s1 ≤ s0 → vp_in v3 4096)
    (h3 : ¬ s1 ≤ s0 → ¬ (I 95 v3.toNatClampNeg) = v1 → aw_z X (d + 1) y_M_least Q 25 [some (.ref 69), some (.int v1), some (.int v2), some (.int (v3 + (1 : Int32)))] [] (aw_s I L D))
    (h4 : ¬ s1 ≤ s0 → (I 95 v3.toNatClampNeg) = v1 → v2 = (-1 : Int32) → Q (some (.int v3)) (aw_s I L D))
    (h5 : ¬ s1 ≤ s0 → (I 95 v3.toNatClampNeg) = v1 → ¬ v2 = (-1 : Int32) → vp_in v3 4096)
    (h6 : ¬ s1 ≤ s0 → (I 95 v3.toNatClampNeg) = v1 → ¬ v2 = (-1 : Int32) → ¬ (I 96 v3.toNatClampNeg) = v2 → aw_z X (d + 1) y_M_least Q 25 [some (.ref 69), some (.int v1), some (.int v2), some (.int (v3 + (1 : Int32)))] [] (aw_s I L D))
    (h7 : ¬ s1 ≤ s0 → (I 95 v3.toNatClampNeg) = v1 → ¬ v2 = (-1 : Int32) → (I 96 v3.toNatClampNeg) = v2 → Q (some (.int v3)) (aw_s I L D)) :
    aw_z X (d + 1) y_M_least Q 30 [some (.ref 69), some (.int v1), some (.int v2), some (.int v3)] [.int s1, .int s0] (aw_s I L D) :=
  (z_icmp_ge (tgt := 66) d_M_least_30 rfl (fun q1 => (s_M_least_66.go [some (.ref 69), some (.int v1), some (.int v2), some (.int v3)] [.int (-1 : Int32)] (aw_s I L D) rfl (z_iret d_M_least_67 rfl rfl (h1 q1)))) (fun q2 => (s_M_least_33.go [some (.ref 69), some (.int v1), some (.int v2), some (.int v3)] [.int v3, .ref 95] (aw_s I L D) rfl (z_iald (n := 4096) rfl (aw_lt (o := 95) rfl) (h2 q2) d_M_least_38 (s_M_least_39.go [some (.ref 69), some (.int v1), some (.int v2), some (.int v3)] [.int v1, .int (I 95 v3.toNatClampNeg)] (aw_s I L D) rfl (z_icmp_ne (tgt := 60) d_M_least_40 rfl (fun q3 => (s_M_least_60.go [some (.ref 69), some (.int v1), some (.int v2), some (.int (v3 + (1 : Int32)))] [] (aw_s I L D) rfl (z_goto (tgt := 25) d_M_least_63 rfl (h3 q2 q3)))) (fun q4 => (s_M_least_43.go [some (.ref 69), some (.int v1), some (.int v2), some (.int v3)] [.int (-1 : Int32), .int v2] (aw_s I L D) rfl (z_icmp_eq (tgt := 58) d_M_least_45 rfl (fun q5 => (s_M_least_58.go [some (.ref 69), some (.int v1), some (.int v2), some (.int v3)] [.int v3] (aw_s I L D) rfl (z_iret d_M_least_59 rfl rfl (h4 q2 q4 q5)))) (fun q6 => (s_M_least_48.go [some (.ref 69), some (.int v1), some (.int v2), some (.int v3)] [.int v3, .ref 96] (aw_s I L D) rfl (z_iald (n := 4096) rfl (aw_lt (o := 96) rfl) (h5 q2 q4 q6) d_M_least_53 (s_M_least_54.go [some (.ref 69), some (.int v1), some (.int v2), some (.int v3)] [.int v2, .int (I 96 v3.toNatClampNeg)] (aw_s I L D) rfl (z_icmp_ne (tgt := 60) d_M_least_55 rfl (fun q7 => (s_M_least_60.go [some (.ref 69), some (.int v1), some (.int v2), some (.int (v3 + (1 : Int32)))] [] (aw_s I L D) rfl (z_goto (tgt := 25) d_M_least_63 rfl (h6 q2 q4 q6 q7)))) (fun q8 => (s_M_least_58.go [some (.ref 69), some (.int v1), some (.int v2), some (.int v3)] [.int v3] (aw_s I L D) rfl (z_iret d_M_least_59 rfl rfl (h7 q2 q4 q6 q8))))))))))))))))))
/-! M_may -/
theorem d_M_may_0 : decode y_M_may.2.1 0 = .ok (.aload_n 0, 1) := by decide +kernel
theorem d_M_may_1 : decode y_M_may.2.1 1 = .ok (.iconst 0, 1) := by decide +kernel
theorem d_M_may_2 : decode y_M_may.2.1 2 = .ok (.putfield 160, 3) := by decide +kernel
theorem d_M_may_5 : decode y_M_may.2.1 5 = .ok (.aload_n 0, 1) := by decide +kernel
theorem d_M_may_6 : decode y_M_may.2.1 6 = .ok (.iload_n 1, 1) := by decide +kernel
theorem s_M_may_0 : aw_VS y_M_may 0 [o_ald 0, o_c (.int (0 : Int32)), o_putI 9 0, o_ald 0, o_ild 1] 7 := .cons (v_aload_n (i := 0) d_M_may_0 rfl) (.cons (v_iconst (v := (0 : Int32)) d_M_may_1 (by decide +kernel)) (.cons (v_putI (k := 0) k_M (by decide) rfl (Or.inl ⟨rfl, Or.inl w_1461⟩) d_M_may_2) (.cons (v_aload_n (i := 0) d_M_may_5 rfl) (.cons (v_iload_n (i := 1) d_M_may_6 rfl) .nil))))
theorem d_M_may_7 : decode y_M_may.2.1 7 = .ok (.invokevirtual 451, 3) := by decide +kernel
theorem b_M_may_0 {X : aw_X} {d : Nat} {Q : Option Value → aw_H → Prop} {I : Nat → Nat → Int32} {L : Nat → Nat → Int64} {D : Nat → Nat} {v1 : Int32} {v2 : Int32} {v3 : Int32}
    (h1 : aw_m X d y_M_isBegun [.ref 69, .int v1] (aw_s (aw_u I 69 0 (0 : Int32)) L D) (fun r A => aw_z X (d + 1) y_M_may Q 10 [some (.ref 69), some (.int v1), some (.int v2), some (.int v3), none, none, none, none, none, none] (r.toList ++ []) A)) :
    aw_z X (d + 1) y_M_may Q 0 [some (.ref 69), some (.int v1), some (.int v2), some (.int v3), none, none, none, none, none, none] [] (aw_s I L D) :=
  (s_M_may_0.go [some (.ref 69), some (.int v1), some (.int v2), some (.int v3), none, none, none, none, none, none] [.int v1, .ref 69] (aw_s (aw_u I 69 0 (0 : Int32)) L D) rfl (z_callV (av := [.int v1]) (st := []) ok_M_isBegun (Or.inl w_1995) w_1997 w_120 k_M d_M_may_7 rfl (aw_lt (o := 69) rfl) rfl rfl (Nat.le_of_ble_eq_true rfl) (Nat.le_refl _) (Nat.le_refl _) (h1)))
theorem d_M_may_10 : decode y_M_may.2.1 10 = .ok (.ifCond .eq (22), 3) := by decide +kernel
theorem d_M_may_32 : decode y_M_may.2.1 32 = .ok (.iconst (-1), 1) := by decide +kernel
theorem s_M_may_32 : aw_VS y_M_may 32 [o_c (.int (-1 : Int32))] 33 := .cons (v_iconst (v := (-1 : Int32)) d_M_may_32 (by decide +kernel)) .nil
theorem d_M_may_33 : decode y_M_may.2.1 33 = .ok (.ireturn, 1) := by decide +kernel
theorem d_M_may_13 : decode y_M_may.2.1 13 = .ok (.iload_n 2, 1) := by decide +kernel
theorem d_M_may_14 : decode y_M_may.2.1 14 = .ok (.iconst 0, 1) := by decide +kernel
theorem d_M_may_15 : decode y_M_may.2.1 15 = .ok (.bipush 7, 2) := by decide +kernel
theorem s_M_may_13 : aw_VS y_M_may 13 [o_ild 2, o_c (.int (0 : Int32)), o_c (.int (7 : Int32))] 17 := .cons (v_iload_n (i := 2) d_M_may_13 rfl) (.cons (v_iconst (v := (0 : Int32)) d_M_may_14 (by decide +kernel)) (.cons (v_bipush (v := (7 : Int32)) d_M_may_15 (by decide +kernel)) .nil))
theorem d_M_may_17 : decode y_M_may.2.1 17 = .ok (.invokestatic 234, 3) := by decide +kernel
theorem b_M_may_10 {X : aw_X} {d : Nat} {Q : Option Value → aw_H → Prop} {I : Nat → Nat → Int32} {L : Nat → Nat → Int64} {D : Nat → Nat} {v1 : Int32} {v2 : Int32} {v3 : Int32} {s0 : Int32}
    (h1 : s0 = 0 → Q (some (.int (-1 : Int32))) (aw_s I L D))
    (h2 : ¬ s0 = 0 → aw_m X d y_M_isIn [.int v2, .int (0 : Int32), .int (7 : Int32)] (aw_s I L D) (fun r A => aw_z X (d + 1) y_M_may Q 20 [some (.ref 69), some (.int v1), some (.int v2), some (.int v3), none, none, none, none, none, none] (r.toList ++ []) A)) :
    aw_z X (d + 1) y_M_may Q 10 [some (.ref 69), some (.int v1), some (.int v2), some (.int v3), none, none, none, none, none, none] [.int s0] (aw_s I L D) :=
  (z_if_eq (tgt := 32) d_M_may_10 rfl (fun q1 => (s_M_may_32.go [some (.ref 69), some (.int v1), some (.int v2), some (.int v3), none, none, none, none, none, none] [.int (-1 : Int32)] (aw_s I L D) rfl (z_iret d_M_may_33 rfl rfl (h1 q1)))) (fun q2 => (s_M_may_13.go [some (.ref 69), some (.int v1), some (.int v2), some (.int v3), none, none, none, none, none, none] [.int (7 : Int32), .int (0 : Int32), .int v2] (aw_s I L D) rfl (z_callS (av := [.int v2, .int (0 : Int32), .int (7 : Int32)]) (st := []) ok_M_isIn (Or.inl w_1873) w_1874 d_M_may_17 rfl rfl (Nat.le_of_ble_eq_true rfl) (Nat.le_refl _) (Nat.le_refl _) (h2 q2)))))
theorem d_M_may_20 : decode y_M_may.2.1 20 = .ok (.ifCond .eq (12), 3) := by decide +kernel
theorem d_M_may_23 : decode y_M_may.2.1 23 = .ok (.iload_n 3, 1) := by decide +kernel
theorem d_M_may_24 : decode y_M_may.2.1 24 = .ok (.iconst 0, 1) := by decide +kernel
theorem d_M_may_25 : decode y_M_may.2.1 25 = .ok (.iconst 2, 1) := by decide +kernel
theorem s_M_may_23 : aw_VS y_M_may 23 [o_ild 3, o_c (.int (0 : Int32)), o_c (.int (2 : Int32))] 26 := .cons (v_iload_n (i := 3) d_M_may_23 rfl) (.cons (v_iconst (v := (0 : Int32)) d_M_may_24 (by decide +kernel)) (.cons (v_iconst (v := (2 : Int32)) d_M_may_25 (by decide +kernel)) .nil))
theorem d_M_may_26 : decode y_M_may.2.1 26 = .ok (.invokestatic 234, 3) := by decide +kernel
theorem b_M_may_20 {X : aw_X} {d : Nat} {Q : Option Value → aw_H → Prop} {I : Nat → Nat → Int32} {L : Nat → Nat → Int64} {D : Nat → Nat} {v1 : Int32} {v2 : Int32} {v3 : Int32} {s0 : Int32}
    (h1 : s0 = 0 → Q (some (.int (-1 : Int32))) (aw_s I L D))
    (h2 : ¬ s0 = 0 → aw_m X d y_M_isIn [.int v3, .int (0 : Int32), .int (2 : Int32)] (aw_s I L D) (fun r A => aw_z X (d + 1) y_M_may Q 29 [some (.ref 69), some (.int v1), some (.int v2), some (.int v3), none, none, none, none, none, none] (r.toList ++ []) A)) :
    aw_z X (d + 1) y_M_may Q 20 [some (.ref 69), some (.int v1), some (.int v2), some (.int v3), none, none, none, none, none, none] [.int s0] (aw_s I L D) :=
  (z_if_eq (tgt := 32) d_M_may_20 rfl (fun q1 => (s_M_may_32.go [some (.ref 69), some (.int v1), some (.int v2), some (.int v3), none, none, none, none, none, none] [.int (-1 : Int32)] (aw_s I L D) rfl (z_iret d_M_may_33 rfl rfl (h1 q1)))) (fun q2 => (s_M_may_23.go [some (.ref 69), some (.int v1), some (.int v2), some (.int v3), none, none, none, none, none, none] [.int (2 : Int32), .int (0 : Int32), .int v3] (aw_s I L D) rfl (z_callS (av := [.int v3, .int (0 : Int32), .int (2 : Int32)]) (st := []) ok_M_isIn (Or.inl w_1873) w_1874 d_M_may_26 rfl rfl (Nat.le_of_ble_eq_true rfl) (Nat.le_refl _) (Nat.le_refl _) (h2 q2)))))
theorem d_M_may_29 : decode y_M_may.2.1 29 = .ok (.ifCond .ne (5), 3) := by decide +kernel
theorem d_M_may_34 : decode y_M_may.2.1 34 = .ok (.aload_n 0, 1) := by decide +kernel
theorem d_M_may_35 : decode y_M_may.2.1 35 = .ok (.getfield 75, 3) := by decide +kernel
theorem d_M_may_38 : decode y_M_may.2.1 38 = .ok (.bipush 8, 2) := by decide +kernel
theorem d_M_may_40 : decode y_M_may.2.1 40 = .ok (.iload_n 1, 1) := by decide +kernel
theorem d_M_may_41 : decode y_M_may.2.1 41 = .ok (.imul, 1) := by decide +kernel
theorem d_M_may_42 : decode y_M_may.2.1 42 = .ok (.iload_n 2, 1) := by decide +kernel
theorem d_M_may_43 : decode y_M_may.2.1 43 = .ok (.iadd, 1) := by decide +kernel
theorem s_M_may_34 : aw_VS y_M_may 34 [o_ald 0, o_getA 9 49, o_c (.int (8 : Int32)), o_ild 1, o_i2 (fun x z => x * z), o_ild 2, o_i2 (fun x z => x + z)] 44 := .cons (v_aload_n (i := 0) d_M_may_34 rfl) (.cons (v_getA (k := 49) k_M (by decide) rfl (Or.inl w_1510) d_M_may_35) (.cons (v_bipush (v := (8 : Int32)) d_M_may_38 (by decide +kernel)) (.cons (v_iload_n (i := 1) d_M_may_40 rfl) (.cons (v_imul d_M_may_41) (.cons (v_iload_n (i := 2) d_M_may_42 rfl) (.cons (v_iadd d_M_may_43) .nil))))))
theorem d_M_may_44 : decode y_M_may.2.1 44 = .ok (.laload, 1) := by decide +kernel
theorem d_M_may_45 : decode y_M_may.2.1 45 = .ok (.lstore 4, 2) := by decide +kernel
theorem d_M_may_47 : decode y_M_may.2.1 47 = .ok (.iconst 0, 1) := by decide +kernel
theorem d_M_may_48 : decode y_M_may.2.1 48 = .ok (.istore 6, 2) := by decide +kernel
theorem d_M_may_50 : decode y_M_may.2.1 50 = .ok (.iconst (-1), 1) := by decide +kernel
theorem d_M_may_51 : decode y_M_may.2.1 51 = .ok (.istore 7, 2) := by decide +kernel
theorem d_M_may_53 : decode y_M_may.2.1 53 = .ok (.iconst (-1), 1) := by decide +kernel
theorem d_M_may_54 : decode y_M_may.2.1 54 = .ok (.istore 8, 2) := by decide +kernel
theorem d_M_may_56 : decode y_M_may.2.1 56 = .ok (.iconst 0, 1) := by decide +kernel
theorem d_M_may_57 : decode y_M_may.2.1 57 = .ok (.istore 9, 2) := by decide +kernel
theorem s_M_may_45 : aw_VS y_M_may 45 [o_lst 4, o_c (.int (0 : Int32)), o_ist 6, o_c (.int (-1 : Int32)), o_ist 7, o_c (.int (-1 : Int32)), o_ist 8, o_c (.int (0 : Int32)), o_ist 9] 59 := .cons (v_lstore d_M_may_45) (.cons (v_iconst (v := (0 : Int32)) d_M_may_47 (by decide +kernel)) (.cons (v_istore d_M_may_48) (.cons (v_iconst (v := (-1 : Int32)) d_M_may_50 (by decide +kernel)) (.cons (v_istore d_M_may_51) (.cons (v_iconst (v := (-1 : Int32)) d_M_may_53 (by decide +kernel)) (.cons (v_istore d_M_may_54) (.cons (v_iconst (v := (0 : Int32)) d_M_may_56 (by decide +kernel)) (.cons (v_istore d_M_may_57) .nil))))))))
theorem b_M_may_29 {X : aw_X} {d : Nat} {Q : Option Value → aw_H → Prop} {I : Nat → Nat → Int32} {L : Nat → Nat → Int64} {D : Nat → Nat} {v1 : Int32} {v2 : Int32} {v3 : Int32} {s0 : Int32}
    (h1 : ¬ s0 = 0 → vp_in (((8 : Int32) * v1) + v2) 480)
    (h2 : ¬ s0 = 0 → aw_z X (d + 1) y_M_may Q 59 [none, none, none, some (.int v3), some (.long (L 89 ((((8 : Int32) * v1) + v2).toNatClampNeg))), none, some (.int (0 : Int32)), some (.int (-1 : Int32)), some (.int (-1 : Int32)), some (.int (0 : Int32))] [] (aw_s I L D))
    (h3 : s0 = 0 → Q (some (.int (-1 : Int32))) (aw_s I L D)) :
    aw_z X (d + 1) y_M_may Q 29 [some (.ref 69), some (.int v1), some (.int v2), some (.int v3), none, none, none, none, none, none] [.int s0] (aw_s I L D) :=
  (z_if_ne (tgt := 34) d_M_may_29 rfl (fun q1 => (s_M_may_34.go [some (.ref 69), some (.int v1), some (.int v2), some (.int v3), none, none, none, none, none, none] [.int (((8 : Int32) * v1) + v2), .ref 89] (aw_s I L D) rfl (z_lald (n := 480) rfl (aw_lt (o := 89) rfl) (h1 q1) d_M_may_44 (s_M_may_45.go [some (.ref 69), some (.int v1), some (.int v2), some (.int v3), some (.long (L 89 ((((8 : Int32) * v1) + v2).toNatClampNeg))), none, some (.int (0 : Int32)), some (.int (-1 : Int32)), some (.int (-1 : Int32)), some (.int (0 : Int32))] [] (aw_s I L D) rfl (aw_Z.weak (ls' := [none, none, none, some (.int v3), some (.long (L 89 ((((8 : Int32) * v1) + v2).toNatClampNeg))), none, some (.int (0 : Int32)), some (.int (-1 : Int32)), some (.int (-1 : Int32)), some (.int (0 : Int32))]) (h2 q1) (Nat.le_of_ble_eq_true rfl) ⟨Or.inl rfl, ⟨Or.inl rfl, ⟨Or.inl rfl, ⟨Or.inr rfl, ⟨Or.inr rfl, ⟨Or.inl rfl, ⟨Or.inr rfl, ⟨Or.inr rfl, ⟨Or.inr rfl, ⟨Or.inr rfl, trivial⟩⟩⟩⟩⟩⟩⟩⟩⟩⟩))))) (fun q2 => (s_M_may_32.go [some (.ref 69), some (.int v1), some (.int v2), some (.int v3), none, none, none, none, none, none] [.int (-1 : Int32)] (aw_s I L D) rfl (z_iret d_M_may_33 rfl rfl (h3 q2)))))
theorem d_M_may_59 : decode y_M_may.2.1 59 = .ok (.iload 9, 2) := by decide +kernel
theorem d_M_may_61 : decode y_M_may.2.1 61 = .ok (.bipush 64, 2) := by decide +kernel
theorem s_M_may_59 : aw_VS y_M_may 59 [o_ild 9, o_c (.int (64 : Int32))] 63 := .cons (v_iload (i := 9) d_M_may_59) (.cons (v_bipush (v := (64 : Int32)) d_M_may_61 (by decide +kernel)) .nil)
theorem d_M_may_63 : decode y_M_may.2.1 63 = .ok (.if_icmp .ge (41), 3) := by decide +kernel
theorem d_M_may_104 : decode y_M_may.2.1 104 = .ok (.iload_n 3, 1) := by decide +kernel
theorem s_M_may_104 : aw_VS y_M_may 104 [o_ild 3] 105 := .cons (v_iload_n (i := 3) d_M_may_104 rfl) .nil
theorem d_M_may_105 : decode y_M_may.2.1 105 = .ok (.ifCond .ne (8), 3) := by decide +kernel
theorem d_M_may_113 : decode y_M_may.2.1 113 = .ok (.iload_n 3, 1) := by decide +kernel
theorem d_M_may_114 : decode y_M_may.2.1 114 = .ok (.iconst 1, 1) := by decide +kernel
theorem s_M_may_113 : aw_VS y_M_may 113 [o_ild 3, o_c (.int (1 : Int32))] 115 := .cons (v_iload_n (i := 3) d_M_may_113 rfl) (.cons (v_iconst (v := (1 : Int32)) d_M_may_114 (by decide +kernel)) .nil)
theorem d_M_may_115 : decode y_M_may.2.1 115 = .ok (.if_icmp .ne (8), 3) := by decide +kernel
theorem d_M_may_123 : decode y_M_may.2.1 123 = .ok (.iload 8, 2) := by decide +kernel
theorem s_M_may_123 : aw_VS y_M_may 123 [o_ild 8] 125 := .cons (v_iload (i := 8) d_M_may_123) .nil
theorem d_M_may_125 : decode y_M_may.2.1 125 = .ok (.ireturn, 1) := by decide +kernel
theorem d_M_may_118 : decode y_M_may.2.1 118 = .ok (.iload 7, 2) := by decide +kernel
theorem s_M_may_118 : aw_VS y_M_may 118 [o_ild 7] 120 := .cons (v_iload (i := 7) d_M_may_118) .nil
theorem d_M_may_120 : decode y_M_may.2.1 120 = .ok (.goto (5), 3) := by decide +kernel
theorem d_M_may_108 : decode y_M_may.2.1 108 = .ok (.iload 6, 2) := by decide +kernel
theorem s_M_may_108 : aw_VS y_M_may 108 [o_ild 6] 110 := .cons (v_iload (i := 6) d_M_may_108) .nil
theorem d_M_may_110 : decode y_M_may.2.1 110 = .ok (.goto (15), 3) := by decide +kernel
theorem d_M_may_66 : decode y_M_may.2.1 66 = .ok (.lload 4, 2) := by decide +kernel
theorem d_M_may_68 : decode y_M_may.2.1 68 = .ok (.iload 9, 2) := by decide +kernel
theorem d_M_may_70 : decode y_M_may.2.1 70 = .ok (.lshr, 1) := by decide +kernel
theorem d_M_may_71 : decode y_M_may.2.1 71 = .ok (.lconst 1, 1) := by decide +kernel
theorem d_M_may_72 : decode y_M_may.2.1 72 = .ok (.land, 1) := by decide +kernel
theorem d_M_may_73 : decode y_M_may.2.1 73 = .ok (.lconst 0, 1) := by decide +kernel
theorem d_M_may_74 : decode y_M_may.2.1 74 = .ok (.lcmp, 1) := by decide +kernel
theorem s_M_may_66 : aw_VS y_M_may 66 [o_lld 4, o_ild 9, o_ls (fun x z => x >>> (z.toInt64 &&& 63)), o_c (.long (1 : Int64)), o_l2 (fun x z => x &&& z), o_c (.long (0 : Int64)), o_lc] 75 := .cons (v_lload (i := 4) d_M_may_66) (.cons (v_iload (i := 9) d_M_may_68) (.cons (v_lshr d_M_may_70) (.cons (v_lconst (v := (1 : Int64)) d_M_may_71 (by decide +kernel)) (.cons (v_land d_M_may_72) (.cons (v_lconst (v := (0 : Int64)) d_M_may_73 (by decide +kernel)) (.cons (v_lcmp d_M_may_74) .nil))))))
theorem d_M_may_75 : decode y_M_may.2.1 75 = .ok (.ifCond .ne (6), 3) := by decide +kernel
theorem d_M_may_81 : decode y_M_may.2.1 81 = .ok (.iinc 6 (1), 3) := by decide +kernel
theorem d_M_may_84 : decode y_M_may.2.1 84 = .ok (.iload 7, 2) := by decide +kernel
theorem d_M_may_86 : decode y_M_may.2.1 86 = .ok (.iconst (-1), 1) := by decide +kernel
theorem s_M_may_81 : aw_VS y_M_may 81 [o_inc 6 (1 : Int32), o_ild 7, o_c (.int (-1 : Int32))] 87 := .cons (v_iinc (k0 := (1 : Int32)) d_M_may_81 (by decide +kernel)) (.cons (v_iload (i := 7) d_M_may_84) (.cons (v_iconst (v := (-1 : Int32)) d_M_may_86 (by decide +kernel)) .nil))
theorem d_M_may_87 : decode y_M_may.2.1 87 = .ok (.if_icmp .ne (7), 3) := by decide +kernel
theorem d_M_may_94 : decode y_M_may.2.1 94 = .ok (.iload 9, 2) := by decide +kernel
theorem d_M_may_96 : decode y_M_may.2.1 96 = .ok (.istore 8, 2) := by decide +kernel
theorem s_M_may_94 : aw_VS y_M_may 94 [o_ild 9, o_ist 8] 98 := .cons (v_iload (i := 9) d_M_may_94) (.cons (v_istore d_M_may_96) .nil)
theorem d_M_may_98 : decode y_M_may.2.1 98 = .ok (.iinc 9 (1), 3) := by decide +kernel
theorem s_M_may_98 : aw_VS y_M_may 98 [o_inc 9 (1 : Int32)] 101 := .cons (v_iinc (k0 := (1 : Int32)) d_M_may_98 (by decide +kernel)) .nil
theorem d_M_may_101 : decode y_M_may.2.1 101 = .ok (.goto (-42), 3) := by decide +kernel
theorem d_M_may_90 : decode y_M_may.2.1 90 = .ok (.iload 9, 2) := by decide +kernel
theorem d_M_may_92 : decode y_M_may.2.1 92 = .ok (.istore 7, 2) := by decide +kernel
theorem s_M_may_90 : aw_VS y_M_may 90 [o_ild 9, o_ist 7] 94 := .cons (v_iload (i := 9) d_M_may_90) (.cons (v_istore d_M_may_92) .nil)
theorem d_M_may_78 : decode y_M_may.2.1 78 = .ok (.goto (20), 3) := by decide +kernel
theorem b_M_may_59 {X : aw_X} {d : Nat} {Q : Option Value → aw_H → Prop} {I : Nat → Nat → Int32} {L : Nat → Nat → Int64} {D : Nat → Nat} {v3 : Int32} {v4 : Int64} {v6 : Int32} {v7 : Int32} {v8 : Int32} {v9 : Int32}
    (h1 : (64 : Int32) ≤ v9 → ¬ v3 = 0 → ¬ v3 = (1 : Int32) → Q (some (.int v8)) (aw_s I L D))
    (h2 : (64 : Int32) ≤ v9 → ¬ v3 = 0 → v3 = (1 : Int32) → Q (some (.int v7)) (aw_s I L D))
    (h3 : (64 : Int32) ≤ v9 → v3 = 0 → Q (some (.int v6)) (aw_s I L D))
    (h4 : ¬ (64 : Int32) ≤ v9 → ¬ (lg_cmp ((v4 >>> (v9.toInt64 &&& 63)) &&& (1 : Int64)) (0 : Int64)) = 0 → ¬ v7 = (-1 : Int32) → aw_z X (d + 1) y_M_may Q 59 [none, none, none, some (.int v3), some (.long v4), none, some (.int (v6 + (1 : Int32))), some (.int v7), some (.int v9), some (.int (v9 + (1 : Int32)))] [] (aw_s I L D))
    (h5 : ¬ (64 : Int32) ≤ v9 → ¬ (lg_cmp ((v4 >>> (v9.toInt64 &&& 63)) &&& (1 : Int64)) (0 : Int64)) = 0 → v7 = (-1 : Int32) → aw_z X (d + 1) y_M_may Q 59 [none, none, none, some (.int v3), some (.long v4), none, some (.int (v6 + (1 : Int32))), some (.int v9), some (.int v9), some (.int (v9 + (1 : Int32)))] [] (aw_s I L D))
    (h6 : ¬ (64 : Int32) ≤ v9 → (lg_cmp ((v4 >>> (v9.toInt64 &&& 63)) &&& (1 : Int64)) (0 : Int64)) = 0 → aw_z X (d + 1) y_M_may Q 59 [none, none, none, some (.int v3), some (.long v4), none, some (.int v6), some (.int v7), some (.int v8), some (.int (v9 + (1 : Int32)))] [] (aw_s I L D)) :
    aw_z X (d + 1) y_M_may Q 59 [none, none, none, some (.int v3), some (.long v4), none, some (.int v6), some (.int v7), some (.int v8), some (.int v9)] [] (aw_s I L D) :=
  (s_M_may_59.go [none, none, none, some (.int v3), some (.long v4), none, some (.int v6), some (.int v7), some (.int v8), some (.int v9)] [.int (64 : Int32), .int v9] (aw_s I L D) rfl (z_icmp_ge (tgt := 104) d_M_may_63 rfl (fun q1 => (s_M_may_104.go [none, none, none, some (.int v3), some (.long v4), none, some (.int v6), some (.int v7), some (.int v8), some (.int v9)] [.int v3] (aw_s I L D) rfl (z_if_ne (tgt := 113) d_M_may_105 rfl (fun q3 => (s_M_may_113.go [none, none, none, some (.int v3), some (.long v4), none, some (.int v6), some (.int v7), some (.int v8), some (.int v9)] [.int (1 : Int32), .int v3] (aw_s I L D) rfl (z_icmp_ne (tgt := 123) d_M_may_115 rfl (fun q5 => (s_M_may_123.go [none, none, none, some (.int v3), some (.long v4), none, some (.int v6), some (.int v7), some (.int v8), some (.int v9)] [.int v8] (aw_s I L D) rfl (z_iret d_M_may_125 rfl rfl (h1 q1 q3 q5)))) (fun q6 => (s_M_may_118.go [none, none, none, some (.int v3), some (.long v4), none, some (.int v6), some (.int v7), some (.int v8), some (.int v9)] [.int v7] (aw_s I L D) rfl (z_goto (tgt := 125) d_M_may_120 rfl (z_iret d_M_may_125 rfl rfl (h2 q1 q3 q6)))))))) (fun q4 => (s_M_may_108.go [none, none, none, some (.int v3), some (.long v4), none, some (.int v6), some (.int v7), some (.int v8), some (.int v9)] [.int v6] (aw_s I L D) rfl (z_goto (tgt := 125) d_M_may_110 rfl (z_iret d_M_may_125 rfl rfl (h3 q1 q4)))))))) (fun q2 => (s_M_may_66.go [none, none, none, some (.int v3), some (.long v4), none, some (.int v6), some (.int v7), some (.int v8), some (.int v9)] [.int (lg_cmp ((v4 >>> (v9.toInt64 &&& 63)) &&& (1 : Int64)) (0 : Int64))] (aw_s I L D) rfl (z_if_ne (tgt := 81) d_M_may_75 rfl (fun q7 => (s_M_may_81.go [none, none, none, some (.int v3), some (.long v4), none, some (.int (v6 + (1 : Int32))), some (.int v7), some (.int v8), some (.int v9)] [.int (-1 : Int32), .int v7] (aw_s I L D) rfl (z_icmp_ne (tgt := 94) d_M_may_87 rfl (fun q9 => (s_M_may_94.go [none, none, none, some (.int v3), some (.long v4), none, some (.int (v6 + (1 : Int32))), some (.int v7), some (.int v9), some (.int v9)] [] (aw_s I L D) rfl (s_M_may_98.go [none, none, none, some (.int v3), some (.long v4), none, some (.int (v6 + (1 : Int32))), some (.int v7), some (.int v9), some (.int (v9 + (1 : Int32)))] [] (aw_s I L D) rfl (z_goto (tgt := 59) d_M_may_101 rfl (h4 q2 q7 q9))))) (fun q10 => (s_M_may_90.go [none, none, none, some (.int v3), some (.long v4), none, some (.int (v6 + (1 : Int32))), some (.int v9), some (.int v8), some (.int v9)] [] (aw_s I L D) rfl (s_M_may_94.go [none, none, none, some (.int v3), some (.long v4), none, some (.int (v6 + (1 : Int32))), some (.int v9), some (.int v9), some (.int v9)] [] (aw_s I L D) rfl (s_M_may_98.go [none, none, none, some (.int v3), some (.long v4), none, some (.int (v6 + (1 : Int32))), some (.int v9), some (.int v9), some (.int (v9 + (1 : Int32)))] [] (aw_s I L D) rfl (z_goto (tgt := 59) d_M_may_101 rfl (h5 q2 q7 q10))))))))) (fun q8 => (z_goto (tgt := 98) d_M_may_78 rfl (s_M_may_98.go [none, none, none, some (.int v3), some (.long v4), none, some (.int v6), some (.int v7), some (.int v8), some (.int (v9 + (1 : Int32)))] [] (aw_s I L D) rfl (z_goto (tgt := 59) d_M_may_101 rfl (h6 q2 q8))))))))))
/-! M_isBegun -/
theorem d_M_isBegun_0 : decode y_M_isBegun.2.1 0 = .ok (.aload_n 0, 1) := by decide +kernel
theorem d_M_isBegun_1 : decode y_M_isBegun.2.1 1 = .ok (.getfield 363, 3) := by decide +kernel
theorem s_M_isBegun_0 : aw_VS y_M_isBegun 0 [o_ald 0, o_getI 9 36] 4 := .cons (v_aload_n (i := 0) d_M_isBegun_0 rfl) (.cons (v_getI (k := 36) k_M (by decide) (Or.inr rfl) (Or.inl w_1497) d_M_isBegun_1) .nil)
theorem d_M_isBegun_4 : decode y_M_isBegun.2.1 4 = .ok (.ifCond .eq (35), 3) := by decide +kernel
theorem d_M_isBegun_39 : decode y_M_isBegun.2.1 39 = .ok (.iconst 0, 1) := by decide +kernel
theorem s_M_isBegun_39 : aw_VS y_M_isBegun 39 [o_c (.int (0 : Int32))] 40 := .cons (v_iconst (v := (0 : Int32)) d_M_isBegun_39 (by decide +kernel)) .nil
theorem d_M_isBegun_40 : decode y_M_isBegun.2.1 40 = .ok (.ireturn, 1) := by decide +kernel
theorem d_M_isBegun_7 : decode y_M_isBegun.2.1 7 = .ok (.iload_n 1, 1) := by decide +kernel
theorem s_M_isBegun_7 : aw_VS y_M_isBegun 7 [o_ild 1] 8 := .cons (v_iload_n (i := 1) d_M_isBegun_7 rfl) .nil
theorem d_M_isBegun_8 : decode y_M_isBegun.2.1 8 = .ok (.ifCond .lt (31), 3) := by decide +kernel
theorem d_M_isBegun_11 : decode y_M_isBegun.2.1 11 = .ok (.iload_n 1, 1) := by decide +kernel
theorem d_M_isBegun_12 : decode y_M_isBegun.2.1 12 = .ok (.aload_n 0, 1) := by decide +kernel
theorem d_M_isBegun_13 : decode y_M_isBegun.2.1 13 = .ok (.getfield 25, 3) := by decide +kernel
theorem d_M_isBegun_16 : decode y_M_isBegun.2.1 16 = .ok (.iconst 4, 1) := by decide +kernel
theorem s_M_isBegun_11 : aw_VS y_M_isBegun 11 [o_ild 1, o_ald 0, o_getA 9 16, o_c (.int (4 : Int32))] 17 := .cons (v_iload_n (i := 1) d_M_isBegun_11 rfl) (.cons (v_aload_n (i := 0) d_M_isBegun_12 rfl) (.cons (v_getA (k := 16) k_M (by decide) rfl (Or.inl w_1477) d_M_isBegun_13) (.cons (v_iconst (v := (4 : Int32)) d_M_isBegun_16 (by decide +kernel)) .nil)))
theorem d_M_isBegun_17 : decode y_M_isBegun.2.1 17 = .ok (.iaload, 1) := by decide +kernel
theorem d_M_isBegun_18 : decode y_M_isBegun.2.1 18 = .ok (.if_icmp .ge (21), 3) := by decide +kernel
theorem d_M_isBegun_21 : decode y_M_isBegun.2.1 21 = .ok (.aload_n 0, 1) := by decide +kernel
theorem d_M_isBegun_22 : decode y_M_isBegun.2.1 22 = .ok (.getfield 75, 3) := by decide +kernel
theorem d_M_isBegun_25 : decode y_M_isBegun.2.1 25 = .ok (.bipush 8, 2) := by decide +kernel
theorem d_M_isBegun_27 : decode y_M_isBegun.2.1 27 = .ok (.iload_n 1, 1) := by decide +kernel
theorem d_M_isBegun_28 : decode y_M_isBegun.2.1 28 = .ok (.imul, 1) := by decide +kernel
theorem s_M_isBegun_21 : aw_VS y_M_isBegun 21 [o_ald 0, o_getA 9 49, o_c (.int (8 : Int32)), o_ild 1, o_i2 (fun x z => x * z)] 29 := .cons (v_aload_n (i := 0) d_M_isBegun_21 rfl) (.cons (v_getA (k := 49) k_M (by decide) rfl (Or.inl w_1510) d_M_isBegun_22) (.cons (v_bipush (v := (8 : Int32)) d_M_isBegun_25 (by decide +kernel)) (.cons (v_iload_n (i := 1) d_M_isBegun_27 rfl) (.cons (v_imul d_M_isBegun_28) .nil))))
theorem d_M_isBegun_29 : decode y_M_isBegun.2.1 29 = .ok (.laload, 1) := by decide +kernel
theorem d_M_isBegun_30 : decode y_M_isBegun.2.1 30 = .ok (.lconst 0, 1) := by decide +kernel
theorem d_M_isBegun_31 : decode y_M_isBegun.2.1 31 = .ok (.lcmp, 1) := by decide +kernel
theorem s_M_isBegun_30 : aw_VS y_M_isBegun 30 [o_c (.long (0 : Int64)), o_lc] 32 := .cons (v_lconst (v := (0 : Int64)) d_M_isBegun_30 (by decide +kernel)) (.cons (v_lcmp d_M_isBegun_31) .nil)
theorem d_M_isBegun_32 : decode y_M_isBegun.2.1 32 = .ok (.ifCond .eq (7), 3) := by decide +kernel
theorem d_M_isBegun_35 : decode y_M_isBegun.2.1 35 = .ok (.iconst 1, 1) := by decide +kernel
theorem s_M_isBegun_35 : aw_VS y_M_isBegun 35 [o_c (.int (1 : Int32))] 36 := .cons (v_iconst (v := (1 : Int32)) d_M_isBegun_35 (by decide +kernel)) .nil
theorem d_M_isBegun_36 : decode y_M_isBegun.2.1 36 = .ok (.goto (4), 3) := by decide +kernel
theorem b_M_isBegun_0 {X : aw_X} {d : Nat} {Q : Option Value → aw_H → Prop} {I : Nat → Nat → Int32} {L : Nat → Nat → Int64} {D : Nat → Nat} {v1 : Int32}
    (h1 : (I 69 36) = 0 → Q (some (.int (0 : Int32))) (aw_s I L D))
    (h2 : ¬ (I 69 36) = 0 → v1 < 0 → Q (some (.int (0 : Int32))) (aw_s I L D))
    (h3 : ¬ (I 69 36) = 0 → ¬ v1 < 0 → (I 75 4) ≤ v1 → Q (some (.int (0 : Int32))) (aw_s I L D))
    (h4 : ¬ (I 69 36) = 0 → ¬ v1 < 0 → ¬ (I 75 4) ≤ v1 → vp_in ((8 : Int32) * v1) 480)
    (h5 : ¬ (I 69 36) = 0 → ¬ v1 < 0 → ¬ (I 75 4) ≤ v1 → (lg_cmp (L 89 (((8 : Int32) * v1).toNatClampNeg)) (0 : Int64)) = 0 → Q (some (.int (0 : Int32))) (aw_s I L D))
    (h6 : ¬ (I 69 36) = 0 → ¬ v1 < 0 → ¬ (I 75 4) ≤ v1 → ¬ (lg_cmp (L 89 (((8 : Int32) * v1).toNatClampNeg)) (0 : Int64)) = 0 → Q (some (.int (1 : Int32))) (aw_s I L D)) :
    aw_z X d y_M_isBegun Q 0 [some (.ref 69), some (.int v1)] [] (aw_s I L D) :=
  (s_M_isBegun_0.go [some (.ref 69), some (.int v1)] [.int (I 69 36)] (aw_s I L D) rfl (z_if_eq (tgt := 39) d_M_isBegun_4 rfl (fun q1 => (s_M_isBegun_39.go [some (.ref 69), some (.int v1)] [.int (0 : Int32)] (aw_s I L D) rfl (z_iret d_M_isBegun_40 rfl (aw_nz (by decide +kernel)) (h1 q1)))) (fun q2 => (s_M_isBegun_7.go [some (.ref 69), some (.int v1)] [.int v1] (aw_s I L D) rfl (z_if_lt (tgt := 39) d_M_isBegun_8 rfl (fun q3 => (s_M_isBegun_39.go [some (.ref 69), some (.int v1)] [.int (0 : Int32)] (aw_s I L D) rfl (z_iret d_M_isBegun_40 rfl (aw_nz (by decide +kernel)) (h2 q2 q3)))) (fun q4 => (s_M_isBegun_11.go [some (.ref 69), some (.int v1)] [.int (4 : Int32), .ref 75, .int v1] (aw_s I L D) rfl (z_iald (n := 7) rfl (aw_lt (o := 75) rfl) (aw_lin (by decide +kernel) (by decide +kernel)) d_M_isBegun_17 (z_icmp_ge (tgt := 39) d_M_isBegun_18 rfl (fun q5 => (s_M_isBegun_39.go [some (.ref 69), some (.int v1)] [.int (0 : Int32)] (aw_s I L D) rfl (z_iret d_M_isBegun_40 rfl (aw_nz (by decide +kernel)) (h3 q2 q4 q5)))) (fun q6 => (s_M_isBegun_21.go [some (.ref 69), some (.int v1)] [.int ((8 : Int32) * v1), .ref 89] (aw_s I L D) rfl (z_lald (n := 480) rfl (aw_lt (o := 89) rfl) (h4 q2 q4 q6) d_M_isBegun_29 (s_M_isBegun_30.go [some (.ref 69), some (.int v1)] [.int (lg_cmp (L 89 (((8 : Int32) * v1).toNatClampNeg)) (0 : Int64))] (aw_s I L D) rfl (z_if_eq (tgt := 39) d_M_isBegun_32 rfl (fun q7 => (s_M_isBegun_39.go [some (.ref 69), some (.int v1)] [.int (0 : Int32)] (aw_s I L D) rfl (z_iret d_M_isBegun_40 rfl (aw_nz (by decide +kernel)) (h5 q2 q4 q6 q7)))) (fun q8 => (s_M_isBegun_35.go [some (.ref 69), some (.int v1)] [.int (1 : Int32)] (aw_s I L D) rfl (z_goto (tgt := 40) d_M_isBegun_36 rfl (z_iret d_M_isBegun_40 rfl (aw_nz (by decide +kernel)) (h6 q2 q4 q6 q8)))))))))))))))))))
/-! M_law -/
theorem d_M_law_0 : decode y_M_law.2.1 0 = .ok (.aload_n 0, 1) := by decide +kernel
theorem d_M_law_1 : decode y_M_law.2.1 1 = .ok (.iconst 0, 1) := by decide +kernel
theorem d_M_law_2 : decode y_M_law.2.1 2 = .ok (.putfield 160, 3) := by decide +kernel
theorem d_M_law_5 : decode y_M_law.2.1 5 = .ok (.iload 4, 2) := by decide +kernel
theorem d_M_law_7 : decode y_M_law.2.1 7 = .ok (.bipush 100, 2) := by decide +kernel
theorem s_M_law_0 : aw_VS y_M_law 0 [o_ald 0, o_c (.int (0 : Int32)), o_putI 9 0, o_ild 4, o_c (.int (100 : Int32))] 9 := .cons (v_aload_n (i := 0) d_M_law_0 rfl) (.cons (v_iconst (v := (0 : Int32)) d_M_law_1 (by decide +kernel)) (.cons (v_putI (k := 0) k_M (by decide) rfl (Or.inl ⟨rfl, Or.inl w_1461⟩) d_M_law_2) (.cons (v_iload (i := 4) d_M_law_5) (.cons (v_bipush (v := (100 : Int32)) d_M_law_7 (by decide +kernel)) .nil))))
theorem d_M_law_9 : decode y_M_law.2.1 9 = .ok (.if_icmp .lt (7), 3) := by decide +kernel
theorem d_M_law_16 : decode y_M_law.2.1 16 = .ok (.iconst 0, 1) := by decide +kernel
theorem s_M_law_16 : aw_VS y_M_law 16 [o_c (.int (0 : Int32))] 17 := .cons (v_iconst (v := (0 : Int32)) d_M_law_16 (by decide +kernel)) .nil
theorem d_M_law_12 : decode y_M_law.2.1 12 = .ok (.iconst 1, 1) := by decide +kernel
theorem s_M_law_12 : aw_VS y_M_law 12 [o_c (.int (1 : Int32))] 13 := .cons (v_iconst (v := (1 : Int32)) d_M_law_12 (by decide +kernel)) .nil
theorem d_M_law_13 : decode y_M_law.2.1 13 = .ok (.goto (4), 3) := by decide +kernel
theorem b_M_law_0 {X : aw_X} {d : Nat} {Q : Option Value → aw_H → Prop} {I : Nat → Nat → Int32} {L : Nat → Nat → Int64} {D : Nat → Nat} {v1 : Int32} {v2 : Int32} {v3 : Int32} {v4 : Int32}
    (h1 : v4 < (100 : Int32) → aw_z X (d + 1) y_M_law Q 17 [some (.ref 69), some (.int v1), some (.int v2), some (.int v3), some (.int v4), none, none, none] [.int (0 : Int32)] (aw_s (aw_u I 69 0 (0 : Int32)) L D))
    (h2 : ¬ v4 < (100 : Int32) → aw_z X (d + 1) y_M_law Q 17 [some (.ref 69), some (.int v1), some (.int v2), some (.int v3), some (.int v4), none, none, none] [.int (1 : Int32)] (aw_s (aw_u I 69 0 (0 : Int32)) L D)) :
    aw_z X (d + 1) y_M_law Q 0 [some (.ref 69), some (.int v1), some (.int v2), some (.int v3), some (.int v4), none, none, none] [] (aw_s I L D) :=
  (s_M_law_0.go [some (.ref 69), some (.int v1), some (.int v2), some (.int v3), some (.int v4), none, none, none] [.int (100 : Int32), .int v4] (aw_s (aw_u I 69 0 (0 : Int32)) L D) rfl (z_icmp_lt (tgt := 16) d_M_law_9 rfl (fun q1 => (s_M_law_16.go [some (.ref 69), some (.int v1), some (.int v2), some (.int v3), some (.int v4), none, none, none] [.int (0 : Int32)] (aw_s (aw_u I 69 0 (0 : Int32)) L D) rfl (h1 q1))) (fun q2 => (s_M_law_12.go [some (.ref 69), some (.int v1), some (.int v2), some (.int v3), some (.int v4), none, none, none] [.int (1 : Int32)] (aw_s (aw_u I 69 0 (0 : Int32)) L D) rfl (z_goto (tgt := 17) d_M_law_13 rfl (h2 q2))))))
theorem d_M_law_17 : decode y_M_law.2.1 17 = .ok (.istore 5, 2) := by decide +kernel
theorem d_M_law_19 : decode y_M_law.2.1 19 = .ok (.aload_n 0, 1) := by decide +kernel
theorem d_M_law_20 : decode y_M_law.2.1 20 = .ok (.iload_n 1, 1) := by decide +kernel
theorem s_M_law_17 : aw_VS y_M_law 17 [o_ist 5, o_ald 0, o_ild 1] 21 := .cons (v_istore d_M_law_17) (.cons (v_aload_n (i := 0) d_M_law_19 rfl) (.cons (v_iload_n (i := 1) d_M_law_20 rfl) .nil))
theorem d_M_law_21 : decode y_M_law.2.1 21 = .ok (.invokevirtual 451, 3) := by decide +kernel
theorem b_M_law_17 {X : aw_X} {d : Nat} {Q : Option Value → aw_H → Prop} {I : Nat → Nat → Int32} {L : Nat → Nat → Int64} {D : Nat → Nat} {v1 : Int32} {v2 : Int32} {v3 : Int32} {v4 : Int32} {s0 : Int32}
    (h1 : aw_m X d y_M_isBegun [.ref 69, .int v1] (aw_s I L D) (fun r A => aw_z X (d + 1) y_M_law Q 24 [some (.ref 69), some (.int v1), some (.int v2), some (.int v3), some (.int v4), some (.int s0), none, none] (r.toList ++ []) A)) :
    aw_z X (d + 1) y_M_law Q 17 [some (.ref 69), some (.int v1), some (.int v2), some (.int v3), some (.int v4), none, none, none] [.int s0] (aw_s I L D) :=
  (s_M_law_17.go [some (.ref 69), some (.int v1), some (.int v2), some (.int v3), some (.int v4), some (.int s0), none, none] [.int v1, .ref 69] (aw_s I L D) rfl (z_callV (av := [.int v1]) (st := []) ok_M_isBegun (Or.inl w_1995) w_1997 w_120 k_M d_M_law_21 rfl (aw_lt (o := 69) rfl) rfl rfl (Nat.le_of_ble_eq_true rfl) (Nat.le_refl _) (Nat.le_refl _) (h1)))
theorem d_M_law_24 : decode y_M_law.2.1 24 = .ok (.ifCond .eq (55), 3) := by decide +kernel
theorem d_M_law_79 : decode y_M_law.2.1 79 = .ok (.iconst (-1), 1) := by decide +kernel
theorem s_M_law_79 : aw_VS y_M_law 79 [o_c (.int (-1 : Int32))] 80 := .cons (v_iconst (v := (-1 : Int32)) d_M_law_79 (by decide +kernel)) .nil
theorem d_M_law_80 : decode y_M_law.2.1 80 = .ok (.ireturn, 1) := by decide +kernel
theorem d_M_law_27 : decode y_M_law.2.1 27 = .ok (.iload_n 2, 1) := by decide +kernel
theorem d_M_law_28 : decode y_M_law.2.1 28 = .ok (.iconst 0, 1) := by decide +kernel
theorem d_M_law_29 : decode y_M_law.2.1 29 = .ok (.bipush 7, 2) := by decide +kernel
theorem s_M_law_27 : aw_VS y_M_law 27 [o_ild 2, o_c (.int (0 : Int32)), o_c (.int (7 : Int32))] 31 := .cons (v_iload_n (i := 2) d_M_law_27 rfl) (.cons (v_iconst (v := (0 : Int32)) d_M_law_28 (by decide +kernel)) (.cons (v_bipush (v := (7 : Int32)) d_M_law_29 (by decide +kernel)) .nil))
theorem d_M_law_31 : decode y_M_law.2.1 31 = .ok (.invokestatic 234, 3) := by decide +kernel
theorem b_M_law_24 {X : aw_X} {d : Nat} {Q : Option Value → aw_H → Prop} {I : Nat → Nat → Int32} {L : Nat → Nat → Int64} {D : Nat → Nat} {v1 : Int32} {v2 : Int32} {v3 : Int32} {v4 : Int32} {v5 : Int32} {s0 : Int32}
    (h1 : s0 = 0 → Q (some (.int (-1 : Int32))) (aw_s I L D))
    (h2 : ¬ s0 = 0 → aw_m X d y_M_isIn [.int v2, .int (0 : Int32), .int (7 : Int32)] (aw_s I L D) (fun r A => aw_z X (d + 1) y_M_law Q 34 [some (.ref 69), some (.int v1), some (.int v2), some (.int v3), some (.int v4), some (.int v5), none, none] (r.toList ++ []) A)) :
    aw_z X (d + 1) y_M_law Q 24 [some (.ref 69), some (.int v1), some (.int v2), some (.int v3), some (.int v4), some (.int v5), none, none] [.int s0] (aw_s I L D) :=
  (z_if_eq (tgt := 79) d_M_law_24 rfl (fun q1 => (s_M_law_79.go [some (.ref 69), some (.int v1), some (.int v2), some (.int v3), some (.int v4), some (.int v5), none, none] [.int (-1 : Int32)] (aw_s I L D) rfl (z_iret d_M_law_80 rfl rfl (h1 q1)))) (fun q2 => (s_M_law_27.go [some (.ref 69), some (.int v1), some (.int v2), some (.int v3), some (.int v4), some (.int v5), none, none] [.int (7 : Int32), .int (0 : Int32), .int v2] (aw_s I L D) rfl (z_callS (av := [.int v2, .int (0 : Int32), .int (7 : Int32)]) (st := []) ok_M_isIn (Or.inl w_1873) w_1874 d_M_law_31 rfl rfl (Nat.le_of_ble_eq_true rfl) (Nat.le_refl _) (Nat.le_refl _) (h2 q2)))))
theorem d_M_law_34 : decode y_M_law.2.1 34 = .ok (.ifCond .eq (45), 3) := by decide +kernel
theorem d_M_law_37 : decode y_M_law.2.1 37 = .ok (.iload_n 3, 1) := by decide +kernel
theorem d_M_law_38 : decode y_M_law.2.1 38 = .ok (.iconst 0, 1) := by decide +kernel
theorem d_M_law_39 : decode y_M_law.2.1 39 = .ok (.iconst 3, 1) := by decide +kernel
theorem s_M_law_37 : aw_VS y_M_law 37 [o_ild 3, o_c (.int (0 : Int32)), o_c (.int (3 : Int32))] 40 := .cons (v_iload_n (i := 3) d_M_law_37 rfl) (.cons (v_iconst (v := (0 : Int32)) d_M_law_38 (by decide +kernel)) (.cons (v_iconst (v := (3 : Int32)) d_M_law_39 (by decide +kernel)) .nil))
theorem d_M_law_40 : decode y_M_law.2.1 40 = .ok (.invokestatic 234, 3) := by decide +kernel
theorem b_M_law_34 {X : aw_X} {d : Nat} {Q : Option Value → aw_H → Prop} {I : Nat → Nat → Int32} {L : Nat → Nat → Int64} {D : Nat → Nat} {v1 : Int32} {v2 : Int32} {v3 : Int32} {v4 : Int32} {v5 : Int32} {s0 : Int32}
    (h1 : s0 = 0 → Q (some (.int (-1 : Int32))) (aw_s I L D))
    (h2 : ¬ s0 = 0 → aw_m X d y_M_isIn [.int v3, .int (0 : Int32), .int (3 : Int32)] (aw_s I L D) (fun r A => aw_z X (d + 1) y_M_law Q 43 [some (.ref 69), some (.int v1), some (.int v2), some (.int v3), some (.int v4), some (.int v5), none, none] (r.toList ++ []) A)) :
    aw_z X (d + 1) y_M_law Q 34 [some (.ref 69), some (.int v1), some (.int v2), some (.int v3), some (.int v4), some (.int v5), none, none] [.int s0] (aw_s I L D) :=
  (z_if_eq (tgt := 79) d_M_law_34 rfl (fun q1 => (s_M_law_79.go [some (.ref 69), some (.int v1), some (.int v2), some (.int v3), some (.int v4), some (.int v5), none, none] [.int (-1 : Int32)] (aw_s I L D) rfl (z_iret d_M_law_80 rfl rfl (h1 q1)))) (fun q2 => (s_M_law_37.go [some (.ref 69), some (.int v1), some (.int v2), some (.int v3), some (.int v4), some (.int v5), none, none] [.int (3 : Int32), .int (0 : Int32), .int v3] (aw_s I L D) rfl (z_callS (av := [.int v3, .int (0 : Int32), .int (3 : Int32)]) (st := []) ok_M_isIn (Or.inl w_1873) w_1874 d_M_law_40 rfl rfl (Nat.le_of_ble_eq_true rfl) (Nat.le_refl _) (Nat.le_refl _) (h2 q2)))))
theorem d_M_law_43 : decode y_M_law.2.1 43 = .ok (.ifCond .eq (36), 3) := by decide +kernel
theorem d_M_law_46 : decode y_M_law.2.1 46 = .ok (.iload 5, 2) := by decide +kernel
theorem s_M_law_46 : aw_VS y_M_law 46 [o_ild 5] 48 := .cons (v_iload (i := 5) d_M_law_46) .nil
theorem d_M_law_48 : decode y_M_law.2.1 48 = .ok (.ifCond .ne (14), 3) := by decide +kernel
theorem d_M_law_51 : decode y_M_law.2.1 51 = .ok (.iload 4, 2) := by decide +kernel
theorem d_M_law_53 : decode y_M_law.2.1 53 = .ok (.iconst 0, 1) := by decide +kernel
theorem d_M_law_54 : decode y_M_law.2.1 54 = .ok (.bipush 7, 2) := by decide +kernel
theorem s_M_law_51 : aw_VS y_M_law 51 [o_ild 4, o_c (.int (0 : Int32)), o_c (.int (7 : Int32))] 56 := .cons (v_iload (i := 4) d_M_law_51) (.cons (v_iconst (v := (0 : Int32)) d_M_law_53 (by decide +kernel)) (.cons (v_bipush (v := (7 : Int32)) d_M_law_54 (by decide +kernel)) .nil))
theorem d_M_law_56 : decode y_M_law.2.1 56 = .ok (.invokestatic 234, 3) := by decide +kernel
theorem b_M_law_43 {X : aw_X} {d : Nat} {Q : Option Value → aw_H → Prop} {I : Nat → Nat → Int32} {L : Nat → Nat → Int64} {D : Nat → Nat} {v1 : Int32} {v2 : Int32} {v3 : Int32} {v4 : Int32} {v5 : Int32} {s0 : Int32}
    (h1 : s0 = 0 → Q (some (.int (-1 : Int32))) (aw_s I L D))
    (h2 : ¬ s0 = 0 → ¬ v5 = 0 → aw_z X (d + 1) y_M_law Q 62 [some (.ref 69), some (.int v1), some (.int v2), some (.int v3), some (.int v4), some (.int v5), none, none] [] (aw_s I L D))
    (h3 : ¬ s0 = 0 → v5 = 0 → aw_m X d y_M_isIn [.int v4, .int (0 : Int32), .int (7 : Int32)] (aw_s I L D) (fun r A => aw_z X (d + 1) y_M_law Q 59 [some (.ref 69), some (.int v1), some (.int v2), some (.int v3), some (.int v4), some (.int v5), none, none] (r.toList ++ []) A)) :
    aw_z X (d + 1) y_M_law Q 43 [some (.ref 69), some (.int v1), some (.int v2), some (.int v3), some (.int v4), some (.int v5), none, none] [.int s0] (aw_s I L D) :=
  (z_if_eq (tgt := 79) d_M_law_43 rfl (fun q1 => (s_M_law_79.go [some (.ref 69), some (.int v1), some (.int v2), some (.int v3), some (.int v4), some (.int v5), none, none] [.int (-1 : Int32)] (aw_s I L D) rfl (z_iret d_M_law_80 rfl rfl (h1 q1)))) (fun q2 => (s_M_law_46.go [some (.ref 69), some (.int v1), some (.int v2), some (.int v3), some (.int v4), some (.int v5), none, none] [.int v5] (aw_s I L D) rfl (z_if_ne (tgt := 62) d_M_law_48 rfl (fun q3 => (h2 q2 q3)) (fun q4 => (s_M_law_51.go [some (.ref 69), some (.int v1), some (.int v2), some (.int v3), some (.int v4), some (.int v5), none, none] [.int (7 : Int32), .int (0 : Int32), .int v4] (aw_s I L D) rfl (z_callS (av := [.int v4, .int (0 : Int32), .int (7 : Int32)]) (st := []) ok_M_isIn (Or.inl w_1873) w_1874 d_M_law_56 rfl rfl (Nat.le_of_ble_eq_true rfl) (Nat.le_refl _) (Nat.le_refl _) (h3 q2 q4))))))))
theorem d_M_law_62 : decode y_M_law.2.1 62 = .ok (.iload 5, 2) := by decide +kernel
theorem s_M_law_62 : aw_VS y_M_law 62 [o_ild 5] 64 := .cons (v_iload (i := 5) d_M_law_62) .nil
theorem d_M_law_64 : decode y_M_law.2.1 64 = .ok (.ifCond .eq (17), 3) := by decide +kernel
theorem d_M_law_67 : decode y_M_law.2.1 67 = .ok (.iload 4, 2) := by decide +kernel
theorem d_M_law_69 : decode y_M_law.2.1 69 = .ok (.bipush 100, 2) := by decide +kernel
theorem d_M_law_71 : decode y_M_law.2.1 71 = .ok (.isub, 1) := by decide +kernel
theorem d_M_law_72 : decode y_M_law.2.1 72 = .ok (.aload_n 0, 1) := by decide +kernel
theorem s_M_law_67 : aw_VS y_M_law 67 [o_ild 4, o_c (.int (100 : Int32)), o_i2 (fun x z => x - z), o_ald 0] 73 := .cons (v_iload (i := 4) d_M_law_67) (.cons (v_bipush (v := (100 : Int32)) d_M_law_69 (by decide +kernel)) (.cons (v_isub d_M_law_71) (.cons (v_aload_n (i := 0) d_M_law_72 rfl) .nil)))
theorem d_M_law_73 : decode y_M_law.2.1 73 = .ok (.invokevirtual 366, 3) := by decide +kernel
theorem b_M_law_62 {X : aw_X} {d : Nat} {Q : Option Value → aw_H → Prop} {I : Nat → Nat → Int32} {L : Nat → Nat → Int64} {D : Nat → Nat} {v1 : Int32} {v2 : Int32} {v3 : Int32} {v4 : Int32} {v5 : Int32}
    (h1 : v5 = 0 → aw_z X (d + 1) y_M_law Q 81 [some (.ref 69), some (.int v1), some (.int v2), some (.int v3), some (.int v4), some (.int v5), none, none] [] (aw_s I L D))
    (h2 : ¬ v5 = 0 → aw_m X d y_M_mask [.ref 69] (aw_s I L D) (fun r A => aw_z X (d + 1) y_M_law Q 76 [some (.ref 69), some (.int v1), some (.int v2), some (.int v3), some (.int v4), some (.int v5), none, none] (r.toList ++ [.int (v4 - (100 : Int32))]) A)) :
    aw_z X (d + 1) y_M_law Q 62 [some (.ref 69), some (.int v1), some (.int v2), some (.int v3), some (.int v4), some (.int v5), none, none] [] (aw_s I L D) :=
  (s_M_law_62.go [some (.ref 69), some (.int v1), some (.int v2), some (.int v3), some (.int v4), some (.int v5), none, none] [.int v5] (aw_s I L D) rfl (z_if_eq (tgt := 81) d_M_law_64 rfl (fun q1 => (h1 q1)) (fun q2 => (s_M_law_67.go [some (.ref 69), some (.int v1), some (.int v2), some (.int v3), some (.int v4), some (.int v5), none, none] [.ref 69, .int (v4 - (100 : Int32))] (aw_s I L D) rfl (z_callV (av := []) (st := [.int (v4 - (100 : Int32))]) ok_M_mask (Or.inl w_1931) w_1933 w_109 k_M d_M_law_73 rfl (aw_lt (o := 69) rfl) rfl rfl (Nat.le_of_ble_eq_true rfl) (Nat.le_refl _) (Nat.le_refl _) (h2 q2))))))
theorem d_M_law_59 : decode y_M_law.2.1 59 = .ok (.ifCond .eq (20), 3) := by decide +kernel
theorem b_M_law_59 {X : aw_X} {d : Nat} {Q : Option Value → aw_H → Prop} {I : Nat → Nat → Int32} {L : Nat → Nat → Int64} {D : Nat → Nat} {v1 : Int32} {v2 : Int32} {v3 : Int32} {v4 : Int32} {v5 : Int32} {s0 : Int32}
    (h1 : s0 = 0 → Q (some (.int (-1 : Int32))) (aw_s I L D))
    (h2 : ¬ s0 = 0 → aw_z X (d + 1) y_M_law Q 62 [some (.ref 69), some (.int v1), some (.int v2), some (.int v3), some (.int v4), some (.int v5), none, none] [] (aw_s I L D)) :
    aw_z X (d + 1) y_M_law Q 59 [some (.ref 69), some (.int v1), some (.int v2), some (.int v3), some (.int v4), some (.int v5), none, none] [.int s0] (aw_s I L D) :=
  (z_if_eq (tgt := 79) d_M_law_59 rfl (fun q1 => (s_M_law_79.go [some (.ref 69), some (.int v1), some (.int v2), some (.int v3), some (.int v4), some (.int v5), none, none] [.int (-1 : Int32)] (aw_s I L D) rfl (z_iret d_M_law_80 rfl rfl (h1 q1)))) (fun q2 => (h2 q2)))
theorem d_M_law_81 : decode y_M_law.2.1 81 = .ok (.iconst 0, 1) := by decide +kernel
theorem d_M_law_82 : decode y_M_law.2.1 82 = .ok (.istore 6, 2) := by decide +kernel
theorem d_M_law_84 : decode y_M_law.2.1 84 = .ok (.iload 5, 2) := by decide +kernel
theorem s_M_law_81 : aw_VS y_M_law 81 [o_c (.int (0 : Int32)), o_ist 6, o_ild 5] 86 := .cons (v_iconst (v := (0 : Int32)) d_M_law_81 (by decide +kernel)) (.cons (v_istore d_M_law_82) (.cons (v_iload (i := 5) d_M_law_84) .nil))
theorem d_M_law_86 : decode y_M_law.2.1 86 = .ok (.ifCond .ne (13), 3) := by decide +kernel
theorem d_M_law_99 : decode y_M_law.2.1 99 = .ok (.iconst 0, 1) := by decide +kernel
theorem d_M_law_100 : decode y_M_law.2.1 100 = .ok (.istore 7, 2) := by decide +kernel
theorem s_M_law_99 : aw_VS y_M_law 99 [o_c (.int (0 : Int32)), o_ist 7] 102 := .cons (v_iconst (v := (0 : Int32)) d_M_law_99 (by decide +kernel)) (.cons (v_istore d_M_law_100) .nil)
theorem d_M_law_89 : decode y_M_law.2.1 89 = .ok (.aload_n 0, 1) := by decide +kernel
theorem d_M_law_90 : decode y_M_law.2.1 90 = .ok (.iload_n 1, 1) := by decide +kernel
theorem d_M_law_91 : decode y_M_law.2.1 91 = .ok (.iload_n 2, 1) := by decide +kernel
theorem d_M_law_92 : decode y_M_law.2.1 92 = .ok (.iload 4, 2) := by decide +kernel
theorem s_M_law_89 : aw_VS y_M_law 89 [o_ald 0, o_ild 1, o_ild 2, o_ild 4] 94 := .cons (v_aload_n (i := 0) d_M_law_89 rfl) (.cons (v_iload_n (i := 1) d_M_law_90 rfl) (.cons (v_iload_n (i := 2) d_M_law_91 rfl) (.cons (v_iload (i := 4) d_M_law_92) .nil)))
theorem d_M_law_94 : decode y_M_law.2.1 94 = .ok (.invokevirtual 457, 3) := by decide +kernel
theorem b_M_law_81 {X : aw_X} {d : Nat} {Q : Option Value → aw_H → Prop} {I : Nat → Nat → Int32} {L : Nat → Nat → Int64} {D : Nat → Nat} {v1 : Int32} {v2 : Int32} {v3 : Int32} {v4 : Int32} {v5 : Int32}
    (h1 : ¬ v5 = 0 → aw_z X (d + 1) y_M_law Q 102 [some (.ref 69), some (.int v1), some (.int v2), some (.int v3), some (.int v4), some (.int v5), some (.int (0 : Int32)), some (.int (0 : Int32))] [] (aw_s I L D))
    (h2 : v5 = 0 → aw_m X d y_M_standing [.ref 69, .int v1, .int v2, .int v4] (aw_s I L D) (fun r A => aw_z X (d + 1) y_M_law Q 97 [some (.ref 69), some (.int v1), some (.int v2), some (.int v3), some (.int v4), some (.int v5), none, none] (r.toList ++ []) A)) :
    aw_z X (d + 1) y_M_law Q 81 [some (.ref 69), some (.int v1), some (.int v2), some (.int v3), some (.int v4), some (.int v5), none, none] [] (aw_s I L D) :=
  (s_M_law_81.go [some (.ref 69), some (.int v1), some (.int v2), some (.int v3), some (.int v4), some (.int v5), some (.int (0 : Int32)), none] [.int v5] (aw_s I L D) rfl (z_if_ne (tgt := 99) d_M_law_86 rfl (fun q1 => (s_M_law_99.go [some (.ref 69), some (.int v1), some (.int v2), some (.int v3), some (.int v4), some (.int v5), some (.int (0 : Int32)), some (.int (0 : Int32))] [] (aw_s I L D) rfl (h1 q1))) (fun q2 => (s_M_law_89.go [some (.ref 69), some (.int v1), some (.int v2), some (.int v3), some (.int v4), some (.int v5), some (.int (0 : Int32)), none] [.int v4, .int v2, .int v1, .ref 69] (aw_s I L D) rfl (z_callV (av := [.int v1, .int v2, .int v4]) (st := []) ok_M_standing (Or.inl w_2003) w_2005 w_121 k_M d_M_law_94 rfl (aw_lt (o := 69) rfl) rfl rfl (Nat.le_of_ble_eq_true rfl) (Nat.le_refl _) (Nat.le_refl _) (aw_C.mono (h2 q2) (fun _ _ zz => aw_Z.weak (ls' := [some (.ref 69), some (.int v1), some (.int v2), some (.int v3), some (.int v4), some (.int v5), none, none]) zz (Nat.le_of_ble_eq_true rfl) ⟨Or.inr rfl, ⟨Or.inr rfl, ⟨Or.inr rfl, ⟨Or.inr rfl, ⟨Or.inr rfl, ⟨Or.inr rfl, ⟨Or.inl rfl, ⟨Or.inl rfl, trivial⟩⟩⟩⟩⟩⟩⟩⟩)))))))
theorem d_M_law_76 : decode y_M_law.2.1 76 = .ok (.if_icmp .le (5), 3) := by decide +kernel
theorem b_M_law_76 {X : aw_X} {d : Nat} {Q : Option Value → aw_H → Prop} {I : Nat → Nat → Int32} {L : Nat → Nat → Int64} {D : Nat → Nat} {v1 : Int32} {v2 : Int32} {v3 : Int32} {v4 : Int32} {v5 : Int32} {s1 : Int32} {s0 : Int32}
    (h1 : s0 ≤ s1 → aw_z X (d + 1) y_M_law Q 81 [some (.ref 69), some (.int v1), some (.int v2), some (.int v3), some (.int v4), some (.int v5), none, none] [] (aw_s I L D))
    (h2 : ¬ s0 ≤ s1 → Q (some (.int (-1 : Int32))) (aw_s I L D)) :
    aw_z X (d + 1) y_M_law Q 76 [some (.ref 69), some (.int v1), some (.int v2), some (.int v3), some (.int v4), some (.int v5), none, none] [.int s1, .int s0] (aw_s I L D) :=
  (z_icmp_le (tgt := 81) d_M_law_76 rfl (fun q1 => (h1 q1)) (fun q2 => (s_M_law_79.go [some (.ref 69), some (.int v1), some (.int v2), some (.int v3), some (.int v4), some (.int v5), none, none] [.int (-1 : Int32)] (aw_s I L D) rfl (z_iret d_M_law_80 rfl rfl (h2 q2)))))
theorem d_M_law_102 : decode y_M_law.2.1 102 = .ok (.iload 7, 2) := by decide +kernel
theorem d_M_law_104 : decode y_M_law.2.1 104 = .ok (.aload_n 0, 1) := by decide +kernel
theorem s_M_law_102 : aw_VS y_M_law 102 [o_ild 7, o_ald 0] 105 := .cons (v_iload (i := 7) d_M_law_102) (.cons (v_aload_n (i := 0) d_M_law_104 rfl) .nil)
theorem d_M_law_105 : decode y_M_law.2.1 105 = .ok (.invokevirtual 366, 3) := by decide +kernel
theorem b_M_law_102 {X : aw_X} {d : Nat} {Q : Option Value → aw_H → Prop} {I : Nat → Nat → Int32} {L : Nat → Nat → Int64} {D : Nat → Nat} {v1 : Int32} {v2 : Int32} {v3 : Int32} {v4 : Int32} {v5 : Int32} {v6 : Int32} {v7 : Int32}
    (h1 : aw_m X d y_M_mask [.ref 69] (aw_s I L D) (fun r A => aw_z X (d + 1) y_M_law Q 108 [some (.ref 69), some (.int v1), some (.int v2), some (.int v3), some (.int v4), some (.int v5), some (.int v6), some (.int v7)] (r.toList ++ [.int v7]) A)) :
    aw_z X (d + 1) y_M_law Q 102 [some (.ref 69), some (.int v1), some (.int v2), some (.int v3), some (.int v4), some (.int v5), some (.int v6), some (.int v7)] [] (aw_s I L D) :=
  (s_M_law_102.go [some (.ref 69), some (.int v1), some (.int v2), some (.int v3), some (.int v4), some (.int v5), some (.int v6), some (.int v7)] [.ref 69, .int v7] (aw_s I L D) rfl (z_callV (av := []) (st := [.int v7]) ok_M_mask (Or.inl w_1931) w_1933 w_109 k_M d_M_law_105 rfl (aw_lt (o := 69) rfl) rfl rfl (Nat.le_of_ble_eq_true rfl) (Nat.le_refl _) (Nat.le_refl _) (h1)))
theorem d_M_law_97 : decode y_M_law.2.1 97 = .ok (.istore 6, 2) := by decide +kernel
theorem s_M_law_97 : aw_VS y_M_law 97 [o_ist 6] 99 := .cons (v_istore d_M_law_97) .nil
theorem b_M_law_97 {X : aw_X} {d : Nat} {Q : Option Value → aw_H → Prop} {I : Nat → Nat → Int32} {L : Nat → Nat → Int64} {D : Nat → Nat} {v1 : Int32} {v2 : Int32} {v3 : Int32} {v4 : Int32} {v5 : Int32} {s0 : Int32}
    (h1 : aw_z X (d + 1) y_M_law Q 102 [some (.ref 69), some (.int v1), some (.int v2), some (.int v3), some (.int v4), some (.int v5), some (.int s0), some (.int (0 : Int32))] [] (aw_s I L D)) :
    aw_z X (d + 1) y_M_law Q 97 [some (.ref 69), some (.int v1), some (.int v2), some (.int v3), some (.int v4), some (.int v5), none, none] [.int s0] (aw_s I L D) :=
  (s_M_law_97.go [some (.ref 69), some (.int v1), some (.int v2), some (.int v3), some (.int v4), some (.int v5), some (.int s0), none] [] (aw_s I L D) rfl (s_M_law_99.go [some (.ref 69), some (.int v1), some (.int v2), some (.int v3), some (.int v4), some (.int v5), some (.int s0), some (.int (0 : Int32))] [] (aw_s I L D) rfl (h1)))
theorem d_M_law_108 : decode y_M_law.2.1 108 = .ok (.if_icmp .gt (69), 3) := by decide +kernel
theorem d_M_law_111 : decode y_M_law.2.1 111 = .ok (.iload 5, 2) := by decide +kernel
theorem s_M_law_111 : aw_VS y_M_law 111 [o_ild 5] 113 := .cons (v_iload (i := 5) d_M_law_111) .nil
theorem d_M_law_113 : decode y_M_law.2.1 113 = .ok (.ifCond .eq (64), 3) := by decide +kernel
theorem d_M_law_116 : decode y_M_law.2.1 116 = .ok (.aload_n 0, 1) := by decide +kernel
theorem d_M_law_117 : decode y_M_law.2.1 117 = .ok (.getfield 75, 3) := by decide +kernel
theorem d_M_law_120 : decode y_M_law.2.1 120 = .ok (.bipush 8, 2) := by decide +kernel
theorem d_M_law_122 : decode y_M_law.2.1 122 = .ok (.iload_n 1, 1) := by decide +kernel
theorem d_M_law_123 : decode y_M_law.2.1 123 = .ok (.imul, 1) := by decide +kernel
theorem d_M_law_124 : decode y_M_law.2.1 124 = .ok (.iload_n 2, 1) := by decide +kernel
theorem d_M_law_125 : decode y_M_law.2.1 125 = .ok (.iadd, 1) := by decide +kernel
theorem s_M_law_116 : aw_VS y_M_law 116 [o_ald 0, o_getA 9 49, o_c (.int (8 : Int32)), o_ild 1, o_i2 (fun x z => x * z), o_ild 2, o_i2 (fun x z => x + z)] 126 := .cons (v_aload_n (i := 0) d_M_law_116 rfl) (.cons (v_getA (k := 49) k_M (by decide) rfl (Or.inl w_1510) d_M_law_117) (.cons (v_bipush (v := (8 : Int32)) d_M_law_120 (by decide +kernel)) (.cons (v_iload_n (i := 1) d_M_law_122 rfl) (.cons (v_imul d_M_law_123) (.cons (v_iload_n (i := 2) d_M_law_124 rfl) (.cons (v_iadd d_M_law_125) .nil))))))
theorem d_M_law_126 : decode y_M_law.2.1 126 = .ok (.laload, 1) := by decide +kernel
theorem d_M_law_127 : decode y_M_law.2.1 127 = .ok (.iload 7, 2) := by decide +kernel
theorem d_M_law_129 : decode y_M_law.2.1 129 = .ok (.lshr, 1) := by decide +kernel
theorem d_M_law_130 : decode y_M_law.2.1 130 = .ok (.lconst 1, 1) := by decide +kernel
theorem d_M_law_131 : decode y_M_law.2.1 131 = .ok (.land, 1) := by decide +kernel
theorem d_M_law_132 : decode y_M_law.2.1 132 = .ok (.lconst 1, 1) := by decide +kernel
theorem d_M_law_133 : decode y_M_law.2.1 133 = .ok (.lcmp, 1) := by decide +kernel
theorem s_M_law_127 : aw_VS y_M_law 127 [o_ild 7, o_ls (fun x z => x >>> (z.toInt64 &&& 63)), o_c (.long (1 : Int64)), o_l2 (fun x z => x &&& z), o_c (.long (1 : Int64)), o_lc] 134 := .cons (v_iload (i := 7) d_M_law_127) (.cons (v_lshr d_M_law_129) (.cons (v_lconst (v := (1 : Int64)) d_M_law_130 (by decide +kernel)) (.cons (v_land d_M_law_131) (.cons (v_lconst (v := (1 : Int64)) d_M_law_132 (by decide +kernel)) (.cons (v_lcmp d_M_law_133) .nil)))))
theorem d_M_law_134 : decode y_M_law.2.1 134 = .ok (.ifCond .ne (37), 3) := by decide +kernel
theorem d_M_law_171 : decode y_M_law.2.1 171 = .ok (.iinc 7 (1), 3) := by decide +kernel
theorem s_M_law_171 : aw_VS y_M_law 171 [o_inc 7 (1 : Int32)] 174 := .cons (v_iinc (k0 := (1 : Int32)) d_M_law_171 (by decide +kernel)) .nil
theorem d_M_law_174 : decode y_M_law.2.1 174 = .ok (.goto (-72), 3) := by decide +kernel
theorem d_M_law_137 : decode y_M_law.2.1 137 = .ok (.iload 6, 2) := by decide +kernel
theorem d_M_law_139 : decode y_M_law.2.1 139 = .ok (.iload 7, 2) := by decide +kernel
theorem d_M_law_141 : decode y_M_law.2.1 141 = .ok (.iload 4, 2) := by decide +kernel
theorem d_M_law_143 : decode y_M_law.2.1 143 = .ok (.bipush 100, 2) := by decide +kernel
theorem d_M_law_145 : decode y_M_law.2.1 145 = .ok (.isub, 1) := by decide +kernel
theorem s_M_law_137 : aw_VS y_M_law 137 [o_ild 6, o_ild 7, o_ild 4, o_c (.int (100 : Int32)), o_i2 (fun x z => x - z)] 146 := .cons (v_iload (i := 6) d_M_law_137) (.cons (v_iload (i := 7) d_M_law_139) (.cons (v_iload (i := 4) d_M_law_141) (.cons (v_bipush (v := (100 : Int32)) d_M_law_143 (by decide +kernel)) (.cons (v_isub d_M_law_145) .nil))))
theorem d_M_law_146 : decode y_M_law.2.1 146 = .ok (.if_icmp .ge (7), 3) := by decide +kernel
theorem d_M_law_153 : decode y_M_law.2.1 153 = .ok (.iload 7, 2) := by decide +kernel
theorem d_M_law_155 : decode y_M_law.2.1 155 = .ok (.iload 4, 2) := by decide +kernel
theorem d_M_law_157 : decode y_M_law.2.1 157 = .ok (.bipush 100, 2) := by decide +kernel
theorem d_M_law_159 : decode y_M_law.2.1 159 = .ok (.isub, 1) := by decide +kernel
theorem s_M_law_153 : aw_VS y_M_law 153 [o_ild 7, o_ild 4, o_c (.int (100 : Int32)), o_i2 (fun x z => x - z)] 160 := .cons (v_iload (i := 7) d_M_law_153) (.cons (v_iload (i := 4) d_M_law_155) (.cons (v_bipush (v := (100 : Int32)) d_M_law_157 (by decide +kernel)) (.cons (v_isub d_M_law_159) .nil)))
theorem d_M_law_160 : decode y_M_law.2.1 160 = .ok (.if_icmp .ne (7), 3) := by decide +kernel
theorem d_M_law_167 : decode y_M_law.2.1 167 = .ok (.iconst 4, 1) := by decide +kernel
theorem s_M_law_167 : aw_VS y_M_law 167 [o_c (.int (4 : Int32))] 168 := .cons (v_iconst (v := (4 : Int32)) d_M_law_167 (by decide +kernel)) .nil
theorem d_M_law_168 : decode y_M_law.2.1 168 = .ok (.ior, 1) := by decide +kernel
theorem d_M_law_169 : decode y_M_law.2.1 169 = .ok (.istore 6, 2) := by decide +kernel
theorem s_M_law_168 : aw_VS y_M_law 168 [o_i2 (fun x z => x ||| z), o_ist 6] 171 := .cons (v_ior d_M_law_168) (.cons (v_istore d_M_law_169) .nil)
theorem d_M_law_163 : decode y_M_law.2.1 163 = .ok (.iconst 2, 1) := by decide +kernel
theorem s_M_law_163 : aw_VS y_M_law 163 [o_c (.int (2 : Int32))] 164 := .cons (v_iconst (v := (2 : Int32)) d_M_law_163 (by decide +kernel)) .nil
theorem d_M_law_164 : decode y_M_law.2.1 164 = .ok (.goto (4), 3) := by decide +kernel
theorem d_M_law_149 : decode y_M_law.2.1 149 = .ok (.iconst 1, 1) := by decide +kernel
theorem s_M_law_149 : aw_VS y_M_law 149 [o_c (.int (1 : Int32))] 150 := .cons (v_iconst (v := (1 : Int32)) d_M_law_149 (by decide +kernel)) .nil
theorem d_M_law_150 : decode y_M_law.2.1 150 = .ok (.goto (18), 3) := by decide +kernel
theorem b_M_law_108 {X : aw_X} {d : Nat} {Q : Option Value → aw_H → Prop} {I : Nat → Nat → Int32} {L : Nat → Nat → Int64} {D : Nat → Nat} {v1 : Int32} {v2 : Int32} {v3 : Int32} {v4 : Int32} {v5 : Int32} {v6 : Int32} {v7 : Int32} {s1 : Int32} {s0 : Int32}
    (h1 : s1 < s0 → aw_z X (d + 1) y_M_law Q 177 [none, none, none, some (.int v3), none, none, some (.int v6), none] [] (aw_s I L D))
    (h2 : ¬ s1 < s0 → v5 = 0 → aw_z X (d + 1) y_M_law Q 177 [none, none, none, some (.int v3), none, none, some (.int v6), none] [] (aw_s I L D))
    (h3 : ¬ s1 < s0 → ¬ v5 = 0 → vp_in (((8 : Int32) * v1) + v2) 480)
    (h4 : ¬ s1 < s0 → ¬ v5 = 0 → ¬ (lg_cmp (((L 89 ((((8 : Int32) * v1) + v2).toNatClampNeg)) >>> (v7.toInt64 &&& 63)) &&& (1 : Int64)) (1 : Int64)) = 0 → aw_z X (d + 1) y_M_law Q 102 [some (.ref 69), some (.int v1), some (.int v2), some (.int v3), some (.int v4), some (.int v5), some (.int v6), some (.int (v7 + (1 : Int32)))] [] (aw_s I L D))
    (h5 : ¬ s1 < s0 → ¬ v5 = 0 → (lg_cmp (((L 89 ((((8 : Int32) * v1) + v2).toNatClampNeg)) >>> (v7.toInt64 &&& 63)) &&& (1 : Int64)) (1 : Int64)) = 0 → (v4 - (100 : Int32)) ≤ v7 → ¬ v7 = (v4 - (100 : Int32)) → aw_z X (d + 1) y_M_law Q 102 [some (.ref 69), some (.int v1), some (.int v2), some (.int v3), some (.int v4), some (.int v5), some (.int (v6 ||| (4 : Int32))), some (.int (v7 + (1 : Int32)))] [] (aw_s I L D))
    (h6 : ¬ s1 < s0 → ¬ v5 = 0 → (lg_cmp (((L 89 ((((8 : Int32) * v1) + v2).toNatClampNeg)) >>> (v7.toInt64 &&& 63)) &&& (1 : Int64)) (1 : Int64)) = 0 → (v4 - (100 : Int32)) ≤ v7 → v7 = (v4 - (100 : Int32)) → aw_z X (d + 1) y_M_law Q 102 [some (.ref 69), some (.int v1), some (.int v2), some (.int v3), some (.int v4), some (.int v5), some (.int (v6 ||| (2 : Int32))), some (.int (v7 + (1 : Int32)))] [] (aw_s I L D))
    (h7 : ¬ s1 < s0 → ¬ v5 = 0 → (lg_cmp (((L 89 ((((8 : Int32) * v1) + v2).toNatClampNeg)) >>> (v7.toInt64 &&& 63)) &&& (1 : Int64)) (1 : Int64)) = 0 → ¬ (v4 - (100 : Int32)) ≤ v7 → aw_z X (d + 1) y_M_law Q 102 [some (.ref 69), some (.int v1), some (.int v2), some (.int v3), some (.int v4), some (.int v5), some (.int (v6 ||| (1 : Int32))), some (.int (v7 + (1 : Int32)))] [] (aw_s I L D)) :
    aw_z X (d + 1) y_M_law Q 108 [some (.ref 69), some (.int v1), some (.int v2), some (.int v3), some (.int v4), some (.int v5), some (.int v6), some (.int v7)] [.int s1, .int s0] (aw_s I L D) :=
  (z_icmp_gt (tgt := 177) d_M_law_108 rfl (fun q1 => (aw_Z.weak (ls' := [none, none, none, some (.int v3), none, none, some (.int v6), none]) (h1 q1) (Nat.le_of_ble_eq_true rfl) ⟨Or.inl rfl, ⟨Or.inl rfl, ⟨Or.inl rfl, ⟨Or.inr rfl, ⟨Or.inl rfl, ⟨Or.inl rfl, ⟨Or.inr rfl, ⟨Or.inl rfl, trivial⟩⟩⟩⟩⟩⟩⟩⟩)) (fun q2 => (s_M_law_111.go [some (.ref 69), some (.int v1), some (.int v2), some (.int v3), some (.int v4), some (.int v5), some (.int v6), some (.int v7)] [.int v5] (aw_s I L D) rfl (z_if_eq (tgt := 177) d_M_law_113 rfl (fun q3 => (aw_Z.weak (ls' := [none, none, none, some (.int v3), none, none, some (.int v6), none]) (h2 q2 q3) (Nat.le_of_ble_eq_true rfl) ⟨Or.inl rfl, ⟨Or.inl rfl, ⟨Or.inl rfl, ⟨Or.inr rfl, ⟨Or.inl rfl, ⟨Or.inl rfl, ⟨Or.inr rfl, ⟨Or.inl rfl, trivial⟩⟩⟩⟩⟩⟩⟩⟩)) (fun q4 => (s_M_law_116.go [some (.ref 69), some (.int v1), some (.int v2), some (.int v3), some (.int v4), some (.int v5), some (.int v6), some (.int v7)] [.int (((8 : Int32) * v1) + v2), .ref 89] (aw_s I L D) rfl (z_lald (n := 480) rfl (aw_lt (o := 89) rfl) (h3 q2 q4) d_M_law_126 (s_M_law_127.go [some (.ref 69), some (.int v1), some (.int v2), some (.int v3), some (.int v4), some (.int v5), some (.int v6), some (.int v7)] [.int (lg_cmp (((L 89 ((((8 : Int32) * v1) + v2).toNatClampNeg)) >>> (v7.toInt64 &&& 63)) &&& (1 : Int64)) (1 : Int64))] (aw_s I L D) rfl (z_if_ne (tgt := 171) d_M_law_134 rfl (fun q5 => (s_M_law_171.go [some (.ref 69), some (.int v1), some (.int v2), some (.int v3), some (.int v4), some (.int v5), some (.int v6), some (.int (v7 + (1 : Int32)))] [] (aw_s I L D) rfl (z_goto (tgt := 102) d_M_law_174 rfl (h4 q2 q4 q5)))) (fun q6 => (s_M_law_137.go [some (.ref 69), some (.int v1), some (.int v2), some (.int v3), some (.int v4), some (.int v5), some (.int v6), some (.int v7)] [.int (v4 - (100 : Int32)), .int v7, .int v6] (aw_s I L D) rfl (z_icmp_ge (tgt := 153) d_M_law_146 rfl (fun q7 => (s_M_law_153.go [some (.ref 69), some (.int v1), some (.int v2), some (.int v3), some (.int v4), some (.int v5), some (.int v6), some (.int v7)] [.int (v4 - (100 : Int32)), .int v7, .int v6] (aw_s I L D) rfl (z_icmp_ne (tgt := 167) d_M_law_160 rfl (fun q9 => (s_M_law_167.go [some (.ref 69), some (.int v1), some (.int v2), some (.int v3), some (.int v4), some (.int v5), some (.int v6), some (.int v7)] [.int (4 : Int32), .int v6] (aw_s I L D) rfl (s_M_law_168.go [some (.ref 69), some (.int v1), some (.int v2), some (.int v3), some (.int v4), some (.int v5), some (.int (v6 ||| (4 : Int32))), some (.int v7)] [] (aw_s I L D) rfl (s_M_law_171.go [some (.ref 69), some (.int v1), some (.int v2), some (.int v3), some (.int v4), some (.int v5), some (.int (v6 ||| (4 : Int32))), some (.int (v7 + (1 : Int32)))] [] (aw_s I L D) rfl (z_goto (tgt := 102) d_M_law_174 rfl (h5 q2 q4 q6 q7 q9)))))) (fun q10 => (s_M_law_163.go [some (.ref 69), some (.int v1), some (.int v2), some (.int v3), some (.int v4), some (.int v5), some (.int v6), some (.int v7)] [.int (2 : Int32), .int v6] (aw_s I L D) rfl (z_goto (tgt := 168) d_M_law_164 rfl (s_M_law_168.go [some (.ref 69), some (.int v1), some (.int v2), some (.int v3), some (.int v4), some (.int v5), some (.int (v6 ||| (2 : Int32))), some (.int v7)] [] (aw_s I L D) rfl (s_M_law_171.go [some (.ref 69), some (.int v1), some (.int v2), some (.int v3), some (.int v4), some (.int v5), some (.int (v6 ||| (2 : Int32))), some (.int (v7 + (1 : Int32)))] [] (aw_s I L D) rfl (z_goto (tgt := 102) d_M_law_174 rfl (h6 q2 q4 q6 q7 q10)))))))))) (fun q8 => (s_M_law_149.go [some (.ref 69), some (.int v1), some (.int v2), some (.int v3), some (.int v4), some (.int v5), some (.int v6), some (.int v7)] [.int (1 : Int32), .int v6] (aw_s I L D) rfl (z_goto (tgt := 168) d_M_law_150 rfl (s_M_law_168.go [some (.ref 69), some (.int v1), some (.int v2), some (.int v3), some (.int v4), some (.int v5), some (.int (v6 ||| (1 : Int32))), some (.int v7)] [] (aw_s I L D) rfl (s_M_law_171.go [some (.ref 69), some (.int v1), some (.int v2), some (.int v3), some (.int v4), some (.int v5), some (.int (v6 ||| (1 : Int32))), some (.int (v7 + (1 : Int32)))] [] (aw_s I L D) rfl (z_goto (tgt := 102) d_M_law_174 rfl (h7 q2 q4 q6 q8)))))))))))))))))))
theorem d_M_law_177 : decode y_M_law.2.1 177 = .ok (.iload_n 3, 1) := by decide +kernel
theorem d_M_law_178 : decode y_M_law.2.1 178 = .ok (.iconst 3, 1) := by decide +kernel
theorem s_M_law_177 : aw_VS y_M_law 177 [o_ild 3, o_c (.int (3 : Int32))] 179 := .cons (v_iload_n (i := 3) d_M_law_177 rfl) (.cons (v_iconst (v := (3 : Int32)) d_M_law_178 (by decide +kernel)) .nil)
theorem d_M_law_179 : decode y_M_law.2.1 179 = .ok (.if_icmp .ne (7), 3) := by decide +kernel
theorem d_M_law_186 : decode y_M_law.2.1 186 = .ok (.iconst 1, 1) := by decide +kernel
theorem d_M_law_187 : decode y_M_law.2.1 187 = .ok (.iload_n 3, 1) := by decide +kernel
theorem d_M_law_188 : decode y_M_law.2.1 188 = .ok (.ishl, 1) := by decide +kernel
theorem s_M_law_186 : aw_VS y_M_law 186 [o_c (.int (1 : Int32)), o_ild 3, o_i2 (fun x z => x <<< (z &&& 31))] 189 := .cons (v_iconst (v := (1 : Int32)) d_M_law_186 (by decide +kernel)) (.cons (v_iload_n (i := 3) d_M_law_187 rfl) (.cons (v_ishl d_M_law_188) .nil))
theorem d_M_law_182 : decode y_M_law.2.1 182 = .ok (.iconst 5, 1) := by decide +kernel
theorem s_M_law_182 : aw_VS y_M_law 182 [o_c (.int (5 : Int32))] 183 := .cons (v_iconst (v := (5 : Int32)) d_M_law_182 (by decide +kernel)) .nil
theorem d_M_law_183 : decode y_M_law.2.1 183 = .ok (.goto (6), 3) := by decide +kernel
theorem b_M_law_177 {X : aw_X} {d : Nat} {Q : Option Value → aw_H → Prop} {I : Nat → Nat → Int32} {L : Nat → Nat → Int64} {D : Nat → Nat} {v3 : Int32} {v6 : Int32}
    (h1 : ¬ v3 = (3 : Int32) → aw_z X (d + 1) y_M_law Q 189 [none, none, none, none, none, none, some (.int v6), none] [.int ((1 : Int32) <<< (v3 &&& 31))] (aw_s I L D))
    (h2 : v3 = (3 : Int32) → aw_z X (d + 1) y_M_law Q 189 [none, none, none, none, none, none, some (.int v6), none] [.int (5 : Int32)] (aw_s I L D)) :
    aw_z X (d + 1) y_M_law Q 177 [none, none, none, some (.int v3), none, none, some (.int v6), none] [] (aw_s I L D) :=
  (s_M_law_177.go [none, none, none, some (.int v3), none, none, some (.int v6), none] [.int (3 : Int32), .int v3] (aw_s I L D) rfl (z_icmp_ne (tgt := 186) d_M_law_179 rfl (fun q1 => (s_M_law_186.go [none, none, none, some (.int v3), none, none, some (.int v6), none] [.int ((1 : Int32) <<< (v3 &&& 31))] (aw_s I L D) rfl (aw_Z.weak (ls' := [none, none, none, none, none, none, some (.int v6), none]) (h1 q1) (Nat.le_of_ble_eq_true rfl) ⟨Or.inl rfl, ⟨Or.inl rfl, ⟨Or.inl rfl, ⟨Or.inl rfl, ⟨Or.inl rfl, ⟨Or.inl rfl, ⟨Or.inr rfl, ⟨Or.inl rfl, trivial⟩⟩⟩⟩⟩⟩⟩⟩))) (fun q2 => (s_M_law_182.go [none, none, none, some (.int v3), none, none, some (.int v6), none] [.int (5 : Int32)] (aw_s I L D) rfl (z_goto (tgt := 189) d_M_law_183 rfl (aw_Z.weak (ls' := [none, none, none, none, none, none, some (.int v6), none]) (h2 q2) (Nat.le_of_ble_eq_true rfl) ⟨Or.inl rfl, ⟨Or.inl rfl, ⟨Or.inl rfl, ⟨Or.inl rfl, ⟨Or.inl rfl, ⟨Or.inl rfl, ⟨Or.inr rfl, ⟨Or.inl rfl, trivial⟩⟩⟩⟩⟩⟩⟩⟩))))))
theorem d_M_law_189 : decode y_M_law.2.1 189 = .ok (.istore 7, 2) := by decide +kernel
theorem d_M_law_191 : decode y_M_law.2.1 191 = .ok (.iload 6, 2) := by decide +kernel
theorem d_M_law_193 : decode y_M_law.2.1 193 = .ok (.iload 7, 2) := by decide +kernel
theorem d_M_law_195 : decode y_M_law.2.1 195 = .ok (.iconst (-1), 1) := by decide +kernel
theorem d_M_law_196 : decode y_M_law.2.1 196 = .ok (.ixor, 1) := by decide +kernel
theorem d_M_law_197 : decode y_M_law.2.1 197 = .ok (.iand, 1) := by decide +kernel
theorem s_M_law_189 : aw_VS y_M_law 189 [o_ist 7, o_ild 6, o_ild 7, o_c (.int (-1 : Int32)), o_i2 (fun x z => x ^^^ z), o_i2 (fun x z => x &&& z)] 198 := .cons (v_istore d_M_law_189) (.cons (v_iload (i := 6) d_M_law_191) (.cons (v_iload (i := 7) d_M_law_193) (.cons (v_iconst (v := (-1 : Int32)) d_M_law_195 (by decide +kernel)) (.cons (v_ixor d_M_law_196) (.cons (v_iand d_M_law_197) .nil)))))
theorem d_M_law_198 : decode y_M_law.2.1 198 = .ok (.ifCond .ne (7), 3) := by decide +kernel
theorem d_M_law_205 : decode y_M_law.2.1 205 = .ok (.iconst 0, 1) := by decide +kernel
theorem s_M_law_205 : aw_VS y_M_law 205 [o_c (.int (0 : Int32))] 206 := .cons (v_iconst (v := (0 : Int32)) d_M_law_205 (by decide +kernel)) .nil
theorem d_M_law_206 : decode y_M_law.2.1 206 = .ok (.ireturn, 1) := by decide +kernel
theorem d_M_law_201 : decode y_M_law.2.1 201 = .ok (.iconst 1, 1) := by decide +kernel
theorem s_M_law_201 : aw_VS y_M_law 201 [o_c (.int (1 : Int32))] 202 := .cons (v_iconst (v := (1 : Int32)) d_M_law_201 (by decide +kernel)) .nil
theorem d_M_law_202 : decode y_M_law.2.1 202 = .ok (.goto (4), 3) := by decide +kernel
theorem b_M_law_189 {X : aw_X} {d : Nat} {Q : Option Value → aw_H → Prop} {I : Nat → Nat → Int32} {L : Nat → Nat → Int64} {D : Nat → Nat} {v6 : Int32} {s0 : Int32}
    (h1 : ¬ (v6 &&& (s0 ^^^ (-1 : Int32))) = 0 → Q (some (.int (0 : Int32))) (aw_s I L D))
    (h2 : (v6 &&& (s0 ^^^ (-1 : Int32))) = 0 → Q (some (.int (1 : Int32))) (aw_s I L D)) :
    aw_z X (d + 1) y_M_law Q 189 [none, none, none, none, none, none, some (.int v6), none] [.int s0] (aw_s I L D) :=
  (s_M_law_189.go [none, none, none, none, none, none, some (.int v6), some (.int s0)] [.int (v6 &&& (s0 ^^^ (-1 : Int32)))] (aw_s I L D) rfl (z_if_ne (tgt := 205) d_M_law_198 rfl (fun q1 => (s_M_law_205.go [none, none, none, none, none, none, some (.int v6), some (.int s0)] [.int (0 : Int32)] (aw_s I L D) rfl (z_iret d_M_law_206 rfl rfl (h1 q1)))) (fun q2 => (s_M_law_201.go [none, none, none, none, none, none, some (.int v6), some (.int s0)] [.int (1 : Int32)] (aw_s I L D) rfl (z_goto (tgt := 206) d_M_law_202 rfl (z_iret d_M_law_206 rfl rfl (h2 q2)))))))
/-! M_standing -/
theorem d_M_standing_0 : decode y_M_standing.2.1 0 = .ok (.aload_n 0, 1) := by decide +kernel
theorem s_M_standing_0 : aw_VS y_M_standing 0 [o_ald 0] 1 := .cons (v_aload_n (i := 0) d_M_standing_0 rfl) .nil
theorem d_M_standing_1 : decode y_M_standing.2.1 1 = .ok (.invokevirtual 454, 3) := by decide +kernel
theorem b_M_standing_0 {X : aw_X} {d : Nat} {Q : Option Value → aw_H → Prop} {I : Nat → Nat → Int32} {L : Nat → Nat → Int64} {D : Nat → Nat} {v1 : Int32} {v2 : Int32} {v3 : Int32}
    (h1 : aw_m X d y_M_findStands [.ref 69] (aw_s I L D) (fun r A => aw_z X (d + 1) y_M_standing Q 4 [some (.ref 69), some (.int v1), some (.int v2), some (.int v3), none] (r.toList ++ []) A)) :
    aw_z X (d + 1) y_M_standing Q 0 [some (.ref 69), some (.int v1), some (.int v2), some (.int v3), none] [] (aw_s I L D) :=
  (s_M_standing_0.go [some (.ref 69), some (.int v1), some (.int v2), some (.int v3), none] [.ref 69] (aw_s I L D) rfl (z_callV (av := []) (st := []) ok_M_findStands (Or.inl w_2007) w_2009 w_122 k_M d_M_standing_1 rfl (aw_lt (o := 69) rfl) rfl rfl (Nat.le_of_ble_eq_true rfl) (Nat.le_refl _) (Nat.le_refl _) (h1)))
theorem d_M_standing_4 : decode y_M_standing.2.1 4 = .ok (.iload_n 2, 1) := by decide +kernel
theorem d_M_standing_5 : decode y_M_standing.2.1 5 = .ok (.iload_n 3, 1) := by decide +kernel
theorem s_M_standing_4 : aw_VS y_M_standing 4 [o_ild 2, o_ild 3] 6 := .cons (v_iload_n (i := 2) d_M_standing_4 rfl) (.cons (v_iload_n (i := 3) d_M_standing_5 rfl) .nil)
theorem d_M_standing_6 : decode y_M_standing.2.1 6 = .ok (.if_icmp .ne (5), 3) := by decide +kernel
theorem d_M_standing_11 : decode y_M_standing.2.1 11 = .ok (.iload_n 2, 1) := by decide +kernel
theorem d_M_standing_12 : decode y_M_standing.2.1 12 = .ok (.iload_n 3, 1) := by decide +kernel
theorem s_M_standing_11 : aw_VS y_M_standing 11 [o_ild 2, o_ild 3] 13 := .cons (v_iload_n (i := 2) d_M_standing_11 rfl) (.cons (v_iload_n (i := 3) d_M_standing_12 rfl) .nil)
theorem d_M_standing_13 : decode y_M_standing.2.1 13 = .ok (.if_icmp .ge (20), 3) := by decide +kernel
theorem d_M_standing_33 : decode y_M_standing.2.1 33 = .ok (.aload_n 0, 1) := by decide +kernel
theorem d_M_standing_34 : decode y_M_standing.2.1 34 = .ok (.getfield 79, 3) := by decide +kernel
theorem d_M_standing_37 : decode y_M_standing.2.1 37 = .ok (.bipush 64, 2) := by decide +kernel
theorem d_M_standing_39 : decode y_M_standing.2.1 39 = .ok (.iload_n 1, 1) := by decide +kernel
theorem d_M_standing_40 : decode y_M_standing.2.1 40 = .ok (.imul, 1) := by decide +kernel
theorem d_M_standing_41 : decode y_M_standing.2.1 41 = .ok (.bipush 8, 2) := by decide +kernel
theorem d_M_standing_43 : decode y_M_standing.2.1 43 = .ok (.iload_n 3, 1) := by decide +kernel
theorem d_M_standing_44 : decode y_M_standing.2.1 44 = .ok (.imul, 1) := by decide +kernel
theorem d_M_standing_45 : decode y_M_standing.2.1 45 = .ok (.iadd, 1) := by decide +kernel
theorem d_M_standing_46 : decode y_M_standing.2.1 46 = .ok (.iload_n 2, 1) := by decide +kernel
theorem d_M_standing_47 : decode y_M_standing.2.1 47 = .ok (.iadd, 1) := by decide +kernel
theorem s_M_standing_33 : aw_VS y_M_standing 33 [o_ald 0, o_getA 9 50, o_c (.int (64 : Int32)), o_ild 1, o_i2 (fun x z => x * z), o_c (.int (8 : Int32)), o_ild 3, o_i2 (fun x z => x * z), o_i2 (fun x z => x + z), o_ild 2, o_i2 (fun x z => x + z)] 48 := .cons (v_aload_n (i := 0) d_M_standing_33 rfl) (.cons (v_getA (k := 50) k_M (by decide) rfl (Or.inl w_1511) d_M_standing_34) (.cons (v_bipush (v := (64 : Int32)) d_M_standing_37 (by decide +kernel)) (.cons (v_iload_n (i := 1) d_M_standing_39 rfl) (.cons (v_imul d_M_standing_40) (.cons (v_bipush (v := (8 : Int32)) d_M_standing_41 (by decide +kernel)) (.cons (v_iload_n (i := 3) d_M_standing_43 rfl) (.cons (v_imul d_M_standing_44) (.cons (v_iadd d_M_standing_45) (.cons (v_iload_n (i := 2) d_M_standing_46 rfl) (.cons (v_iadd d_M_standing_47) .nil))))))))))
theorem d_M_standing_48 : decode y_M_standing.2.1 48 = .ok (.iaload, 1) := by decide +kernel
theorem d_M_standing_49 : decode y_M_standing.2.1 49 = .ok (.istore 4, 2) := by decide +kernel
theorem d_M_standing_51 : decode y_M_standing.2.1 51 = .ok (.iload 4, 2) := by decide +kernel
theorem d_M_standing_53 : decode y_M_standing.2.1 53 = .ok (.iconst 2, 1) := by decide +kernel
theorem d_M_standing_54 : decode y_M_standing.2.1 54 = .ok (.iand, 1) := by decide +kernel
theorem d_M_standing_55 : decode y_M_standing.2.1 55 = .ok (.iload 4, 2) := by decide +kernel
theorem d_M_standing_57 : decode y_M_standing.2.1 57 = .ok (.iconst 1, 1) := by decide +kernel
theorem d_M_standing_58 : decode y_M_standing.2.1 58 = .ok (.iand, 1) := by decide +kernel
theorem d_M_standing_59 : decode y_M_standing.2.1 59 = .ok (.iconst 2, 1) := by decide +kernel
theorem d_M_standing_60 : decode y_M_standing.2.1 60 = .ok (.ishl, 1) := by decide +kernel
theorem d_M_standing_61 : decode y_M_standing.2.1 61 = .ok (.ior, 1) := by decide +kernel
theorem d_M_standing_62 : decode y_M_standing.2.1 62 = .ok (.iload 4, 2) := by decide +kernel
theorem d_M_standing_64 : decode y_M_standing.2.1 64 = .ok (.iconst 2, 1) := by decide +kernel
theorem d_M_standing_65 : decode y_M_standing.2.1 65 = .ok (.ishr, 1) := by decide +kernel
theorem d_M_standing_66 : decode y_M_standing.2.1 66 = .ok (.ior, 1) := by decide +kernel
theorem s_M_standing_49 : aw_VS y_M_standing 49 [o_ist 4, o_ild 4, o_c (.int (2 : Int32)), o_i2 (fun x z => x &&& z), o_ild 4, o_c (.int (1 : Int32)), o_i2 (fun x z => x &&& z), o_c (.int (2 : Int32)), o_i2 (fun x z => x <<< (z &&& 31)), o_i2 (fun x z => x ||| z), o_ild 4, o_c (.int (2 : Int32)), o_i2 (fun x z => x >>> (z &&& 31)), o_i2 (fun x z => x ||| z)] 67 := .cons (v_istore d_M_standing_49) (.cons (v_iload (i := 4) d_M_standing_51) (.cons (v_iconst (v := (2 : Int32)) d_M_standing_53 (by decide +kernel)) (.cons (v_iand d_M_standing_54) (.cons (v_iload (i := 4) d_M_standing_55) (.cons (v_iconst (v := (1 : Int32)) d_M_standing_57 (by decide +kernel)) (.cons (v_iand d_M_standing_58) (.cons (v_iconst (v := (2 : Int32)) d_M_standing_59 (by decide +kernel)) (.cons (v_ishl d_M_standing_60) (.cons (v_ior d_M_standing_61) (.cons (v_iload (i := 4) d_M_standing_62) (.cons (v_iconst (v := (2 : Int32)) d_M_standing_64 (by decide +kernel)) (.cons (v_ishr d_M_standing_65) (.cons (v_ior d_M_standing_66) .nil)))))))))))))
theorem d_M_standing_67 : decode y_M_standing.2.1 67 = .ok (.ireturn, 1) := by decide +kernel
theorem d_M_standing_16 : decode y_M_standing.2.1 16 = .ok (.aload_n 0, 1) := by decide +kernel
theorem d_M_standing_17 : decode y_M_standing.2.1 17 = .ok (.getfield 79, 3) := by decide +kernel
theorem d_M_standing_20 : decode y_M_standing.2.1 20 = .ok (.bipush 64, 2) := by decide +kernel
theorem d_M_standing_22 : decode y_M_standing.2.1 22 = .ok (.iload_n 1, 1) := by decide +kernel
theorem d_M_standing_23 : decode y_M_standing.2.1 23 = .ok (.imul, 1) := by decide +kernel
theorem d_M_standing_24 : decode y_M_standing.2.1 24 = .ok (.bipush 8, 2) := by decide +kernel
theorem d_M_standing_26 : decode y_M_standing.2.1 26 = .ok (.iload_n 2, 1) := by decide +kernel
theorem d_M_standing_27 : decode y_M_standing.2.1 27 = .ok (.imul, 1) := by decide +kernel
theorem d_M_standing_28 : decode y_M_standing.2.1 28 = .ok (.iadd, 1) := by decide +kernel
theorem d_M_standing_29 : decode y_M_standing.2.1 29 = .ok (.iload_n 3, 1) := by decide +kernel
theorem d_M_standing_30 : decode y_M_standing.2.1 30 = .ok (.iadd, 1) := by decide +kernel
theorem s_M_standing_16 : aw_VS y_M_standing 16 [o_ald 0, o_getA 9 50, o_c (.int (64 : Int32)), o_ild 1, o_i2 (fun x z => x * z), o_c (.int (8 : Int32)), o_ild 2, o_i2 (fun x z => x * z), o_i2 (fun x z => x + z), o_ild 3, o_i2 (fun x z => x + z)] 31 := .cons (v_aload_n (i := 0) d_M_standing_16 rfl) (.cons (v_getA (k := 50) k_M (by decide) rfl (Or.inl w_1511) d_M_standing_17) (.cons (v_bipush (v := (64 : Int32)) d_M_standing_20 (by decide +kernel)) (.cons (v_iload_n (i := 1) d_M_standing_22 rfl) (.cons (v_imul d_M_standing_23) (.cons (v_bipush (v := (8 : Int32)) d_M_standing_24 (by decide +kernel)) (.cons (v_iload_n (i := 2) d_M_standing_26 rfl) (.cons (v_imul d_M_standing_27) (.cons (v_iadd d_M_standing_28) (.cons (v_iload_n (i := 3) d_M_standing_29 rfl) (.cons (v_iadd d_M_standing_30) .nil))))))))))
theorem d_M_standing_31 : decode y_M_standing.2.1 31 = .ok (.iaload, 1) := by decide +kernel
theorem d_M_standing_32 : decode y_M_standing.2.1 32 = .ok (.ireturn, 1) := by decide +kernel
theorem d_M_standing_9 : decode y_M_standing.2.1 9 = .ok (.iconst 2, 1) := by decide +kernel
theorem s_M_standing_9 : aw_VS y_M_standing 9 [o_c (.int (2 : Int32))] 10 := .cons (v_iconst (v := (2 : Int32)) d_M_standing_9 (by decide +kernel)) .nil
theorem d_M_standing_10 : decode y_M_standing.2.1 10 = .ok (.ireturn, 1) := by decide +kernel
theorem b_M_standing_4 {X : aw_X} {d : Nat} {Q : Option Value → aw_H → Prop} {I : Nat → Nat → Int32} {L : Nat → Nat → Int64} {D : Nat → Nat} {v1 : Int32} {v2 : Int32} {v3 : Int32}
    (h1 : ¬ v2 = v3 → v3 ≤ v2 → vp_in ((((64 : Int32) * v1) + ((8 : Int32) * v3)) + v2) 3840)
    (h2 : ¬ v2 = v3 → v3 ≤ v2 → Q (some (.int ((((I 90 (((((64 : Int32) * v1) + ((8 : Int32) * v3)) + v2).toNatClampNeg)) &&& (2 : Int32)) ||| (((I 90 (((((64 : Int32) * v1) + ((8 : Int32) * v3)) + v2).toNatClampNeg)) &&& (1 : Int32)) <<< ((2 : Int32) &&& 31))) ||| ((I 90 (((((64 : Int32) * v1) + ((8 : Int32) * v3)) + v2).toNatClampNeg)) >>> ((2 : Int32) &&& 31))))) (aw_s I L D))
    (h3 : ¬ v2 = v3 → ¬ v3 ≤ v2 → vp_in ((((64 : Int32) * v1) + ((8 : Int32) * v2)) + v3) 3840)
    (h4 : ¬ v2 = v3 → ¬ v3 ≤ v2 → Q (some (.int (I 90 (((((64 : Int32) * v1) + ((8 : Int32) * v2)) + v3).toNatClampNeg)))) (aw_s I L D))
    (h5 : v2 = v3 → Q (some (.int (2 : Int32))) (aw_s I L D)) :
    aw_z X (d + 1) y_M_standing Q 4 [some (.ref 69), some (.int v1), some (.int v2), some (.int v3), none] [] (aw_s I L D) :=
  (s_M_standing_4.go [some (.ref 69), some (.int v1), some (.int v2), some (.int v3), none] [.int v3, .int v2] (aw_s I L D) rfl (z_icmp_ne (tgt := 11) d_M_standing_6 rfl (fun q1 => (s_M_standing_11.go [some (.ref 69), some (.int v1), some (.int v2), some (.int v3), none] [.int v3, .int v2] (aw_s I L D) rfl (z_icmp_ge (tgt := 33) d_M_standing_13 rfl (fun q3 => (s_M_standing_33.go [some (.ref 69), some (.int v1), some (.int v2), some (.int v3), none] [.int ((((64 : Int32) * v1) + ((8 : Int32) * v3)) + v2), .ref 90] (aw_s I L D) rfl (z_iald (n := 3840) rfl (aw_lt (o := 90) rfl) (h1 q1 q3) d_M_standing_48 (s_M_standing_49.go [some (.ref 69), some (.int v1), some (.int v2), some (.int v3), some (.int (I 90 (((((64 : Int32) * v1) + ((8 : Int32) * v3)) + v2).toNatClampNeg)))] [.int ((((I 90 (((((64 : Int32) * v1) + ((8 : Int32) * v3)) + v2).toNatClampNeg)) &&& (2 : Int32)) ||| (((I 90 (((((64 : Int32) * v1) + ((8 : Int32) * v3)) + v2).toNatClampNeg)) &&& (1 : Int32)) <<< ((2 : Int32) &&& 31))) ||| ((I 90 (((((64 : Int32) * v1) + ((8 : Int32) * v3)) + v2).toNatClampNeg)) >>> ((2 : Int32) &&& 31)))] (aw_s I L D) rfl (z_iret d_M_standing_67 rfl rfl (h2 q1 q3)))))) (fun q4 => (s_M_standing_16.go [some (.ref 69), some (.int v1), some (.int v2), some (.int v3), none] [.int ((((64 : Int32) * v1) + ((8 : Int32) * v2)) + v3), .ref 90] (aw_s I L D) rfl (z_iald (n := 3840) rfl (aw_lt (o := 90) rfl) (h3 q1 q4) d_M_standing_31 (z_iret d_M_standing_32 rfl rfl (h4 q1 q4)))))))) (fun q2 => (s_M_standing_9.go [some (.ref 69), some (.int v1), some (.int v2), some (.int v3), none] [.int (2 : Int32)] (aw_s I L D) rfl (z_iret d_M_standing_10 rfl rfl (h5 q2))))))
/-! M_findStands -/
theorem d_M_findStands_0 : decode y_M_findStands.2.1 0 = .ok (.aload_n 0, 1) := by decide +kernel
theorem d_M_findStands_1 : decode y_M_findStands.2.1 1 = .ok (.getfield 417, 3) := by decide +kernel
theorem s_M_findStands_0 : aw_VS y_M_findStands 0 [o_ald 0, o_getI 9 66] 4 := .cons (v_aload_n (i := 0) d_M_findStands_0 rfl) (.cons (v_getI (k := 66) k_M (by decide) (Or.inr rfl) (Or.inl w_1527) d_M_findStands_1) .nil)
theorem d_M_findStands_4 : decode y_M_findStands.2.1 4 = .ok (.ifCond .eq (4), 3) := by decide +kernel
theorem d_M_findStands_8 : decode y_M_findStands.2.1 8 = .ok (.aload_n 0, 1) := by decide +kernel
theorem d_M_findStands_9 : decode y_M_findStands.2.1 9 = .ok (.iconst 1, 1) := by decide +kernel
theorem s_M_findStands_8 : aw_VS y_M_findStands 8 [o_ald 0, o_c (.int (1 : Int32))] 10 := .cons (v_aload_n (i := 0) d_M_findStands_8 rfl) (.cons (v_iconst (v := (1 : Int32)) d_M_findStands_9 (by decide +kernel)) .nil)
theorem d_M_findStands_10 : decode y_M_findStands.2.1 10 = .ok (.putfield 417, 3) := by decide +kernel
theorem d_M_findStands_13 : decode y_M_findStands.2.1 13 = .ok (.iconst 0, 1) := by decide +kernel
theorem d_M_findStands_14 : decode y_M_findStands.2.1 14 = .ok (.istore_n 1, 1) := by decide +kernel
theorem s_M_findStands_13 : aw_VS y_M_findStands 13 [o_c (.int (0 : Int32)), o_ist 1] 15 := .cons (v_iconst (v := (0 : Int32)) d_M_findStands_13 (by decide +kernel)) (.cons (v_istore_n d_M_findStands_14) .nil)
theorem d_M_findStands_7 : decode y_M_findStands.2.1 7 = .ok (.return_, 1) := by decide +kernel
theorem b_M_findStands_0 {X : aw_X} {d : Nat} {Q : Option Value → aw_H → Prop} {I : Nat → Nat → Int32} {L : Nat → Nat → Int64} {D : Nat → Nat} 
    (h1 : (I 69 66) = 0 → aw_z X (d + 1) y_M_findStands Q 15 [some (.ref 69), some (.int (0 : Int32))] [] (aw_s (aw_u I 69 66 (1 : Int32)) L D))
    (h2 : ¬ (I 69 66) = 0 → Q none (aw_s I L D)) :
    aw_z X (d + 1) y_M_findStands Q 0 [some (.ref 69), none] [] (aw_s I L D) :=
  (s_M_findStands_0.go [some (.ref 69), none] [.int (I 69 66)] (aw_s I L D) rfl (z_if_eq (tgt := 8) d_M_findStands_4 rfl (fun q1 => (s_M_findStands_8.go [some (.ref 69), none] [.int (1 : Int32), .ref 69] (aw_s I L D) rfl (z_putZ (k := 66) k_M (by decide) rfl (Or.inl ⟨rfl, Or.inl w_1527⟩) d_M_findStands_10 rfl (aw_lt (o := 69) rfl) (by decide +kernel) (s_M_findStands_13.go [some (.ref 69), some (.int (0 : Int32))] [] (aw_s (aw_u I 69 66 (1 : Int32)) L D) rfl (h1 q1))))) (fun q2 => (z_vret d_M_findStands_7 rfl (h2 q2)))))
theorem d_M_findStands_15 : decode y_M_findStands.2.1 15 = .ok (.iload_n 1, 1) := by decide +kernel
theorem d_M_findStands_16 : decode y_M_findStands.2.1 16 = .ok (.sipush 3840, 3) := by decide +kernel
theorem s_M_findStands_15 : aw_VS y_M_findStands 15 [o_ild 1, o_c (.int (3840 : Int32))] 19 := .cons (v_iload_n (i := 1) d_M_findStands_15 rfl) (.cons (v_sipush (v := (3840 : Int32)) d_M_findStands_16 (by decide +kernel)) .nil)
theorem d_M_findStands_19 : decode y_M_findStands.2.1 19 = .ok (.if_icmp .ge (16), 3) := by decide +kernel
theorem d_M_findStands_35 : decode y_M_findStands.2.1 35 = .ok (.aload_n 0, 1) := by decide +kernel
theorem d_M_findStands_36 : decode y_M_findStands.2.1 36 = .ok (.iconst 2, 1) := by decide +kernel
theorem d_M_findStands_37 : decode y_M_findStands.2.1 37 = .ok (.putfield 369, 3) := by decide +kernel
theorem d_M_findStands_40 : decode y_M_findStands.2.1 40 = .ok (.iconst 0, 1) := by decide +kernel
theorem d_M_findStands_41 : decode y_M_findStands.2.1 41 = .ok (.istore_n 1, 1) := by decide +kernel
theorem s_M_findStands_35 : aw_VS y_M_findStands 35 [o_ald 0, o_c (.int (2 : Int32)), o_putI 9 48, o_c (.int (0 : Int32)), o_ist 1] 42 := .cons (v_aload_n (i := 0) d_M_findStands_35 rfl) (.cons (v_iconst (v := (2 : Int32)) d_M_findStands_36 (by decide +kernel)) (.cons (v_putI (k := 48) k_M (by decide) rfl (Or.inl ⟨rfl, Or.inl w_1509⟩) d_M_findStands_37) (.cons (v_iconst (v := (0 : Int32)) d_M_findStands_40 (by decide +kernel)) (.cons (v_istore_n d_M_findStands_41) .nil))))
theorem d_M_findStands_22 : decode y_M_findStands.2.1 22 = .ok (.aload_n 0, 1) := by decide +kernel
theorem d_M_findStands_23 : decode y_M_findStands.2.1 23 = .ok (.getfield 79, 3) := by decide +kernel
theorem d_M_findStands_26 : decode y_M_findStands.2.1 26 = .ok (.iload_n 1, 1) := by decide +kernel
theorem d_M_findStands_27 : decode y_M_findStands.2.1 27 = .ok (.iconst 0, 1) := by decide +kernel
theorem s_M_findStands_22 : aw_VS y_M_findStands 22 [o_ald 0, o_getA 9 50, o_ild 1, o_c (.int (0 : Int32))] 28 := .cons (v_aload_n (i := 0) d_M_findStands_22 rfl) (.cons (v_getA (k := 50) k_M (by decide) rfl (Or.inl w_1511) d_M_findStands_23) (.cons (v_iload_n (i := 1) d_M_findStands_26 rfl) (.cons (v_iconst (v := (0 : Int32)) d_M_findStands_27 (by decide +kernel)) .nil)))
theorem d_M_findStands_28 : decode y_M_findStands.2.1 28 = .ok (.iastore, 1) := by decide +kernel
theorem d_M_findStands_29 : decode y_M_findStands.2.1 29 = .ok (.iinc 1 (1), 3) := by decide +kernel
theorem s_M_findStands_29 : aw_VS y_M_findStands 29 [o_inc 1 (1 : Int32)] 32 := .cons (v_iinc (k0 := (1 : Int32)) d_M_findStands_29 (by decide +kernel)) .nil
theorem d_M_findStands_32 : decode y_M_findStands.2.1 32 = .ok (.goto (-17), 3) := by decide +kernel
theorem b_M_findStands_15 {X : aw_X} {d : Nat} {Q : Option Value → aw_H → Prop} {I : Nat → Nat → Int32} {L : Nat → Nat → Int64} {D : Nat → Nat} {v1 : Int32}
    (h1 : (3840 : Int32) ≤ v1 → aw_z X (d + 1) y_M_findStands Q 42 [some (.ref 69), some (.int (0 : Int32))] [] (aw_s (aw_u I 69 48 (2 : Int32)) L D))
    (h2 : ¬ (3840 : Int32) ≤ v1 → vp_in v1 3840)
    (h3 : ¬ (3840 : Int32) ≤ v1 → aw_z X (d + 1) y_M_findStands Q 15 [some (.ref 69), some (.int (v1 + (1 : Int32)))] [] (aw_s (aw_u I 90 v1.toNatClampNeg (0 : Int32)) L D)) :
    aw_z X (d + 1) y_M_findStands Q 15 [some (.ref 69), some (.int v1)] [] (aw_s I L D) :=
  (s_M_findStands_15.go [some (.ref 69), some (.int v1)] [.int (3840 : Int32), .int v1] (aw_s I L D) rfl (z_icmp_ge (tgt := 35) d_M_findStands_19 rfl (fun q1 => (s_M_findStands_35.go [some (.ref 69), some (.int (0 : Int32))] [] (aw_s (aw_u I 69 48 (2 : Int32)) L D) rfl (h1 q1))) (fun q2 => (s_M_findStands_22.go [some (.ref 69), some (.int v1)] [.int (0 : Int32), .int v1, .ref 90] (aw_s I L D) rfl (z_iast (n := 3840) rfl (aw_lt (o := 90) rfl) (h2 q2) d_M_findStands_28 (s_M_findStands_29.go [some (.ref 69), some (.int (v1 + (1 : Int32)))] [] (aw_s (aw_u I 90 v1.toNatClampNeg (0 : Int32)) L D) rfl (z_goto (tgt := 15) d_M_findStands_32 rfl (h3 q2))))))))
theorem d_M_findStands_42 : decode y_M_findStands.2.1 42 = .ok (.iload_n 1, 1) := by decide +kernel
theorem d_M_findStands_43 : decode y_M_findStands.2.1 43 = .ok (.aload_n 0, 1) := by decide +kernel
theorem s_M_findStands_42 : aw_VS y_M_findStands 42 [o_ild 1, o_ald 0] 44 := .cons (v_iload_n (i := 1) d_M_findStands_42 rfl) (.cons (v_aload_n (i := 0) d_M_findStands_43 rfl) .nil)
theorem d_M_findStands_44 : decode y_M_findStands.2.1 44 = .ok (.invokevirtual 423, 3) := by decide +kernel
theorem b_M_findStands_42 {X : aw_X} {d : Nat} {Q : Option Value → aw_H → Prop} {I : Nat → Nat → Int32} {L : Nat → Nat → Int64} {D : Nat → Nat} {v1 : Int32}
    (h1 : aw_m X d y_M_rows [.ref 69] (aw_s I L D) (fun r A => aw_z X (d + 1) y_M_findStands Q 47 [some (.ref 69), some (.int v1)] (r.toList ++ [.int v1]) A)) :
    aw_z X (d + 1) y_M_findStands Q 42 [some (.ref 69), some (.int v1)] [] (aw_s I L D) :=
  (s_M_findStands_42.go [some (.ref 69), some (.int v1)] [.ref 69, .int v1] (aw_s I L D) rfl (z_callV (av := []) (st := [.int v1]) ok_M_rows (Or.inl w_1915) w_1917 w_105 k_M d_M_findStands_44 rfl (aw_lt (o := 69) rfl) rfl rfl (Nat.le_of_ble_eq_true rfl) (Nat.le_refl _) (Nat.le_refl _) (h1)))
theorem d_M_findStands_47 : decode y_M_findStands.2.1 47 = .ok (.if_icmp .ge (31), 3) := by decide +kernel
theorem d_M_findStands_78 : decode y_M_findStands.2.1 78 = .ok (.aload_n 0, 1) := by decide +kernel
theorem d_M_findStands_79 : decode y_M_findStands.2.1 79 = .ok (.iconst 0, 1) := by decide +kernel
theorem d_M_findStands_80 : decode y_M_findStands.2.1 80 = .ok (.putfield 369, 3) := by decide +kernel
theorem s_M_findStands_78 : aw_VS y_M_findStands 78 [o_ald 0, o_c (.int (0 : Int32)), o_putI 9 48] 83 := .cons (v_aload_n (i := 0) d_M_findStands_78 rfl) (.cons (v_iconst (v := (0 : Int32)) d_M_findStands_79 (by decide +kernel)) (.cons (v_putI (k := 48) k_M (by decide) rfl (Or.inl ⟨rfl, Or.inl w_1509⟩) d_M_findStands_80) .nil))
theorem d_M_findStands_83 : decode y_M_findStands.2.1 83 = .ok (.return_, 1) := by decide +kernel
theorem d_M_findStands_50 : decode y_M_findStands.2.1 50 = .ok (.aload_n 0, 1) := by decide +kernel
theorem d_M_findStands_51 : decode y_M_findStands.2.1 51 = .ok (.getfield 94, 3) := by decide +kernel
theorem d_M_findStands_54 : decode y_M_findStands.2.1 54 = .ok (.iload_n 1, 1) := by decide +kernel
theorem s_M_findStands_50 : aw_VS y_M_findStands 50 [o_ald 0, o_getA 9 55, o_ild 1] 55 := .cons (v_aload_n (i := 0) d_M_findStands_50 rfl) (.cons (v_getA (k := 55) k_M (by decide) rfl (Or.inl w_1516) d_M_findStands_51) (.cons (v_iload_n (i := 1) d_M_findStands_54 rfl) .nil))
theorem d_M_findStands_55 : decode y_M_findStands.2.1 55 = .ok (.iaload, 1) := by decide +kernel
theorem d_M_findStands_56 : decode y_M_findStands.2.1 56 = .ok (.iconst 4, 1) := by decide +kernel
theorem s_M_findStands_56 : aw_VS y_M_findStands 56 [o_c (.int (4 : Int32))] 57 := .cons (v_iconst (v := (4 : Int32)) d_M_findStands_56 (by decide +kernel)) .nil
theorem d_M_findStands_57 : decode y_M_findStands.2.1 57 = .ok (.if_icmp .eq (15), 3) := by decide +kernel
theorem d_M_findStands_72 : decode y_M_findStands.2.1 72 = .ok (.iinc 1 (1), 3) := by decide +kernel
theorem s_M_findStands_72 : aw_VS y_M_findStands 72 [o_inc 1 (1 : Int32)] 75 := .cons (v_iinc (k0 := (1 : Int32)) d_M_findStands_72 (by decide +kernel)) .nil
theorem d_M_findStands_75 : decode y_M_findStands.2.1 75 = .ok (.goto (-33), 3) := by decide +kernel
theorem d_M_findStands_60 : decode y_M_findStands.2.1 60 = .ok (.aload_n 0, 1) := by decide +kernel
theorem d_M_findStands_61 : decode y_M_findStands.2.1 61 = .ok (.iconst 4, 1) := by decide +kernel
theorem d_M_findStands_62 : decode y_M_findStands.2.1 62 = .ok (.iload_n 1, 1) := by decide +kernel
theorem d_M_findStands_63 : decode y_M_findStands.2.1 63 = .ok (.aload_n 0, 1) := by decide +kernel
theorem d_M_findStands_64 : decode y_M_findStands.2.1 64 = .ok (.getfield 414, 3) := by decide +kernel
theorem d_M_findStands_67 : decode y_M_findStands.2.1 67 = .ok (.iconst (-1), 1) := by decide +kernel
theorem s_M_findStands_60 : aw_VS y_M_findStands 60 [o_ald 0, o_c (.int (4 : Int32)), o_ild 1, o_ald 0, o_getI 9 65, o_c (.int (-1 : Int32))] 68 := .cons (v_aload_n (i := 0) d_M_findStands_60 rfl) (.cons (v_iconst (v := (4 : Int32)) d_M_findStands_61 (by decide +kernel)) (.cons (v_iload_n (i := 1) d_M_findStands_62 rfl) (.cons (v_aload_n (i := 0) d_M_findStands_63 rfl) (.cons (v_getI (k := 65) k_M (by decide) (Or.inl rfl) (Or.inl w_1526) d_M_findStands_64) (.cons (v_iconst (v := (-1 : Int32)) d_M_findStands_67 (by decide +kernel)) .nil)))))
theorem d_M_findStands_68 : decode y_M_findStands.2.1 68 = .ok (.invokevirtual 434, 3) := by decide +kernel
theorem b_M_findStands_47 {X : aw_X} {d : Nat} {Q : Option Value → aw_H → Prop} {I : Nat → Nat → Int32} {L : Nat → Nat → Int64} {D : Nat → Nat} {v1 : Int32} {s1 : Int32} {s0 : Int32}
    (h1 : s1 ≤ s0 → Q none (aw_s (aw_u I 69 48 (0 : Int32)) L D))
    (h2 : ¬ s1 ≤ s0 → vp_in v1 4096)
    (h3 : ¬ s1 ≤ s0 → (I 95 v1.toNatClampNeg) = (4 : Int32) → aw_z X (d + 1) y_M_findStands Q 42 [some (.ref 69), some (.int (v1 + (1 : Int32)))] [] (aw_s I L D))
    (h4 : ¬ s1 ≤ s0 → ¬ (I 95 v1.toNatClampNeg) = (4 : Int32) → aw_m X d y_M_runs [.ref 69, .int (4 : Int32), .int v1, .int (I 69 65), .int (-1 : Int32)] (aw_s I L D) (fun r A => aw_z X (d + 1) y_M_findStands Q 71 [some (.ref 69), some (.int v1)] (r.toList ++ []) A)) :
    aw_z X (d + 1) y_M_findStands Q 47 [some (.ref 69), some (.int v1)] [.int s1, .int s0] (aw_s I L D) :=
  (z_icmp_ge (tgt := 78) d_M_findStands_47 rfl (fun q1 => (s_M_findStands_78.go [some (.ref 69), some (.int v1)] [] (aw_s (aw_u I 69 48 (0 : Int32)) L D) rfl (z_vret d_M_findStands_83 rfl (h1 q1)))) (fun q2 => (s_M_findStands_50.go [some (.ref 69), some (.int v1)] [.int v1, .ref 95] (aw_s I L D) rfl (z_iald (n := 4096) rfl (aw_lt (o := 95) rfl) (h2 q2) d_M_findStands_55 (s_M_findStands_56.go [some (.ref 69), some (.int v1)] [.int (4 : Int32), .int (I 95 v1.toNatClampNeg)] (aw_s I L D) rfl (z_icmp_eq (tgt := 72) d_M_findStands_57 rfl (fun q3 => (s_M_findStands_72.go [some (.ref 69), some (.int (v1 + (1 : Int32)))] [] (aw_s I L D) rfl (z_goto (tgt := 42) d_M_findStands_75 rfl (h3 q2 q3)))) (fun q4 => (s_M_findStands_60.go [some (.ref 69), some (.int v1)] [.int (-1 : Int32), .int (I 69 65), .int v1, .int (4 : Int32), .ref 69] (aw_s I L D) rfl (z_callV (av := [.int (4 : Int32), .int v1, .int (I 69 65), .int (-1 : Int32)]) (st := []) ok_M_runs (Or.inl w_1923) w_1925 w_107 k_M d_M_findStands_68 rfl (aw_lt (o := 69) rfl) rfl rfl (Nat.le_of_ble_eq_true rfl) (Nat.le_refl _) (Nat.le_refl _) (h4 q2 q4))))))))))
theorem d_M_findStands_71 : decode y_M_findStands.2.1 71 = .ok (.pop, 1) := by decide +kernel
theorem s_M_findStands_71 : aw_VS y_M_findStands 71 [o_pop] 72 := .cons (v_pop d_M_findStands_71) .nil
theorem b_M_findStands_71 {X : aw_X} {d : Nat} {Q : Option Value → aw_H → Prop} {I : Nat → Nat → Int32} {L : Nat → Nat → Int64} {D : Nat → Nat} {v1 : Int32} {s0 : Int32}
    (h1 : aw_z X (d + 1) y_M_findStands Q 42 [some (.ref 69), some (.int (v1 + (1 : Int32)))] [] (aw_s I L D)) :
    aw_z X (d + 1) y_M_findStands Q 71 [some (.ref 69), some (.int v1)] [.int s0] (aw_s I L D) :=
  (s_M_findStands_71.go [some (.ref 69), some (.int v1)] [] (aw_s I L D) rfl (s_M_findStands_72.go [some (.ref 69), some (.int (v1 + (1 : Int32)))] [] (aw_s I L D) rfl (z_goto (tgt := 42) d_M_findStands_75 rfl (h1))))
/-! M_laws -/
theorem d_M_laws_0 : decode y_M_laws.2.1 0 = .ok (.aload_n 0, 1) := by decide +kernel
theorem d_M_laws_1 : decode y_M_laws.2.1 1 = .ok (.iconst 0, 1) := by decide +kernel
theorem d_M_laws_2 : decode y_M_laws.2.1 2 = .ok (.putfield 160, 3) := by decide +kernel
theorem d_M_laws_5 : decode y_M_laws.2.1 5 = .ok (.aload_n 0, 1) := by decide +kernel
theorem d_M_laws_6 : decode y_M_laws.2.1 6 = .ok (.iload_n 1, 1) := by decide +kernel
theorem s_M_laws_0 : aw_VS y_M_laws 0 [o_ald 0, o_c (.int (0 : Int32)), o_putI 9 0, o_ald 0, o_ild 1] 7 := .cons (v_aload_n (i := 0) d_M_laws_0 rfl) (.cons (v_iconst (v := (0 : Int32)) d_M_laws_1 (by decide +kernel)) (.cons (v_putI (k := 0) k_M (by decide) rfl (Or.inl ⟨rfl, Or.inl w_1461⟩) d_M_laws_2) (.cons (v_aload_n (i := 0) d_M_laws_5 rfl) (.cons (v_iload_n (i := 1) d_M_laws_6 rfl) .nil))))
theorem d_M_laws_7 : decode y_M_laws.2.1 7 = .ok (.invokevirtual 451, 3) := by decide +kernel
theorem b_M_laws_0 {X : aw_X} {d : Nat} {Q : Option Value → aw_H → Prop} {I : Nat → Nat → Int32} {L : Nat → Nat → Int64} {D : Nat → Nat} {v1 : Int32}
    (h1 : aw_m X d y_M_isBegun [.ref 69, .int v1] (aw_s (aw_u I 69 0 (0 : Int32)) L D) (fun r A => aw_z X (d + 1) y_M_laws Q 10 [some (.ref 69), some (.int v1), none, none, none] (r.toList ++ []) A)) :
    aw_z X (d + 1) y_M_laws Q 0 [some (.ref 69), some (.int v1), none, none, none] [] (aw_s I L D) :=
  (s_M_laws_0.go [some (.ref 69), some (.int v1), none, none, none] [.int v1, .ref 69] (aw_s (aw_u I 69 0 (0 : Int32)) L D) rfl (z_callV (av := [.int v1]) (st := []) ok_M_isBegun (Or.inl w_1995) w_1997 w_120 k_M d_M_laws_7 rfl (aw_lt (o := 69) rfl) rfl rfl (Nat.le_of_ble_eq_true rfl) (Nat.le_refl _) (Nat.le_refl _) (h1)))
theorem d_M_laws_10 : decode y_M_laws.2.1 10 = .ok (.ifCond .ne (5), 3) := by decide +kernel
theorem d_M_laws_15 : decode y_M_laws.2.1 15 = .ok (.aload_n 0, 1) := by decide +kernel
theorem d_M_laws_16 : decode y_M_laws.2.1 16 = .ok (.iconst 0, 1) := by decide +kernel
theorem d_M_laws_17 : decode y_M_laws.2.1 17 = .ok (.putfield 461, 3) := by decide +kernel
theorem d_M_laws_20 : decode y_M_laws.2.1 20 = .ok (.iconst 0, 1) := by decide +kernel
theorem d_M_laws_21 : decode y_M_laws.2.1 21 = .ok (.istore_n 2, 1) := by decide +kernel
theorem s_M_laws_15 : aw_VS y_M_laws 15 [o_ald 0, o_c (.int (0 : Int32)), o_putI 9 69, o_c (.int (0 : Int32)), o_ist 2] 22 := .cons (v_aload_n (i := 0) d_M_laws_15 rfl) (.cons (v_iconst (v := (0 : Int32)) d_M_laws_16 (by decide +kernel)) (.cons (v_putI (k := 69) k_M (by decide) rfl (Or.inl ⟨rfl, Or.inl w_1530⟩) d_M_laws_17) (.cons (v_iconst (v := (0 : Int32)) d_M_laws_20 (by decide +kernel)) (.cons (v_istore_n d_M_laws_21) .nil))))
theorem d_M_laws_13 : decode y_M_laws.2.1 13 = .ok (.iconst (-1), 1) := by decide +kernel
theorem s_M_laws_13 : aw_VS y_M_laws 13 [o_c (.int (-1 : Int32))] 14 := .cons (v_iconst (v := (-1 : Int32)) d_M_laws_13 (by decide +kernel)) .nil
theorem d_M_laws_14 : decode y_M_laws.2.1 14 = .ok (.ireturn, 1) := by decide +kernel
theorem b_M_laws_10 {X : aw_X} {d : Nat} {Q : Option Value → aw_H → Prop} {I : Nat → Nat → Int32} {L : Nat → Nat → Int64} {D : Nat → Nat} {v1 : Int32} {s0 : Int32}
    (h1 : ¬ s0 = 0 → aw_z X (d + 1) y_M_laws Q 22 [some (.ref 69), some (.int v1), some (.int (0 : Int32)), none, none] [] (aw_s (aw_u I 69 69 (0 : Int32)) L D))
    (h2 : s0 = 0 → Q (some (.int (-1 : Int32))) (aw_s I L D)) :
    aw_z X (d + 1) y_M_laws Q 10 [some (.ref 69), some (.int v1), none, none, none] [.int s0] (aw_s I L D) :=
  (z_if_ne (tgt := 15) d_M_laws_10 rfl (fun q1 => (s_M_laws_15.go [some (.ref 69), some (.int v1), some (.int (0 : Int32)), none, none] [] (aw_s (aw_u I 69 69 (0 : Int32)) L D) rfl (h1 q1))) (fun q2 => (s_M_laws_13.go [some (.ref 69), some (.int v1), none, none, none] [.int (-1 : Int32)] (aw_s I L D) rfl (z_iret d_M_laws_14 rfl rfl (h2 q2)))))
theorem d_M_laws_22 : decode y_M_laws.2.1 22 = .ok (.iload_n 2, 1) := by decide +kernel
theorem d_M_laws_23 : decode y_M_laws.2.1 23 = .ok (.bipush 8, 2) := by decide +kernel
theorem s_M_laws_22 : aw_VS y_M_laws 22 [o_ild 2, o_c (.int (8 : Int32))] 25 := .cons (v_iload_n (i := 2) d_M_laws_22 rfl) (.cons (v_bipush (v := (8 : Int32)) d_M_laws_23 (by decide +kernel)) .nil)
theorem d_M_laws_25 : decode y_M_laws.2.1 25 = .ok (.if_icmp .ge (105), 3) := by decide +kernel
theorem d_M_laws_130 : decode y_M_laws.2.1 130 = .ok (.aload_n 0, 1) := by decide +kernel
theorem d_M_laws_131 : decode y_M_laws.2.1 131 = .ok (.getfield 461, 3) := by decide +kernel
theorem s_M_laws_130 : aw_VS y_M_laws 130 [o_ald 0, o_getI 9 69] 134 := .cons (v_aload_n (i := 0) d_M_laws_130 rfl) (.cons (v_getI (k := 69) k_M (by decide) (Or.inl rfl) (Or.inl w_1530) d_M_laws_131) .nil)
theorem d_M_laws_134 : decode y_M_laws.2.1 134 = .ok (.ireturn, 1) := by decide +kernel
theorem d_M_laws_28 : decode y_M_laws.2.1 28 = .ok (.iload_n 2, 1) := by decide +kernel
theorem d_M_laws_29 : decode y_M_laws.2.1 29 = .ok (.iconst 1, 1) := by decide +kernel
theorem d_M_laws_30 : decode y_M_laws.2.1 30 = .ok (.iadd, 1) := by decide +kernel
theorem d_M_laws_31 : decode y_M_laws.2.1 31 = .ok (.istore_n 3, 1) := by decide +kernel
theorem s_M_laws_28 : aw_VS y_M_laws 28 [o_ild 2, o_c (.int (1 : Int32)), o_i2 (fun x z => x + z), o_ist 3] 32 := .cons (v_iload_n (i := 2) d_M_laws_28 rfl) (.cons (v_iconst (v := (1 : Int32)) d_M_laws_29 (by decide +kernel)) (.cons (v_iadd d_M_laws_30) (.cons (v_istore_n d_M_laws_31) .nil)))
theorem b_M_laws_22 {X : aw_X} {d : Nat} {Q : Option Value → aw_H → Prop} {I : Nat → Nat → Int32} {L : Nat → Nat → Int64} {D : Nat → Nat} {v1 : Int32} {v2 : Int32}
    (h1 : (8 : Int32) ≤ v2 → Q (some (.int (I 69 69))) (aw_s I L D))
    (h2 : ¬ (8 : Int32) ≤ v2 → aw_z X (d + 1) y_M_laws Q 32 [some (.ref 69), some (.int v1), some (.int v2), some (.int (v2 + (1 : Int32))), none] [] (aw_s I L D)) :
    aw_z X (d + 1) y_M_laws Q 22 [some (.ref 69), some (.int v1), some (.int v2), none, none] [] (aw_s I L D) :=
  (s_M_laws_22.go [some (.ref 69), some (.int v1), some (.int v2), none, none] [.int (8 : Int32), .int v2] (aw_s I L D) rfl (z_icmp_ge (tgt := 130) d_M_laws_25 rfl (fun q1 => (s_M_laws_130.go [some (.ref 69), some (.int v1), some (.int v2), none, none] [.int (I 69 69)] (aw_s I L D) rfl (z_iret d_M_laws_134 rfl rfl (h1 q1)))) (fun q2 => (s_M_laws_28.go [some (.ref 69), some (.int v1), some (.int v2), some (.int (v2 + (1 : Int32))), none] [] (aw_s I L D) rfl (h2 q2)))))
theorem d_M_laws_32 : decode y_M_laws.2.1 32 = .ok (.iload_n 3, 1) := by decide +kernel
theorem d_M_laws_33 : decode y_M_laws.2.1 33 = .ok (.bipush 8, 2) := by decide +kernel
theorem s_M_laws_32 : aw_VS y_M_laws 32 [o_ild 3, o_c (.int (8 : Int32))] 35 := .cons (v_iload_n (i := 3) d_M_laws_32 rfl) (.cons (v_bipush (v := (8 : Int32)) d_M_laws_33 (by decide +kernel)) .nil)
theorem d_M_laws_35 : decode y_M_laws.2.1 35 = .ok (.if_icmp .ge (89), 3) := by decide +kernel
theorem d_M_laws_124 : decode y_M_laws.2.1 124 = .ok (.iinc 2 (1), 3) := by decide +kernel
theorem s_M_laws_124 : aw_VS y_M_laws 124 [o_inc 2 (1 : Int32)] 127 := .cons (v_iinc (k0 := (1 : Int32)) d_M_laws_124 (by decide +kernel)) .nil
theorem d_M_laws_127 : decode y_M_laws.2.1 127 = .ok (.goto (-105), 3) := by decide +kernel
theorem d_M_laws_38 : decode y_M_laws.2.1 38 = .ok (.aload_n 0, 1) := by decide +kernel
theorem d_M_laws_39 : decode y_M_laws.2.1 39 = .ok (.iload_n 1, 1) := by decide +kernel
theorem d_M_laws_40 : decode y_M_laws.2.1 40 = .ok (.iload_n 2, 1) := by decide +kernel
theorem d_M_laws_41 : decode y_M_laws.2.1 41 = .ok (.iload_n 3, 1) := by decide +kernel
theorem s_M_laws_38 : aw_VS y_M_laws 38 [o_ald 0, o_ild 1, o_ild 2, o_ild 3] 42 := .cons (v_aload_n (i := 0) d_M_laws_38 rfl) (.cons (v_iload_n (i := 1) d_M_laws_39 rfl) (.cons (v_iload_n (i := 2) d_M_laws_40 rfl) (.cons (v_iload_n (i := 3) d_M_laws_41 rfl) .nil)))
theorem d_M_laws_42 : decode y_M_laws.2.1 42 = .ok (.invokevirtual 457, 3) := by decide +kernel
theorem b_M_laws_32 {X : aw_X} {d : Nat} {Q : Option Value → aw_H → Prop} {I : Nat → Nat → Int32} {L : Nat → Nat → Int64} {D : Nat → Nat} {v1 : Int32} {v2 : Int32} {v3 : Int32}
    (h1 : (8 : Int32) ≤ v3 → aw_z X (d + 1) y_M_laws Q 22 [some (.ref 69), some (.int v1), some (.int (v2 + (1 : Int32))), none, none] [] (aw_s I L D))
    (h2 : ¬ (8 : Int32) ≤ v3 → aw_m X d y_M_standing [.ref 69, .int v1, .int v2, .int v3] (aw_s I L D) (fun r A => aw_z X (d + 1) y_M_laws Q 45 [some (.ref 69), some (.int v1), some (.int v2), some (.int v3), none] (r.toList ++ []) A)) :
    aw_z X (d + 1) y_M_laws Q 32 [some (.ref 69), some (.int v1), some (.int v2), some (.int v3), none] [] (aw_s I L D) :=
  (s_M_laws_32.go [some (.ref 69), some (.int v1), some (.int v2), some (.int v3), none] [.int (8 : Int32), .int v3] (aw_s I L D) rfl (z_icmp_ge (tgt := 124) d_M_laws_35 rfl (fun q1 => (s_M_laws_124.go [some (.ref 69), some (.int v1), some (.int (v2 + (1 : Int32))), some (.int v3), none] [] (aw_s I L D) rfl (z_goto (tgt := 22) d_M_laws_127 rfl (aw_Z.weak (ls' := [some (.ref 69), some (.int v1), some (.int (v2 + (1 : Int32))), none, none]) (h1 q1) (Nat.le_of_ble_eq_true rfl) ⟨Or.inr rfl, ⟨Or.inr rfl, ⟨Or.inr rfl, ⟨Or.inl rfl, ⟨Or.inl rfl, trivial⟩⟩⟩⟩⟩)))) (fun q2 => (s_M_laws_38.go [some (.ref 69), some (.int v1), some (.int v2), some (.int v3), none] [.int v3, .int v2, .int v1, .ref 69] (aw_s I L D) rfl (z_callV (av := [.int v1, .int v2, .int v3]) (st := []) ok_M_standing (Or.inl w_2003) w_2005 w_121 k_M d_M_laws_42 rfl (aw_lt (o := 69) rfl) rfl rfl (Nat.le_of_ble_eq_true rfl) (Nat.le_refl _) (Nat.le_refl _) (h2 q2))))))
theorem d_M_laws_45 : decode y_M_laws.2.1 45 = .ok (.istore 4, 2) := by decide +kernel
theorem d_M_laws_47 : decode y_M_laws.2.1 47 = .ok (.iload 4, 2) := by decide +kernel
theorem d_M_laws_49 : decode y_M_laws.2.1 49 = .ok (.iconst 1, 1) := by decide +kernel
theorem s_M_laws_45 : aw_VS y_M_laws 45 [o_ist 4, o_ild 4, o_c (.int (1 : Int32))] 50 := .cons (v_istore d_M_laws_45) (.cons (v_iload (i := 4) d_M_laws_47) (.cons (v_iconst (v := (1 : Int32)) d_M_laws_49 (by decide +kernel)) .nil))
theorem d_M_laws_50 : decode y_M_laws.2.1 50 = .ok (.if_icmp .eq (18), 3) := by decide +kernel
theorem d_M_laws_53 : decode y_M_laws.2.1 53 = .ok (.iload 4, 2) := by decide +kernel
theorem d_M_laws_55 : decode y_M_laws.2.1 55 = .ok (.iconst 2, 1) := by decide +kernel
theorem s_M_laws_53 : aw_VS y_M_laws 53 [o_ild 4, o_c (.int (2 : Int32))] 56 := .cons (v_iload (i := 4) d_M_laws_53) (.cons (v_iconst (v := (2 : Int32)) d_M_laws_55 (by decide +kernel)) .nil)
theorem d_M_laws_56 : decode y_M_laws.2.1 56 = .ok (.if_icmp .eq (12), 3) := by decide +kernel
theorem d_M_laws_59 : decode y_M_laws.2.1 59 = .ok (.iload 4, 2) := by decide +kernel
theorem d_M_laws_61 : decode y_M_laws.2.1 61 = .ok (.iconst 4, 1) := by decide +kernel
theorem s_M_laws_59 : aw_VS y_M_laws 59 [o_ild 4, o_c (.int (4 : Int32))] 62 := .cons (v_iload (i := 4) d_M_laws_59) (.cons (v_iconst (v := (4 : Int32)) d_M_laws_61 (by decide +kernel)) .nil)
theorem d_M_laws_62 : decode y_M_laws.2.1 62 = .ok (.if_icmp .eq (6), 3) := by decide +kernel
theorem d_M_laws_65 : decode y_M_laws.2.1 65 = .ok (.goto (53), 3) := by decide +kernel
theorem d_M_laws_118 : decode y_M_laws.2.1 118 = .ok (.iinc 3 (1), 3) := by decide +kernel
theorem s_M_laws_118 : aw_VS y_M_laws 118 [o_inc 3 (1 : Int32)] 121 := .cons (v_iinc (k0 := (1 : Int32)) d_M_laws_118 (by decide +kernel)) .nil
theorem d_M_laws_121 : decode y_M_laws.2.1 121 = .ok (.goto (-89), 3) := by decide +kernel
theorem b_M_laws_45 {X : aw_X} {d : Nat} {Q : Option Value → aw_H → Prop} {I : Nat → Nat → Int32} {L : Nat → Nat → Int64} {D : Nat → Nat} {v1 : Int32} {v2 : Int32} {v3 : Int32} {s0 : Int32}
    (h1 : s0 = (1 : Int32) → aw_z X (d + 1) y_M_laws Q 68 [some (.ref 69), some (.int v1), some (.int v2), some (.int v3), some (.int s0)] [] (aw_s I L D))
    (h2 : ¬ s0 = (1 : Int32) → s0 = (2 : Int32) → aw_z X (d + 1) y_M_laws Q 68 [some (.ref 69), some (.int v1), some (.int v2), some (.int v3), some (.int s0)] [] (aw_s I L D))
    (h3 : ¬ s0 = (1 : Int32) → ¬ s0 = (2 : Int32) → s0 = (4 : Int32) → aw_z X (d + 1) y_M_laws Q 68 [some (.ref 69), some (.int v1), some (.int v2), some (.int v3), some (.int s0)] [] (aw_s I L D))
    (h4 : ¬ s0 = (1 : Int32) → ¬ s0 = (2 : Int32) → ¬ s0 = (4 : Int32) → aw_z X (d + 1) y_M_laws Q 32 [some (.ref 69), some (.int v1), some (.int v2), some (.int (v3 + (1 : Int32))), none] [] (aw_s I L D)) :
    aw_z X (d + 1) y_M_laws Q 45 [some (.ref 69), some (.int v1), some (.int v2), some (.int v3), none] [.int s0] (aw_s I L D) :=
  (s_M_laws_45.go [some (.ref 69), some (.int v1), some (.int v2), some (.int v3), some (.int s0)] [.int (1 : Int32), .int s0] (aw_s I L D) rfl (z_icmp_eq (tgt := 68) d_M_laws_50 rfl (fun q1 => (h1 q1)) (fun q2 => (s_M_laws_53.go [some (.ref 69), some (.int v1), some (.int v2), some (.int v3), some (.int s0)] [.int (2 : Int32), .int s0] (aw_s I L D) rfl (z_icmp_eq (tgt := 68) d_M_laws_56 rfl (fun q3 => (h2 q2 q3)) (fun q4 => (s_M_laws_59.go [some (.ref 69), some (.int v1), some (.int v2), some (.int v3), some (.int s0)] [.int (4 : Int32), .int s0] (aw_s I L D) rfl (z_icmp_eq (tgt := 68) d_M_laws_62 rfl (fun q5 => (h3 q2 q4 q5)) (fun q6 => (z_goto (tgt := 118) d_M_laws_65 rfl (s_M_laws_118.go [some (.ref 69), some (.int v1), some (.int v2), some (.int (v3 + (1 : Int32))), some (.int s0)] [] (aw_s I L D) rfl (z_goto (tgt := 32) d_M_laws_121 rfl (aw_Z.weak (ls' := [some (.ref 69), some (.int v1), some (.int v2), some (.int (v3 + (1 : Int32))), none]) (h4 q2 q4 q6) (Nat.le_of_ble_eq_true rfl) ⟨Or.inr rfl, ⟨Or.inr rfl, ⟨Or.inr rfl, ⟨Or.inr rfl, ⟨Or.inl rfl, trivial⟩⟩⟩⟩⟩)))))))))))))
theorem d_M_laws_68 : decode y_M_laws.2.1 68 = .ok (.aload_n 0, 1) := by decide +kernel
theorem d_M_laws_69 : decode y_M_laws.2.1 69 = .ok (.getfield 121, 3) := by decide +kernel
theorem d_M_laws_72 : decode y_M_laws.2.1 72 = .ok (.aload_n 0, 1) := by decide +kernel
theorem d_M_laws_73 : decode y_M_laws.2.1 73 = .ok (.getfield 461, 3) := by decide +kernel
theorem d_M_laws_76 : decode y_M_laws.2.1 76 = .ok (.bipush 100, 2) := by decide +kernel
theorem d_M_laws_78 : decode y_M_laws.2.1 78 = .ok (.iload_n 2, 1) := by decide +kernel
theorem d_M_laws_79 : decode y_M_laws.2.1 79 = .ok (.imul, 1) := by decide +kernel
theorem d_M_laws_80 : decode y_M_laws.2.1 80 = .ok (.bipush 10, 2) := by decide +kernel
theorem d_M_laws_82 : decode y_M_laws.2.1 82 = .ok (.iload_n 3, 1) := by decide +kernel
theorem d_M_laws_83 : decode y_M_laws.2.1 83 = .ok (.imul, 1) := by decide +kernel
theorem d_M_laws_84 : decode y_M_laws.2.1 84 = .ok (.iadd, 1) := by decide +kernel
theorem d_M_laws_85 : decode y_M_laws.2.1 85 = .ok (.iload 4, 2) := by decide +kernel
theorem d_M_laws_87 : decode y_M_laws.2.1 87 = .ok (.iconst 1, 1) := by decide +kernel
theorem s_M_laws_68 : aw_VS y_M_laws 68 [o_ald 0, o_getA 9 68, o_ald 0, o_getI 9 69, o_c (.int (100 : Int32)), o_ild 2, o_i2 (fun x z => x * z), o_c (.int (10 : Int32)), o_ild 3, o_i2 (fun x z => x * z), o_i2 (fun x z => x + z), o_ild 4, o_c (.int (1 : Int32))] 88 := .cons (v_aload_n (i := 0) d_M_laws_68 rfl) (.cons (v_getA (k := 68) k_M (by decide) rfl (Or.inl w_1529) d_M_laws_69) (.cons (v_aload_n (i := 0) d_M_laws_72 rfl) (.cons (v_getI (k := 69) k_M (by decide) (Or.inl rfl) (Or.inl w_1530) d_M_laws_73) (.cons (v_bipush (v := (100 : Int32)) d_M_laws_76 (by decide +kernel)) (.cons (v_iload_n (i := 2) d_M_laws_78 rfl) (.cons (v_imul d_M_laws_79) (.cons (v_bipush (v := (10 : Int32)) d_M_laws_80 (by decide +kernel)) (.cons (v_iload_n (i := 3) d_M_laws_82 rfl) (.cons (v_imul d_M_laws_83) (.cons (v_iadd d_M_laws_84) (.cons (v_iload (i := 4) d_M_laws_85) (.cons (v_iconst (v := (1 : Int32)) d_M_laws_87 (by decide +kernel)) .nil))))))))))))
theorem d_M_laws_88 : decode y_M_laws.2.1 88 = .ok (.if_icmp .ne (7), 3) := by decide +kernel
theorem d_M_laws_95 : decode y_M_laws.2.1 95 = .ok (.iload 4, 2) := by decide +kernel
theorem d_M_laws_97 : decode y_M_laws.2.1 97 = .ok (.iconst 2, 1) := by decide +kernel
theorem s_M_laws_95 : aw_VS y_M_laws 95 [o_ild 4, o_c (.int (2 : Int32))] 98 := .cons (v_iload (i := 4) d_M_laws_95) (.cons (v_iconst (v := (2 : Int32)) d_M_laws_97 (by decide +kernel)) .nil)
theorem d_M_laws_98 : decode y_M_laws.2.1 98 = .ok (.if_icmp .ne (7), 3) := by decide +kernel
theorem d_M_laws_105 : decode y_M_laws.2.1 105 = .ok (.iconst 2, 1) := by decide +kernel
theorem s_M_laws_105 : aw_VS y_M_laws 105 [o_c (.int (2 : Int32))] 106 := .cons (v_iconst (v := (2 : Int32)) d_M_laws_105 (by decide +kernel)) .nil
theorem d_M_laws_101 : decode y_M_laws.2.1 101 = .ok (.iconst 1, 1) := by decide +kernel
theorem s_M_laws_101 : aw_VS y_M_laws 101 [o_c (.int (1 : Int32))] 102 := .cons (v_iconst (v := (1 : Int32)) d_M_laws_101 (by decide +kernel)) .nil
theorem d_M_laws_102 : decode y_M_laws.2.1 102 = .ok (.goto (4), 3) := by decide +kernel
theorem d_M_laws_91 : decode y_M_laws.2.1 91 = .ok (.iconst 0, 1) := by decide +kernel
theorem s_M_laws_91 : aw_VS y_M_laws 91 [o_c (.int (0 : Int32))] 92 := .cons (v_iconst (v := (0 : Int32)) d_M_laws_91 (by decide +kernel)) .nil
theorem d_M_laws_92 : decode y_M_laws.2.1 92 = .ok (.goto (14), 3) := by decide +kernel
theorem b_M_laws_68 {X : aw_X} {d : Nat} {Q : Option Value → aw_H → Prop} {I : Nat → Nat → Int32} {L : Nat → Nat → Int64} {D : Nat → Nat} {v1 : Int32} {v2 : Int32} {v3 : Int32} {v4 : Int32}
    (h1 : ¬ v4 = (1 : Int32) → ¬ v4 = (2 : Int32) → aw_z X (d + 1) y_M_laws Q 106 [some (.ref 69), some (.int v1), some (.int v2), some (.int v3), none] [.int (2 : Int32), .int (((100 : Int32) * v2) + ((10 : Int32) * v3)), .int (I 69 69), .ref 104] (aw_s I L D))
    (h2 : ¬ v4 = (1 : Int32) → v4 = (2 : Int32) → aw_z X (d + 1) y_M_laws Q 106 [some (.ref 69), some (.int v1), some (.int v2), some (.int v3), none] [.int (1 : Int32), .int (((100 : Int32) * v2) + ((10 : Int32) * v3)), .int (I 69 69), .ref 104] (aw_s I L D))
    (h3 : v4 = (1 : Int32) → aw_z X (d + 1) y_M_laws Q 106 [some (.ref 69), some (.int v1), some (.int v2), some (.int v3), none] [.int (0 : Int32), .int (((100 : Int32) * v2) + ((10 : Int32) * v3)), .int (I 69 69), .ref 104] (aw_s I L D)) :
    aw_z X (d + 1) y_M_laws Q 68 [some (.ref 69), some (.int v1), some (.int v2), some (.int v3), some (.int v4)] [] (aw_s I L D) :=
  (s_M_laws_68.go [some (.ref 69), some (.int v1), some (.int v2), some (.int v3), some (.int v4)] [.int (1 : Int32), .int v4, .int (((100 : Int32) * v2) + ((10 : Int32) * v3)), .int (I 69 69), .ref 104] (aw_s I L D) rfl (z_icmp_ne (tgt := 95) d_M_laws_88 rfl (fun q1 => (s_M_laws_95.go [some (.ref 69), some (.int v1), some (.int v2), some (.int v3), some (.int v4)] [.int (2 : Int32), .int v4, .int (((100 : Int32) * v2) + ((10 : Int32) * v3)), .int (I 69 69), .ref 104] (aw_s I L D) rfl (z_icmp_ne (tgt := 105) d_M_laws_98 rfl (fun q3 => (s_M_laws_105.go [some (.ref 69), some (.int v1), some (.int v2), some (.int v3), some (.int v4)] [.int (2 : Int32), .int (((100 : Int32) * v2) + ((10 : Int32) * v3)), .int (I 69 69), .ref 104] (aw_s I L D) rfl (aw_Z.weak (ls' := [some (.ref 69), some (.int v1), some (.int v2), some (.int v3), none]) (h1 q1 q3) (Nat.le_of_ble_eq_true rfl) ⟨Or.inr rfl, ⟨Or.inr rfl, ⟨Or.inr rfl, ⟨Or.inr rfl, ⟨Or.inl rfl, trivial⟩⟩⟩⟩⟩))) (fun q4 => (s_M_laws_101.go [some (.ref 69), some (.int v1), some (.int v2), some (.int v3), some (.int v4)] [.int (1 : Int32), .int (((100 : Int32) * v2) + ((10 : Int32) * v3)), .int (I 69 69), .ref 104] (aw_s I L D) rfl (z_goto (tgt := 106) d_M_laws_102 rfl (aw_Z.weak (ls' := [some (.ref 69), some (.int v1), some (.int v2), some (.int v3), none]) (h2 q1 q4) (Nat.le_of_ble_eq_true rfl) ⟨Or.inr rfl, ⟨Or.inr rfl, ⟨Or.inr rfl, ⟨Or.inr rfl, ⟨Or.inl rfl, trivial⟩⟩⟩⟩⟩))))))) (fun q2 => (s_M_laws_91.go [some (.ref 69), some (.int v1), some (.int v2), some (.int v3), some (.int v4)] [.int (0 : Int32), .int (((100 : Int32) * v2) + ((10 : Int32) * v3)), .int (I 69 69), .ref 104] (aw_s I L D) rfl (z_goto (tgt := 106) d_M_laws_92 rfl (aw_Z.weak (ls' := [some (.ref 69), some (.int v1), some (.int v2), some (.int v3), none]) (h3 q2) (Nat.le_of_ble_eq_true rfl) ⟨Or.inr rfl, ⟨Or.inr rfl, ⟨Or.inr rfl, ⟨Or.inr rfl, ⟨Or.inl rfl, trivial⟩⟩⟩⟩⟩))))))
theorem d_M_laws_106 : decode y_M_laws.2.1 106 = .ok (.iadd, 1) := by decide +kernel
theorem s_M_laws_106 : aw_VS y_M_laws 106 [o_i2 (fun x z => x + z)] 107 := .cons (v_iadd d_M_laws_106) .nil
theorem d_M_laws_107 : decode y_M_laws.2.1 107 = .ok (.iastore, 1) := by decide +kernel
theorem d_M_laws_108 : decode y_M_laws.2.1 108 = .ok (.aload_n 0, 1) := by decide +kernel
theorem d_M_laws_109 : decode y_M_laws.2.1 109 = .ok (.dup, 1) := by decide +kernel
theorem d_M_laws_110 : decode y_M_laws.2.1 110 = .ok (.getfield 461, 3) := by decide +kernel
theorem d_M_laws_113 : decode y_M_laws.2.1 113 = .ok (.iconst 1, 1) := by decide +kernel
theorem d_M_laws_114 : decode y_M_laws.2.1 114 = .ok (.iadd, 1) := by decide +kernel
theorem d_M_laws_115 : decode y_M_laws.2.1 115 = .ok (.putfield 461, 3) := by decide +kernel
theorem s_M_laws_108 : aw_VS y_M_laws 108 [o_ald 0, o_dup, o_getI 9 69, o_c (.int (1 : Int32)), o_i2 (fun x z => x + z), o_putI 9 69] 118 := .cons (v_aload_n (i := 0) d_M_laws_108 rfl) (.cons (v_dup d_M_laws_109) (.cons (v_getI (k := 69) k_M (by decide) (Or.inl rfl) (Or.inl w_1530) d_M_laws_110) (.cons (v_iconst (v := (1 : Int32)) d_M_laws_113 (by decide +kernel)) (.cons (v_iadd d_M_laws_114) (.cons (v_putI (k := 69) k_M (by decide) rfl (Or.inl ⟨rfl, Or.inl w_1530⟩) d_M_laws_115) .nil)))))
theorem b_M_laws_106 {X : aw_X} {d : Nat} {Q : Option Value → aw_H → Prop} {I : Nat → Nat → Int32} {L : Nat → Nat → Int64} {D : Nat → Nat} {v1 : Int32} {v2 : Int32} {v3 : Int32} {s3 : Int32} {s2 : Int32} {s1 : Int32}
    (h1 : vp_in s1 28)
    (h2 : aw_z X (d + 1) y_M_laws Q 32 [some (.ref 69), some (.int v1), some (.int v2), some (.int (v3 + (1 : Int32))), none] [] (aw_s (aw_u (aw_u I 104 s1.toNatClampNeg (s2 + s3)) 69 69 ((I 69 69) + (1 : Int32))) L D)) :
    aw_z X (d + 1) y_M_laws Q 106 [some (.ref 69), some (.int v1), some (.int v2), some (.int v3), none] [.int s3, .int s2, .int s1, .ref 104] (aw_s I L D) :=
  (s_M_laws_106.go [some (.ref 69), some (.int v1), some (.int v2), some (.int v3), none] [.int (s2 + s3), .int s1, .ref 104] (aw_s I L D) rfl (z_iast (n := 28) rfl (aw_lt (o := 104) rfl) (h1) d_M_laws_107 (s_M_laws_108.go [some (.ref 69), some (.int v1), some (.int v2), some (.int v3), none] [] (aw_s (aw_u (aw_u I 104 s1.toNatClampNeg (s2 + s3)) 69 69 ((I 69 69) + (1 : Int32))) L D) rfl (s_M_laws_118.go [some (.ref 69), some (.int v1), some (.int v2), some (.int (v3 + (1 : Int32))), none] [] (aw_s (aw_u (aw_u I 104 s1.toNatClampNeg (s2 + s3)) 69 69 ((I 69 69) + (1 : Int32))) L D) rfl (z_goto (tgt := 32) d_M_laws_121 rfl (h2))))))
/-! M_lawAt -/
theorem d_M_lawAt_0 : decode y_M_lawAt.2.1 0 = .ok (.aload_n 0, 1) := by decide +kernel
theorem d_M_lawAt_1 : decode y_M_lawAt.2.1 1 = .ok (.iconst 0, 1) := by decide +kernel
theorem d_M_lawAt_2 : decode y_M_lawAt.2.1 2 = .ok (.putfield 160, 3) := by decide +kernel
theorem d_M_lawAt_5 : decode y_M_lawAt.2.1 5 = .ok (.iload_n 1, 1) := by decide +kernel
theorem s_M_lawAt_0 : aw_VS y_M_lawAt 0 [o_ald 0, o_c (.int (0 : Int32)), o_putI 9 0, o_ild 1] 6 := .cons (v_aload_n (i := 0) d_M_lawAt_0 rfl) (.cons (v_iconst (v := (0 : Int32)) d_M_lawAt_1 (by decide +kernel)) (.cons (v_putI (k := 0) k_M (by decide) rfl (Or.inl ⟨rfl, Or.inl w_1461⟩) d_M_lawAt_2) (.cons (v_iload_n (i := 1) d_M_lawAt_5 rfl) .nil)))
theorem d_M_lawAt_6 : decode y_M_lawAt.2.1 6 = .ok (.ifCond .lt (20), 3) := by decide +kernel
theorem d_M_lawAt_26 : decode y_M_lawAt.2.1 26 = .ok (.iconst (-1), 1) := by decide +kernel
theorem s_M_lawAt_26 : aw_VS y_M_lawAt 26 [o_c (.int (-1 : Int32))] 27 := .cons (v_iconst (v := (-1 : Int32)) d_M_lawAt_26 (by decide +kernel)) .nil
theorem d_M_lawAt_27 : decode y_M_lawAt.2.1 27 = .ok (.ireturn, 1) := by decide +kernel
theorem d_M_lawAt_9 : decode y_M_lawAt.2.1 9 = .ok (.iload_n 1, 1) := by decide +kernel
theorem d_M_lawAt_10 : decode y_M_lawAt.2.1 10 = .ok (.aload_n 0, 1) := by decide +kernel
theorem d_M_lawAt_11 : decode y_M_lawAt.2.1 11 = .ok (.getfield 461, 3) := by decide +kernel
theorem s_M_lawAt_9 : aw_VS y_M_lawAt 9 [o_ild 1, o_ald 0, o_getI 9 69] 14 := .cons (v_iload_n (i := 1) d_M_lawAt_9 rfl) (.cons (v_aload_n (i := 0) d_M_lawAt_10 rfl) (.cons (v_getI (k := 69) k_M (by decide) (Or.inl rfl) (Or.inl w_1530) d_M_lawAt_11) .nil))
theorem d_M_lawAt_14 : decode y_M_lawAt.2.1 14 = .ok (.if_icmp .ge (12), 3) := by decide +kernel
theorem d_M_lawAt_17 : decode y_M_lawAt.2.1 17 = .ok (.aload_n 0, 1) := by decide +kernel
theorem d_M_lawAt_18 : decode y_M_lawAt.2.1 18 = .ok (.getfield 121, 3) := by decide +kernel
theorem d_M_lawAt_21 : decode y_M_lawAt.2.1 21 = .ok (.iload_n 1, 1) := by decide +kernel
theorem s_M_lawAt_17 : aw_VS y_M_lawAt 17 [o_ald 0, o_getA 9 68, o_ild 1] 22 := .cons (v_aload_n (i := 0) d_M_lawAt_17 rfl) (.cons (v_getA (k := 68) k_M (by decide) rfl (Or.inl w_1529) d_M_lawAt_18) (.cons (v_iload_n (i := 1) d_M_lawAt_21 rfl) .nil))
theorem d_M_lawAt_22 : decode y_M_lawAt.2.1 22 = .ok (.iaload, 1) := by decide +kernel
theorem d_M_lawAt_23 : decode y_M_lawAt.2.1 23 = .ok (.goto (4), 3) := by decide +kernel
theorem b_M_lawAt_0 {X : aw_X} {d : Nat} {Q : Option Value → aw_H → Prop} {I : Nat → Nat → Int32} {L : Nat → Nat → Int64} {D : Nat → Nat} {v1 : Int32}
    (h1 : v1 < 0 → Q (some (.int (-1 : Int32))) (aw_s (aw_u I 69 0 (0 : Int32)) L D))
    (h2 : ¬ v1 < 0 → (I 69 69) ≤ v1 → Q (some (.int (-1 : Int32))) (aw_s (aw_u I 69 0 (0 : Int32)) L D))
    (h3 : ¬ v1 < 0 → ¬ (I 69 69) ≤ v1 → vp_in v1 28)
    (h4 : ¬ v1 < 0 → ¬ (I 69 69) ≤ v1 → Q (some (.int (I 104 v1.toNatClampNeg))) (aw_s (aw_u I 69 0 (0 : Int32)) L D)) :
    aw_z X d y_M_lawAt Q 0 [some (.ref 69), some (.int v1)] [] (aw_s I L D) :=
  (s_M_lawAt_0.go [some (.ref 69), some (.int v1)] [.int v1] (aw_s (aw_u I 69 0 (0 : Int32)) L D) rfl (z_if_lt (tgt := 26) d_M_lawAt_6 rfl (fun q1 => (s_M_lawAt_26.go [some (.ref 69), some (.int v1)] [.int (-1 : Int32)] (aw_s (aw_u I 69 0 (0 : Int32)) L D) rfl (z_iret d_M_lawAt_27 rfl rfl (h1 q1)))) (fun q2 => (s_M_lawAt_9.go [some (.ref 69), some (.int v1)] [.int (I 69 69), .int v1] (aw_s (aw_u I 69 0 (0 : Int32)) L D) rfl (z_icmp_ge (tgt := 26) d_M_lawAt_14 rfl (fun q3 => (s_M_lawAt_26.go [some (.ref 69), some (.int v1)] [.int (-1 : Int32)] (aw_s (aw_u I 69 0 (0 : Int32)) L D) rfl (z_iret d_M_lawAt_27 rfl rfl (h2 q2 q3)))) (fun q4 => (s_M_lawAt_17.go [some (.ref 69), some (.int v1)] [.int v1, .ref 104] (aw_s (aw_u I 69 0 (0 : Int32)) L D) rfl (z_iald (n := 28) rfl (aw_lt (o := 104) rfl) (h3 q2 q4) d_M_lawAt_22 (z_goto (tgt := 27) d_M_lawAt_23 rfl (z_iret d_M_lawAt_27 rfl rfl (h4 q2 q4)))))))))))
/-! M_rounds -/
theorem d_M_rounds_0 : decode y_M_rounds.2.1 0 = .ok (.aload_n 0, 1) := by decide +kernel
theorem d_M_rounds_1 : decode y_M_rounds.2.1 1 = .ok (.iconst 0, 1) := by decide +kernel
theorem d_M_rounds_2 : decode y_M_rounds.2.1 2 = .ok (.putfield 160, 3) := by decide +kernel
theorem d_M_rounds_5 : decode y_M_rounds.2.1 5 = .ok (.aload_n 0, 1) := by decide +kernel
theorem d_M_rounds_6 : decode y_M_rounds.2.1 6 = .ok (.getfield 363, 3) := by decide +kernel
theorem s_M_rounds_0 : aw_VS y_M_rounds 0 [o_ald 0, o_c (.int (0 : Int32)), o_putI 9 0, o_ald 0, o_getI 9 36] 9 := .cons (v_aload_n (i := 0) d_M_rounds_0 rfl) (.cons (v_iconst (v := (0 : Int32)) d_M_rounds_1 (by decide +kernel)) (.cons (v_putI (k := 0) k_M (by decide) rfl (Or.inl ⟨rfl, Or.inl w_1461⟩) d_M_rounds_2) (.cons (v_aload_n (i := 0) d_M_rounds_5 rfl) (.cons (v_getI (k := 36) k_M (by decide) (Or.inr rfl) (Or.inl w_1497) d_M_rounds_6) .nil))))
theorem d_M_rounds_9 : decode y_M_rounds.2.1 9 = .ok (.ifCond .eq (46), 3) := by decide +kernel
theorem d_M_rounds_55 : decode y_M_rounds.2.1 55 = .ok (.iconst (-1), 1) := by decide +kernel
theorem s_M_rounds_55 : aw_VS y_M_rounds 55 [o_c (.int (-1 : Int32))] 56 := .cons (v_iconst (v := (-1 : Int32)) d_M_rounds_55 (by decide +kernel)) .nil
theorem d_M_rounds_56 : decode y_M_rounds.2.1 56 = .ok (.ireturn, 1) := by decide +kernel
theorem d_M_rounds_12 : decode y_M_rounds.2.1 12 = .ok (.aload_n 0, 1) := by decide +kernel
theorem d_M_rounds_13 : decode y_M_rounds.2.1 13 = .ok (.getfield 420, 3) := by decide +kernel
theorem s_M_rounds_12 : aw_VS y_M_rounds 12 [o_ald 0, o_getI 9 67] 16 := .cons (v_aload_n (i := 0) d_M_rounds_12 rfl) (.cons (v_getI (k := 67) k_M (by decide) (Or.inr rfl) (Or.inl w_1528) d_M_rounds_13) .nil)
theorem d_M_rounds_16 : decode y_M_rounds.2.1 16 = .ok (.ifCond .eq (39), 3) := by decide +kernel
theorem d_M_rounds_19 : decode y_M_rounds.2.1 19 = .ok (.iload_n 1, 1) := by decide +kernel
theorem s_M_rounds_19 : aw_VS y_M_rounds 19 [o_ild 1] 20 := .cons (v_iload_n (i := 1) d_M_rounds_19 rfl) .nil
theorem d_M_rounds_20 : decode y_M_rounds.2.1 20 = .ok (.ifCond .lt (35), 3) := by decide +kernel
theorem d_M_rounds_23 : decode y_M_rounds.2.1 23 = .ok (.iload_n 1, 1) := by decide +kernel
theorem d_M_rounds_24 : decode y_M_rounds.2.1 24 = .ok (.aload_n 0, 1) := by decide +kernel
theorem d_M_rounds_25 : decode y_M_rounds.2.1 25 = .ok (.getfield 25, 3) := by decide +kernel
theorem d_M_rounds_28 : decode y_M_rounds.2.1 28 = .ok (.iconst 4, 1) := by decide +kernel
theorem s_M_rounds_23 : aw_VS y_M_rounds 23 [o_ild 1, o_ald 0, o_getA 9 16, o_c (.int (4 : Int32))] 29 := .cons (v_iload_n (i := 1) d_M_rounds_23 rfl) (.cons (v_aload_n (i := 0) d_M_rounds_24 rfl) (.cons (v_getA (k := 16) k_M (by decide) rfl (Or.inl w_1477) d_M_rounds_25) (.cons (v_iconst (v := (4 : Int32)) d_M_rounds_28 (by decide +kernel)) .nil)))
theorem d_M_rounds_29 : decode y_M_rounds.2.1 29 = .ok (.iaload, 1) := by decide +kernel
theorem d_M_rounds_30 : decode y_M_rounds.2.1 30 = .ok (.if_icmp .ge (25), 3) := by decide +kernel
theorem d_M_rounds_33 : decode y_M_rounds.2.1 33 = .ok (.aload_n 0, 1) := by decide +kernel
theorem d_M_rounds_34 : decode y_M_rounds.2.1 34 = .ok (.getfield 31, 3) := by decide +kernel
theorem d_M_rounds_37 : decode y_M_rounds.2.1 37 = .ok (.sipush 240, 3) := by decide +kernel
theorem d_M_rounds_40 : decode y_M_rounds.2.1 40 = .ok (.iload_n 1, 1) := by decide +kernel
theorem d_M_rounds_41 : decode y_M_rounds.2.1 41 = .ok (.iadd, 1) := by decide +kernel
theorem s_M_rounds_33 : aw_VS y_M_rounds 33 [o_ald 0, o_getA 9 18, o_c (.int (240 : Int32)), o_ild 1, o_i2 (fun x z => x + z)] 42 := .cons (v_aload_n (i := 0) d_M_rounds_33 rfl) (.cons (v_getA (k := 18) k_M (by decide) rfl (Or.inl w_1479) d_M_rounds_34) (.cons (v_sipush (v := (240 : Int32)) d_M_rounds_37 (by decide +kernel)) (.cons (v_iload_n (i := 1) d_M_rounds_40 rfl) (.cons (v_iadd d_M_rounds_41) .nil))))
theorem d_M_rounds_42 : decode y_M_rounds.2.1 42 = .ok (.baload, 1) := by decide +kernel
theorem d_M_rounds_43 : decode y_M_rounds.2.1 43 = .ok (.ifCond .eq (12), 3) := by decide +kernel
theorem d_M_rounds_46 : decode y_M_rounds.2.1 46 = .ok (.iload_n 2, 1) := by decide +kernel
theorem d_M_rounds_47 : decode y_M_rounds.2.1 47 = .ok (.iconst 0, 1) := by decide +kernel
theorem d_M_rounds_48 : decode y_M_rounds.2.1 48 = .ok (.iconst 1, 1) := by decide +kernel
theorem s_M_rounds_46 : aw_VS y_M_rounds 46 [o_ild 2, o_c (.int (0 : Int32)), o_c (.int (1 : Int32))] 49 := .cons (v_iload_n (i := 2) d_M_rounds_46 rfl) (.cons (v_iconst (v := (0 : Int32)) d_M_rounds_47 (by decide +kernel)) (.cons (v_iconst (v := (1 : Int32)) d_M_rounds_48 (by decide +kernel)) .nil))
theorem d_M_rounds_49 : decode y_M_rounds.2.1 49 = .ok (.invokestatic 234, 3) := by decide +kernel
theorem b_M_rounds_0 {X : aw_X} {d : Nat} {Q : Option Value → aw_H → Prop} {I : Nat → Nat → Int32} {L : Nat → Nat → Int64} {D : Nat → Nat} {v1 : Int32} {v2 : Int32}
    (h1 : (I 69 36) = 0 → Q (some (.int (-1 : Int32))) (aw_s (aw_u I 69 0 (0 : Int32)) L D))
    (h2 : ¬ (I 69 36) = 0 → (I 69 67) = 0 → Q (some (.int (-1 : Int32))) (aw_s (aw_u I 69 0 (0 : Int32)) L D))
    (h3 : ¬ (I 69 36) = 0 → ¬ (I 69 67) = 0 → v1 < 0 → Q (some (.int (-1 : Int32))) (aw_s (aw_u I 69 0 (0 : Int32)) L D))
    (h4 : ¬ (I 69 36) = 0 → ¬ (I 69 67) = 0 → ¬ v1 < 0 → (I 75 4) ≤ v1 → Q (some (.int (-1 : Int32))) (aw_s (aw_u I 69 0 (0 : Int32)) L D))
    (h5 : ¬ (I 69 36) = 0 → ¬ (I 69 67) = 0 → ¬ v1 < 0 → ¬ (I 75 4) ≤ v1 → vp_in ((240 : Int32) + v1) 420)
    (h6 : ¬ (I 69 36) = 0 → ¬ (I 69 67) = 0 → ¬ v1 < 0 → ¬ (I 75 4) ≤ v1 → (I 77 (((240 : Int32) + v1).toNatClampNeg)) = 0 → Q (some (.int (-1 : Int32))) (aw_s (aw_u I 69 0 (0 : Int32)) L D))
    (h7 : ¬ (I 69 36) = 0 → ¬ (I 69 67) = 0 → ¬ v1 < 0 → ¬ (I 75 4) ≤ v1 → ¬ (I 77 (((240 : Int32) + v1).toNatClampNeg)) = 0 → aw_m X d y_M_isIn [.int v2, .int (0 : Int32), .int (1 : Int32)] (aw_s (aw_u I 69 0 (0 : Int32)) L D) (fun r A => aw_z X (d + 1) y_M_rounds Q 52 [some (.ref 69), some (.int v1), some (.int v2)] (r.toList ++ []) A)) :
    aw_z X (d + 1) y_M_rounds Q 0 [some (.ref 69), some (.int v1), some (.int v2)] [] (aw_s I L D) :=
  (s_M_rounds_0.go [some (.ref 69), some (.int v1), some (.int v2)] [.int (I 69 36)] (aw_s (aw_u I 69 0 (0 : Int32)) L D) rfl (z_if_eq (tgt := 55) d_M_rounds_9 rfl (fun q1 => (s_M_rounds_55.go [some (.ref 69), some (.int v1), some (.int v2)] [.int (-1 : Int32)] (aw_s (aw_u I 69 0 (0 : Int32)) L D) rfl (z_iret d_M_rounds_56 rfl rfl (h1 q1)))) (fun q2 => (s_M_rounds_12.go [some (.ref 69), some (.int v1), some (.int v2)] [.int (I 69 67)] (aw_s (aw_u I 69 0 (0 : Int32)) L D) rfl (z_if_eq (tgt := 55) d_M_rounds_16 rfl (fun q3 => (s_M_rounds_55.go [some (.ref 69), some (.int v1), some (.int v2)] [.int (-1 : Int32)] (aw_s (aw_u I 69 0 (0 : Int32)) L D) rfl (z_iret d_M_rounds_56 rfl rfl (h2 q2 q3)))) (fun q4 => (s_M_rounds_19.go [some (.ref 69), some (.int v1), some (.int v2)] [.int v1] (aw_s (aw_u I 69 0 (0 : Int32)) L D) rfl (z_if_lt (tgt := 55) d_M_rounds_20 rfl (fun q5 => (s_M_rounds_55.go [some (.ref 69), some (.int v1), some (.int v2)] [.int (-1 : Int32)] (aw_s (aw_u I 69 0 (0 : Int32)) L D) rfl (z_iret d_M_rounds_56 rfl rfl (h3 q2 q4 q5)))) (fun q6 => (s_M_rounds_23.go [some (.ref 69), some (.int v1), some (.int v2)] [.int (4 : Int32), .ref 75, .int v1] (aw_s (aw_u I 69 0 (0 : Int32)) L D) rfl (z_iald (n := 7) rfl (aw_lt (o := 75) rfl) (aw_lin (by decide +kernel) (by decide +kernel)) d_M_rounds_29 (z_icmp_ge (tgt := 55) d_M_rounds_30 rfl (fun q7 => (s_M_rounds_55.go [some (.ref 69), some (.int v1), some (.int v2)] [.int (-1 : Int32)] (aw_s (aw_u I 69 0 (0 : Int32)) L D) rfl (z_iret d_M_rounds_56 rfl rfl (h4 q2 q4 q6 q7)))) (fun q8 => (s_M_rounds_33.go [some (.ref 69), some (.int v1), some (.int v2)] [.int ((240 : Int32) + v1), .ref 77] (aw_s (aw_u I 69 0 (0 : Int32)) L D) rfl (z_zald (n := 420) rfl (aw_lt (o := 77) rfl) (h5 q2 q4 q6 q8) d_M_rounds_42 (z_if_eq (tgt := 55) d_M_rounds_43 rfl (fun q9 => (s_M_rounds_55.go [some (.ref 69), some (.int v1), some (.int v2)] [.int (-1 : Int32)] (aw_s (aw_u I 69 0 (0 : Int32)) L D) rfl (z_iret d_M_rounds_56 rfl rfl (h6 q2 q4 q6 q8 q9)))) (fun q10 => (s_M_rounds_46.go [some (.ref 69), some (.int v1), some (.int v2)] [.int (1 : Int32), .int (0 : Int32), .int v2] (aw_s (aw_u I 69 0 (0 : Int32)) L D) rfl (z_callS (av := [.int v2, .int (0 : Int32), .int (1 : Int32)]) (st := []) ok_M_isIn (Or.inl w_1873) w_1874 d_M_rounds_49 rfl rfl (Nat.le_of_ble_eq_true rfl) (Nat.le_refl _) (Nat.le_refl _) (h7 q2 q4 q6 q8 q10))))))))))))))))))))
theorem d_M_rounds_52 : decode y_M_rounds.2.1 52 = .ok (.ifCond .ne (5), 3) := by decide +kernel
theorem d_M_rounds_57 : decode y_M_rounds.2.1 57 = .ok (.iload_n 2, 1) := by decide +kernel
theorem s_M_rounds_57 : aw_VS y_M_rounds 57 [o_ild 2] 58 := .cons (v_iload_n (i := 2) d_M_rounds_57 rfl) .nil
theorem d_M_rounds_58 : decode y_M_rounds.2.1 58 = .ok (.ifCond .ne (12), 3) := by decide +kernel
theorem d_M_rounds_70 : decode y_M_rounds.2.1 70 = .ok (.aload_n 0, 1) := by decide +kernel
theorem d_M_rounds_71 : decode y_M_rounds.2.1 71 = .ok (.getfield 112, 3) := by decide +kernel
theorem d_M_rounds_74 : decode y_M_rounds.2.1 74 = .ok (.iload_n 1, 1) := by decide +kernel
theorem s_M_rounds_70 : aw_VS y_M_rounds 70 [o_ald 0, o_getA 9 61, o_ild 1] 75 := .cons (v_aload_n (i := 0) d_M_rounds_70 rfl) (.cons (v_getA (k := 61) k_M (by decide) rfl (Or.inl w_1522) d_M_rounds_71) (.cons (v_iload_n (i := 1) d_M_rounds_74 rfl) .nil))
theorem d_M_rounds_75 : decode y_M_rounds.2.1 75 = .ok (.iaload, 1) := by decide +kernel
theorem d_M_rounds_76 : decode y_M_rounds.2.1 76 = .ok (.ireturn, 1) := by decide +kernel
theorem d_M_rounds_61 : decode y_M_rounds.2.1 61 = .ok (.aload_n 0, 1) := by decide +kernel
theorem d_M_rounds_62 : decode y_M_rounds.2.1 62 = .ok (.getfield 109, 3) := by decide +kernel
theorem d_M_rounds_65 : decode y_M_rounds.2.1 65 = .ok (.iload_n 1, 1) := by decide +kernel
theorem s_M_rounds_61 : aw_VS y_M_rounds 61 [o_ald 0, o_getA 9 60, o_ild 1] 66 := .cons (v_aload_n (i := 0) d_M_rounds_61 rfl) (.cons (v_getA (k := 60) k_M (by decide) rfl (Or.inl w_1521) d_M_rounds_62) (.cons (v_iload_n (i := 1) d_M_rounds_65 rfl) .nil))
theorem d_M_rounds_66 : decode y_M_rounds.2.1 66 = .ok (.iaload, 1) := by decide +kernel
theorem d_M_rounds_67 : decode y_M_rounds.2.1 67 = .ok (.goto (9), 3) := by decide +kernel
theorem b_M_rounds_52 {X : aw_X} {d : Nat} {Q : Option Value → aw_H → Prop} {I : Nat → Nat → Int32} {L : Nat → Nat → Int64} {D : Nat → Nat} {v1 : Int32} {v2 : Int32} {s0 : Int32}
    (h1 : ¬ s0 = 0 → ¬ v2 = 0 → vp_in v1 60)
    (h2 : ¬ s0 = 0 → ¬ v2 = 0 → Q (some (.int (I 101 v1.toNatClampNeg))) (aw_s I L D))
    (h3 : ¬ s0 = 0 → v2 = 0 → vp_in v1 60)
    (h4 : ¬ s0 = 0 → v2 = 0 → Q (some (.int (I 100 v1.toNatClampNeg))) (aw_s I L D))
    (h5 : s0 = 0 → Q (some (.int (-1 : Int32))) (aw_s I L D)) :
    aw_z X (d + 1) y_M_rounds Q 52 [some (.ref 69), some (.int v1), some (.int v2)] [.int s0] (aw_s I L D) :=
  (z_if_ne (tgt := 57) d_M_rounds_52 rfl (fun q1 => (s_M_rounds_57.go [some (.ref 69), some (.int v1), some (.int v2)] [.int v2] (aw_s I L D) rfl (z_if_ne (tgt := 70) d_M_rounds_58 rfl (fun q3 => (s_M_rounds_70.go [some (.ref 69), some (.int v1), some (.int v2)] [.int v1, .ref 101] (aw_s I L D) rfl (z_iald (n := 60) rfl (aw_lt (o := 101) rfl) (h1 q1 q3) d_M_rounds_75 (z_iret d_M_rounds_76 rfl rfl (h2 q1 q3))))) (fun q4 => (s_M_rounds_61.go [some (.ref 69), some (.int v1), some (.int v2)] [.int v1, .ref 100] (aw_s I L D) rfl (z_iald (n := 60) rfl (aw_lt (o := 100) rfl) (h3 q1 q4) d_M_rounds_66 (z_goto (tgt := 76) d_M_rounds_67 rfl (z_iret d_M_rounds_76 rfl rfl (h4 q1 q4))))))))) (fun q2 => (s_M_rounds_55.go [some (.ref 69), some (.int v1), some (.int v2)] [.int (-1 : Int32)] (aw_s I L D) rfl (z_iret d_M_rounds_56 rfl rfl (h5 q2)))))
