/-! by gen_blk.py (genall.py) -/
/-! M_fault -/
theorem d_M_fault_0 : decode y_M_fault.2.1 0 = .ok (.aload_n 0, 1) := by decide +kernel
theorem d_M_fault_1 : decode y_M_fault.2.1 1 = .ok (.iconst 0, 1) := by decide +kernel
theorem d_M_fault_2 : decode y_M_fault.2.1 2 = .ok (.putfield 160, 3) := by decide +kernel
theorem d_M_fault_5 : decode y_M_fault.2.1 5 = .ok (.aload_n 0, 1) := by decide +kernel
theorem d_M_fault_6 : decode y_M_fault.2.1 6 = .ok (.getfield 210, 3) := by decide +kernel
theorem s_M_fault_0 : aw_VS y_M_fault 0 [o_ald 0, o_c (.int (0 : Int32)), o_putI 9 0, o_ald 0, o_getI 9 9] 9 := .cons (v_aload_n (i := 0) d_M_fault_0 rfl) (.cons (v_iconst (v := (0 : Int32)) d_M_fault_1 (by decide +kernel)) (.cons (v_putI (k := 0) k_M (by decide) rfl (Or.inl ⟨rfl, Or.inl w_1461⟩) d_M_fault_2) (.cons (v_aload_n (i := 0) d_M_fault_5 rfl) (.cons (v_getI (k := 9) k_M (by decide) (Or.inl rfl) (Or.inl w_1470) d_M_fault_6) .nil))))
theorem d_M_fault_9 : decode y_M_fault.2.1 9 = .ok (.ireturn, 1) := by decide +kernel
theorem b_M_fault_0 {X : aw_X} {d : Nat} {Q : Option Value → aw_H → Prop} {I : Nat → Nat → Int32} {L : Nat → Nat → Int64} {D : Nat → Nat} 
    (h1 : Q (some (.int (I 69 9))) (aw_s (aw_u I 69 0 (0 : Int32)) L D)) :
    aw_z X d y_M_fault Q 0 [some (.ref 69)] [] (aw_s I L D) :=
  (s_M_fault_0.go [some (.ref 69)] [.int (I 69 9)] (aw_s (aw_u I 69 0 (0 : Int32)) L D) rfl (z_iret d_M_fault_9 rfl rfl (h1)))
/-! M_sizes -/
theorem d_M_sizes_0 : decode y_M_sizes.2.1 0 = .ok (.aload_n 0, 1) := by decide +kernel
theorem d_M_sizes_1 : decode y_M_sizes.2.1 1 = .ok (.iconst 0, 1) := by decide +kernel
theorem d_M_sizes_2 : decode y_M_sizes.2.1 2 = .ok (.putfield 160, 3) := by decide +kernel
theorem d_M_sizes_5 : decode y_M_sizes.2.1 5 = .ok (.iload_n 1, 1) := by decide +kernel
theorem d_M_sizes_6 : decode y_M_sizes.2.1 6 = .ok (.iconst 2, 1) := by decide +kernel
theorem d_M_sizes_7 : decode y_M_sizes.2.1 7 = .ok (.bipush 6, 2) := by decide +kernel
theorem s_M_sizes_0 : aw_VS y_M_sizes 0 [o_ald 0, o_c (.int (0 : Int32)), o_putI 9 0, o_ild 1, o_c (.int (2 : Int32)), o_c (.int (6 : Int32))] 9 := .cons (v_aload_n (i := 0) d_M_sizes_0 rfl) (.cons (v_iconst (v := (0 : Int32)) d_M_sizes_1 (by decide +kernel)) (.cons (v_putI (k := 0) k_M (by decide) rfl (Or.inl ⟨rfl, Or.inl w_1461⟩) d_M_sizes_2) (.cons (v_iload_n (i := 1) d_M_sizes_5 rfl) (.cons (v_iconst (v := (2 : Int32)) d_M_sizes_6 (by decide +kernel)) (.cons (v_bipush (v := (6 : Int32)) d_M_sizes_7 (by decide +kernel)) .nil)))))
theorem d_M_sizes_9 : decode y_M_sizes.2.1 9 = .ok (.invokestatic 234, 3) := by decide +kernel
theorem b_M_sizes_0 {X : aw_X} {d : Nat} {Q : Option Value → aw_H → Prop} {I : Nat → Nat → Int32} {L : Nat → Nat → Int64} {D : Nat → Nat} {v1 : Int32} {v2 : Int32} {v3 : Int32}
    (h1 : aw_m X d y_M_isIn [.int v1, .int (2 : Int32), .int (6 : Int32)] (aw_s (aw_u I 69 0 (0 : Int32)) L D) (fun r A => aw_z X (d + 1) y_M_sizes Q 12 [some (.ref 69), some (.int v1), some (.int v2), some (.int v3)] (r.toList ++ []) A)) :
    aw_z X (d + 1) y_M_sizes Q 0 [some (.ref 69), some (.int v1), some (.int v2), some (.int v3)] [] (aw_s I L D) :=
  (s_M_sizes_0.go [some (.ref 69), some (.int v1), some (.int v2), some (.int v3)] [.int (6 : Int32), .int (2 : Int32), .int v1] (aw_s (aw_u I 69 0 (0 : Int32)) L D) rfl (z_callS (av := [.int v1, .int (2 : Int32), .int (6 : Int32)]) (st := []) ok_M_isIn (Or.inl w_1873) w_1874 d_M_sizes_9 rfl rfl (Nat.le_of_ble_eq_true rfl) (Nat.le_refl _) (Nat.le_refl _) (h1)))
theorem d_M_sizes_12 : decode y_M_sizes.2.1 12 = .ok (.ifCond .eq (31), 3) := by decide +kernel
theorem d_M_sizes_43 : decode y_M_sizes.2.1 43 = .ok (.iconst 0, 1) := by decide +kernel
theorem s_M_sizes_43 : aw_VS y_M_sizes 43 [o_c (.int (0 : Int32))] 44 := .cons (v_iconst (v := (0 : Int32)) d_M_sizes_43 (by decide +kernel)) .nil
theorem d_M_sizes_44 : decode y_M_sizes.2.1 44 = .ok (.ireturn, 1) := by decide +kernel
theorem d_M_sizes_15 : decode y_M_sizes.2.1 15 = .ok (.iload_n 2, 1) := by decide +kernel
theorem d_M_sizes_16 : decode y_M_sizes.2.1 16 = .ok (.iconst 1, 1) := by decide +kernel
theorem d_M_sizes_17 : decode y_M_sizes.2.1 17 = .ok (.iconst 3, 1) := by decide +kernel
theorem s_M_sizes_15 : aw_VS y_M_sizes 15 [o_ild 2, o_c (.int (1 : Int32)), o_c (.int (3 : Int32))] 18 := .cons (v_iload_n (i := 2) d_M_sizes_15 rfl) (.cons (v_iconst (v := (1 : Int32)) d_M_sizes_16 (by decide +kernel)) (.cons (v_iconst (v := (3 : Int32)) d_M_sizes_17 (by decide +kernel)) .nil))
theorem d_M_sizes_18 : decode y_M_sizes.2.1 18 = .ok (.invokestatic 234, 3) := by decide +kernel
theorem b_M_sizes_12 {X : aw_X} {d : Nat} {Q : Option Value → aw_H → Prop} {I : Nat → Nat → Int32} {L : Nat → Nat → Int64} {D : Nat → Nat} {v1 : Int32} {v2 : Int32} {v3 : Int32} {s0 : Int32}
    (h1 : s0 = 0 → Q (some (.int (0 : Int32))) (aw_s I L D))
    (h2 : ¬ s0 = 0 → aw_m X d y_M_isIn [.int v2, .int (1 : Int32), .int (3 : Int32)] (aw_s I L D) (fun r A => aw_z X (d + 1) y_M_sizes Q 21 [some (.ref 69), some (.int v1), some (.int v2), some (.int v3)] (r.toList ++ []) A)) :
    aw_z X (d + 1) y_M_sizes Q 12 [some (.ref 69), some (.int v1), some (.int v2), some (.int v3)] [.int s0] (aw_s I L D) :=
  (z_if_eq (tgt := 43) d_M_sizes_12 rfl (fun q1 => (s_M_sizes_43.go [some (.ref 69), some (.int v1), some (.int v2), some (.int v3)] [.int (0 : Int32)] (aw_s I L D) rfl (z_iret d_M_sizes_44 rfl (aw_nz (by decide +kernel)) (h1 q1)))) (fun q2 => (s_M_sizes_15.go [some (.ref 69), some (.int v1), some (.int v2), some (.int v3)] [.int (3 : Int32), .int (1 : Int32), .int v2] (aw_s I L D) rfl (z_callS (av := [.int v2, .int (1 : Int32), .int (3 : Int32)]) (st := []) ok_M_isIn (Or.inl w_1873) w_1874 d_M_sizes_18 rfl rfl (Nat.le_of_ble_eq_true rfl) (Nat.le_refl _) (Nat.le_refl _) (h2 q2)))))
theorem d_M_sizes_21 : decode y_M_sizes.2.1 21 = .ok (.ifCond .eq (22), 3) := by decide +kernel
theorem d_M_sizes_24 : decode y_M_sizes.2.1 24 = .ok (.iload_n 3, 1) := by decide +kernel
theorem d_M_sizes_25 : decode y_M_sizes.2.1 25 = .ok (.iconst 0, 1) := by decide +kernel
theorem d_M_sizes_26 : decode y_M_sizes.2.1 26 = .ok (.iconst 2, 1) := by decide +kernel
theorem s_M_sizes_24 : aw_VS y_M_sizes 24 [o_ild 3, o_c (.int (0 : Int32)), o_c (.int (2 : Int32))] 27 := .cons (v_iload_n (i := 3) d_M_sizes_24 rfl) (.cons (v_iconst (v := (0 : Int32)) d_M_sizes_25 (by decide +kernel)) (.cons (v_iconst (v := (2 : Int32)) d_M_sizes_26 (by decide +kernel)) .nil))
theorem d_M_sizes_27 : decode y_M_sizes.2.1 27 = .ok (.invokestatic 234, 3) := by decide +kernel
theorem b_M_sizes_21 {X : aw_X} {d : Nat} {Q : Option Value → aw_H → Prop} {I : Nat → Nat → Int32} {L : Nat → Nat → Int64} {D : Nat → Nat} {v1 : Int32} {v2 : Int32} {v3 : Int32} {s0 : Int32}
    (h1 : s0 = 0 → Q (some (.int (0 : Int32))) (aw_s I L D))
    (h2 : ¬ s0 = 0 → aw_m X d y_M_isIn [.int v3, .int (0 : Int32), .int (2 : Int32)] (aw_s I L D) (fun r A => aw_z X (d + 1) y_M_sizes Q 30 [some (.ref 69), some (.int v1), some (.int v2), some (.int v3)] (r.toList ++ []) A)) :
    aw_z X (d + 1) y_M_sizes Q 21 [some (.ref 69), some (.int v1), some (.int v2), some (.int v3)] [.int s0] (aw_s I L D) :=
  (z_if_eq (tgt := 43) d_M_sizes_21 rfl (fun q1 => (s_M_sizes_43.go [some (.ref 69), some (.int v1), some (.int v2), some (.int v3)] [.int (0 : Int32)] (aw_s I L D) rfl (z_iret d_M_sizes_44 rfl (aw_nz (by decide +kernel)) (h1 q1)))) (fun q2 => (s_M_sizes_24.go [some (.ref 69), some (.int v1), some (.int v2), some (.int v3)] [.int (2 : Int32), .int (0 : Int32), .int v3] (aw_s I L D) rfl (z_callS (av := [.int v3, .int (0 : Int32), .int (2 : Int32)]) (st := []) ok_M_isIn (Or.inl w_1873) w_1874 d_M_sizes_27 rfl rfl (Nat.le_of_ble_eq_true rfl) (Nat.le_refl _) (Nat.le_refl _) (h2 q2)))))
theorem d_M_sizes_30 : decode y_M_sizes.2.1 30 = .ok (.ifCond .eq (13), 3) := by decide +kernel
theorem d_M_sizes_33 : decode y_M_sizes.2.1 33 = .ok (.iload_n 1, 1) := by decide +kernel
theorem d_M_sizes_34 : decode y_M_sizes.2.1 34 = .ok (.iload_n 2, 1) := by decide +kernel
theorem d_M_sizes_35 : decode y_M_sizes.2.1 35 = .ok (.iload_n 3, 1) := by decide +kernel
theorem d_M_sizes_36 : decode y_M_sizes.2.1 36 = .ok (.iadd, 1) := by decide +kernel
theorem d_M_sizes_37 : decode y_M_sizes.2.1 37 = .ok (.imul, 1) := by decide +kernel
theorem d_M_sizes_38 : decode y_M_sizes.2.1 38 = .ok (.bipush 12, 2) := by decide +kernel
theorem s_M_sizes_33 : aw_VS y_M_sizes 33 [o_ild 1, o_ild 2, o_ild 3, o_i2 (fun x z => x + z), o_i2 (fun x z => x * z), o_c (.int (12 : Int32))] 40 := .cons (v_iload_n (i := 1) d_M_sizes_33 rfl) (.cons (v_iload_n (i := 2) d_M_sizes_34 rfl) (.cons (v_iload_n (i := 3) d_M_sizes_35 rfl) (.cons (v_iadd d_M_sizes_36) (.cons (v_imul d_M_sizes_37) (.cons (v_bipush (v := (12 : Int32)) d_M_sizes_38 (by decide +kernel)) .nil)))))
theorem d_M_sizes_40 : decode y_M_sizes.2.1 40 = .ok (.if_icmp .le (5), 3) := by decide +kernel
theorem d_M_sizes_45 : decode y_M_sizes.2.1 45 = .ok (.aload_n 0, 1) := by decide +kernel
theorem d_M_sizes_46 : decode y_M_sizes.2.1 46 = .ok (.iload_n 1, 1) := by decide +kernel
theorem d_M_sizes_47 : decode y_M_sizes.2.1 47 = .ok (.putfield 53, 3) := by decide +kernel
theorem d_M_sizes_50 : decode y_M_sizes.2.1 50 = .ok (.aload_n 0, 1) := by decide +kernel
theorem d_M_sizes_51 : decode y_M_sizes.2.1 51 = .ok (.iload_n 2, 1) := by decide +kernel
theorem d_M_sizes_52 : decode y_M_sizes.2.1 52 = .ok (.putfield 57, 3) := by decide +kernel
theorem d_M_sizes_55 : decode y_M_sizes.2.1 55 = .ok (.aload_n 0, 1) := by decide +kernel
theorem d_M_sizes_56 : decode y_M_sizes.2.1 56 = .ok (.iload_n 3, 1) := by decide +kernel
theorem d_M_sizes_57 : decode y_M_sizes.2.1 57 = .ok (.putfield 360, 3) := by decide +kernel
theorem d_M_sizes_60 : decode y_M_sizes.2.1 60 = .ok (.aload_n 0, 1) := by decide +kernel
theorem d_M_sizes_61 : decode y_M_sizes.2.1 61 = .ok (.iconst 0, 1) := by decide +kernel
theorem s_M_sizes_45 : aw_VS y_M_sizes 45 [o_ald 0, o_ild 1, o_putI 9 33, o_ald 0, o_ild 2, o_putI 9 34, o_ald 0, o_ild 3, o_putI 9 35, o_ald 0, o_c (.int (0 : Int32))] 62 := .cons (v_aload_n (i := 0) d_M_sizes_45 rfl) (.cons (v_iload_n (i := 1) d_M_sizes_46 rfl) (.cons (v_putI (k := 33) k_M (by decide) rfl (Or.inl ⟨rfl, Or.inl w_1494⟩) d_M_sizes_47) (.cons (v_aload_n (i := 0) d_M_sizes_50 rfl) (.cons (v_iload_n (i := 2) d_M_sizes_51 rfl) (.cons (v_putI (k := 34) k_M (by decide) rfl (Or.inl ⟨rfl, Or.inl w_1495⟩) d_M_sizes_52) (.cons (v_aload_n (i := 0) d_M_sizes_55 rfl) (.cons (v_iload_n (i := 3) d_M_sizes_56 rfl) (.cons (v_putI (k := 35) k_M (by decide) rfl (Or.inl ⟨rfl, Or.inl w_1496⟩) d_M_sizes_57) (.cons (v_aload_n (i := 0) d_M_sizes_60 rfl) (.cons (v_iconst (v := (0 : Int32)) d_M_sizes_61 (by decide +kernel)) .nil))))))))))
theorem d_M_sizes_62 : decode y_M_sizes.2.1 62 = .ok (.putfield 363, 3) := by decide +kernel
theorem d_M_sizes_65 : decode y_M_sizes.2.1 65 = .ok (.iconst 1, 1) := by decide +kernel
theorem s_M_sizes_65 : aw_VS y_M_sizes 65 [o_c (.int (1 : Int32))] 66 := .cons (v_iconst (v := (1 : Int32)) d_M_sizes_65 (by decide +kernel)) .nil
theorem d_M_sizes_66 : decode y_M_sizes.2.1 66 = .ok (.ireturn, 1) := by decide +kernel
theorem b_M_sizes_30 {X : aw_X} {d : Nat} {Q : Option Value → aw_H → Prop} {I : Nat → Nat → Int32} {L : Nat → Nat → Int64} {D : Nat → Nat} {v1 : Int32} {v2 : Int32} {v3 : Int32} {s0 : Int32}
    (h1 : s0 = 0 → Q (some (.int (0 : Int32))) (aw_s I L D))
    (h2 : ¬ s0 = 0 → (v1 * (v2 + v3)) ≤ (12 : Int32) → Q (some (.int (1 : Int32))) (aw_s (aw_u (aw_u (aw_u (aw_u I 69 33 v1) 69 34 v2) 69 35 v3) 69 36 (0 : Int32)) L D))
    (h3 : ¬ s0 = 0 → ¬ (v1 * (v2 + v3)) ≤ (12 : Int32) → Q (some (.int (0 : Int32))) (aw_s I L D)) :
    aw_z X (d + 1) y_M_sizes Q 30 [some (.ref 69), some (.int v1), some (.int v2), some (.int v3)] [.int s0] (aw_s I L D) :=
  (z_if_eq (tgt := 43) d_M_sizes_30 rfl (fun q1 => (s_M_sizes_43.go [some (.ref 69), some (.int v1), some (.int v2), some (.int v3)] [.int (0 : Int32)] (aw_s I L D) rfl (z_iret d_M_sizes_44 rfl (aw_nz (by decide +kernel)) (h1 q1)))) (fun q2 => (s_M_sizes_33.go [some (.ref 69), some (.int v1), some (.int v2), some (.int v3)] [.int (12 : Int32), .int (v1 * (v2 + v3))] (aw_s I L D) rfl (z_icmp_le (tgt := 45) d_M_sizes_40 rfl (fun q3 => (s_M_sizes_45.go [some (.ref 69), some (.int v1), some (.int v2), some (.int v3)] [.int (0 : Int32), .ref 69] (aw_s (aw_u (aw_u (aw_u I 69 33 v1) 69 34 v2) 69 35 v3) L D) rfl (z_putZ (k := 36) k_M (by decide) rfl (Or.inl ⟨rfl, Or.inl w_1497⟩) d_M_sizes_62 rfl (aw_lt (o := 69) rfl) (by decide +kernel) (s_M_sizes_65.go [some (.ref 69), some (.int v1), some (.int v2), some (.int v3)] [.int (1 : Int32)] (aw_s (aw_u (aw_u (aw_u (aw_u I 69 33 v1) 69 34 v2) 69 35 v3) 69 36 (0 : Int32)) L D) rfl (z_iret d_M_sizes_66 rfl (aw_nz (by decide +kernel)) (h2 q2 q3)))))) (fun q4 => (s_M_sizes_43.go [some (.ref 69), some (.int v1), some (.int v2), some (.int v3)] [.int (0 : Int32)] (aw_s I L D) rfl (z_iret d_M_sizes_44 rfl (aw_nz (by decide +kernel)) (h3 q2 q4))))))))
/-! M_walk -/
theorem d_M_walk_0 : decode y_M_walk.2.1 0 = .ok (.aload_n 0, 1) := by decide +kernel
theorem d_M_walk_1 : decode y_M_walk.2.1 1 = .ok (.iload_n 1, 1) := by decide +kernel
theorem d_M_walk_2 : decode y_M_walk.2.1 2 = .ok (.iload_n 2, 1) := by decide +kernel
theorem s_M_walk_0 : aw_VS y_M_walk 0 [o_ald 0, o_ild 1, o_ild 2] 3 := .cons (v_aload_n (i := 0) d_M_walk_0 rfl) (.cons (v_iload_n (i := 1) d_M_walk_1 rfl) (.cons (v_iload_n (i := 2) d_M_walk_2 rfl) .nil))
theorem d_M_walk_3 : decode y_M_walk.2.1 3 = .ok (.invokevirtual 411, 3) := by decide +kernel
theorem b_M_walk_0 {X : aw_X} {d : Nat} {Q : Option Value → aw_H → Prop} {I : Nat → Nat → Int32} {L : Nat → Nat → Int64} {D : Nat → Nat} {v1 : Int32} {v2 : Int32}
    (h1 : aw_m X d y_M_areTold [.ref 69, .int v1, .int v2] (aw_s I L D) (fun r A => aw_z X (d + 1) y_M_walk Q 6 [some (.ref 69), some (.int v1), some (.int v2), none] (r.toList ++ []) A)) :
    aw_z X (d + 1) y_M_walk Q 0 [some (.ref 69), some (.int v1), some (.int v2), none] [] (aw_s I L D) :=
  (s_M_walk_0.go [some (.ref 69), some (.int v1), some (.int v2), none] [.int v2, .int v1, .ref 69] (aw_s I L D) rfl (z_callV (av := [.int v1, .int v2]) (st := []) ok_M_areTold (Or.inl w_1908) w_1910 w_104 k_M d_M_walk_3 rfl (aw_lt (o := 69) rfl) rfl rfl (Nat.le_of_ble_eq_true rfl) (Nat.le_refl _) (Nat.le_refl _) (h1)))
theorem d_M_walk_6 : decode y_M_walk.2.1 6 = .ok (.ifCond .ne (5), 3) := by decide +kernel
theorem d_M_walk_11 : decode y_M_walk.2.1 11 = .ok (.aload_n 0, 1) := by decide +kernel
theorem d_M_walk_12 : decode y_M_walk.2.1 12 = .ok (.iload_n 1, 1) := by decide +kernel
theorem d_M_walk_13 : decode y_M_walk.2.1 13 = .ok (.iconst 4, 1) := by decide +kernel
theorem s_M_walk_11 : aw_VS y_M_walk 11 [o_ald 0, o_ild 1, o_c (.int (4 : Int32))] 14 := .cons (v_aload_n (i := 0) d_M_walk_11 rfl) (.cons (v_iload_n (i := 1) d_M_walk_12 rfl) (.cons (v_iconst (v := (4 : Int32)) d_M_walk_13 (by decide +kernel)) .nil))
theorem d_M_walk_14 : decode y_M_walk.2.1 14 = .ok (.invokevirtual 353, 3) := by decide +kernel
theorem d_M_walk_9 : decode y_M_walk.2.1 9 = .ok (.iconst (-1), 1) := by decide +kernel
theorem s_M_walk_9 : aw_VS y_M_walk 9 [o_c (.int (-1 : Int32))] 10 := .cons (v_iconst (v := (-1 : Int32)) d_M_walk_9 (by decide +kernel)) .nil
theorem d_M_walk_10 : decode y_M_walk.2.1 10 = .ok (.ireturn, 1) := by decide +kernel
theorem b_M_walk_6 {X : aw_X} {d : Nat} {Q : Option Value → aw_H → Prop} {I : Nat → Nat → Int32} {L : Nat → Nat → Int64} {D : Nat → Nat} {v1 : Int32} {v2 : Int32} {s0 : Int32}
    (h1 : ¬ s0 = 0 → aw_m X d y_M_copy [.ref 69, .int v1, .int (4 : Int32)] (aw_s I L D) (fun r A => aw_z X (d + 1) y_M_walk Q 17 [some (.ref 69), none, some (.int v2), none] (r.toList ++ []) A))
    (h2 : s0 = 0 → Q (some (.int (-1 : Int32))) (aw_s I L D)) :
    aw_z X (d + 1) y_M_walk Q 6 [some (.ref 69), some (.int v1), some (.int v2), none] [.int s0] (aw_s I L D) :=
  (z_if_ne (tgt := 11) d_M_walk_6 rfl (fun q1 => (s_M_walk_11.go [some (.ref 69), some (.int v1), some (.int v2), none] [.int (4 : Int32), .int v1, .ref 69] (aw_s I L D) rfl (z_callV (av := [.int v1, .int (4 : Int32)]) (st := []) ok_M_copy (Or.inl w_1892) w_1894 w_103 k_M d_M_walk_14 rfl (aw_lt (o := 69) rfl) rfl rfl (Nat.le_of_ble_eq_true rfl) (Nat.le_refl _) (Nat.le_refl _) (aw_C.mono (h1 q1) (fun _ _ zz => aw_Z.weak (ls' := [some (.ref 69), none, some (.int v2), none]) zz (Nat.le_of_ble_eq_true rfl) ⟨Or.inr rfl, ⟨Or.inl rfl, ⟨Or.inr rfl, ⟨Or.inl rfl, trivial⟩⟩⟩⟩))))) (fun q2 => (s_M_walk_9.go [some (.ref 69), some (.int v1), some (.int v2), none] [.int (-1 : Int32)] (aw_s I L D) rfl (z_iret d_M_walk_10 rfl rfl (h2 q2)))))
theorem d_M_walk_17 : decode y_M_walk.2.1 17 = .ok (.aload_n 0, 1) := by decide +kernel
theorem d_M_walk_18 : decode y_M_walk.2.1 18 = .ok (.iload_n 2, 1) := by decide +kernel
theorem d_M_walk_19 : decode y_M_walk.2.1 19 = .ok (.putfield 414, 3) := by decide +kernel
theorem d_M_walk_22 : decode y_M_walk.2.1 22 = .ok (.aload_n 0, 1) := by decide +kernel
theorem d_M_walk_23 : decode y_M_walk.2.1 23 = .ok (.iconst 1, 1) := by decide +kernel
theorem s_M_walk_17 : aw_VS y_M_walk 17 [o_ald 0, o_ild 2, o_putI 9 65, o_ald 0, o_c (.int (1 : Int32))] 24 := .cons (v_aload_n (i := 0) d_M_walk_17 rfl) (.cons (v_iload_n (i := 2) d_M_walk_18 rfl) (.cons (v_putI (k := 65) k_M (by decide) rfl (Or.inl ⟨rfl, Or.inl w_1526⟩) d_M_walk_19) (.cons (v_aload_n (i := 0) d_M_walk_22 rfl) (.cons (v_iconst (v := (1 : Int32)) d_M_walk_23 (by decide +kernel)) .nil))))
theorem d_M_walk_24 : decode y_M_walk.2.1 24 = .ok (.putfield 363, 3) := by decide +kernel
theorem d_M_walk_27 : decode y_M_walk.2.1 27 = .ok (.aload_n 0, 1) := by decide +kernel
theorem d_M_walk_28 : decode y_M_walk.2.1 28 = .ok (.iconst 0, 1) := by decide +kernel
theorem s_M_walk_27 : aw_VS y_M_walk 27 [o_ald 0, o_c (.int (0 : Int32))] 29 := .cons (v_aload_n (i := 0) d_M_walk_27 rfl) (.cons (v_iconst (v := (0 : Int32)) d_M_walk_28 (by decide +kernel)) .nil)
theorem d_M_walk_29 : decode y_M_walk.2.1 29 = .ok (.putfield 417, 3) := by decide +kernel
theorem d_M_walk_32 : decode y_M_walk.2.1 32 = .ok (.aload_n 0, 1) := by decide +kernel
theorem d_M_walk_33 : decode y_M_walk.2.1 33 = .ok (.iconst 0, 1) := by decide +kernel
theorem s_M_walk_32 : aw_VS y_M_walk 32 [o_ald 0, o_c (.int (0 : Int32))] 34 := .cons (v_aload_n (i := 0) d_M_walk_32 rfl) (.cons (v_iconst (v := (0 : Int32)) d_M_walk_33 (by decide +kernel)) .nil)
theorem d_M_walk_34 : decode y_M_walk.2.1 34 = .ok (.putfield 420, 3) := by decide +kernel
theorem d_M_walk_37 : decode y_M_walk.2.1 37 = .ok (.iconst 0, 1) := by decide +kernel
theorem d_M_walk_38 : decode y_M_walk.2.1 38 = .ok (.istore_n 3, 1) := by decide +kernel
theorem s_M_walk_37 : aw_VS y_M_walk 37 [o_c (.int (0 : Int32)), o_ist 3] 39 := .cons (v_iconst (v := (0 : Int32)) d_M_walk_37 (by decide +kernel)) (.cons (v_istore_n d_M_walk_38) .nil)
theorem b_M_walk_17 {X : aw_X} {d : Nat} {Q : Option Value → aw_H → Prop} {I : Nat → Nat → Int32} {L : Nat → Nat → Int64} {D : Nat → Nat} {v2 : Int32}
    (h1 : aw_z X (d + 1) y_M_walk Q 39 [some (.ref 69), none, none, some (.int (0 : Int32))] [] (aw_s (aw_u (aw_u (aw_u (aw_u I 69 65 v2) 69 36 (1 : Int32)) 69 66 (0 : Int32)) 69 67 (0 : Int32)) L D)) :
    aw_z X (d + 1) y_M_walk Q 17 [some (.ref 69), none, some (.int v2), none] [] (aw_s I L D) :=
  (s_M_walk_17.go [some (.ref 69), none, some (.int v2), none] [.int (1 : Int32), .ref 69] (aw_s (aw_u I 69 65 v2) L D) rfl (z_putZ (k := 36) k_M (by decide) rfl (Or.inl ⟨rfl, Or.inl w_1497⟩) d_M_walk_24 rfl (aw_lt (o := 69) rfl) (by decide +kernel) (s_M_walk_27.go [some (.ref 69), none, some (.int v2), none] [.int (0 : Int32), .ref 69] (aw_s (aw_u (aw_u I 69 65 v2) 69 36 (1 : Int32)) L D) rfl (z_putZ (k := 66) k_M (by decide) rfl (Or.inl ⟨rfl, Or.inl w_1527⟩) d_M_walk_29 rfl (aw_lt (o := 69) rfl) (by decide +kernel) (s_M_walk_32.go [some (.ref 69), none, some (.int v2), none] [.int (0 : Int32), .ref 69] (aw_s (aw_u (aw_u (aw_u I 69 65 v2) 69 36 (1 : Int32)) 69 66 (0 : Int32)) L D) rfl (z_putZ (k := 67) k_M (by decide) rfl (Or.inl ⟨rfl, Or.inl w_1528⟩) d_M_walk_34 rfl (aw_lt (o := 69) rfl) (by decide +kernel) (s_M_walk_37.go [some (.ref 69), none, some (.int v2), some (.int (0 : Int32))] [] (aw_s (aw_u (aw_u (aw_u (aw_u I 69 65 v2) 69 36 (1 : Int32)) 69 66 (0 : Int32)) 69 67 (0 : Int32)) L D) rfl (aw_Z.weak (ls' := [some (.ref 69), none, none, some (.int (0 : Int32))]) (h1) (Nat.le_of_ble_eq_true rfl) ⟨Or.inr rfl, ⟨Or.inl rfl, ⟨Or.inl rfl, ⟨Or.inr rfl, trivial⟩⟩⟩⟩))))))))
theorem d_M_walk_39 : decode y_M_walk.2.1 39 = .ok (.iload_n 3, 1) := by decide +kernel
theorem d_M_walk_40 : decode y_M_walk.2.1 40 = .ok (.sipush 480, 3) := by decide +kernel
theorem s_M_walk_39 : aw_VS y_M_walk 39 [o_ild 3, o_c (.int (480 : Int32))] 43 := .cons (v_iload_n (i := 3) d_M_walk_39 rfl) (.cons (v_sipush (v := (480 : Int32)) d_M_walk_40 (by decide +kernel)) .nil)
theorem d_M_walk_43 : decode y_M_walk.2.1 43 = .ok (.if_icmp .ge (16), 3) := by decide +kernel
theorem d_M_walk_59 : decode y_M_walk.2.1 59 = .ok (.iconst 0, 1) := by decide +kernel
theorem d_M_walk_60 : decode y_M_walk.2.1 60 = .ok (.istore_n 3, 1) := by decide +kernel
theorem s_M_walk_59 : aw_VS y_M_walk 59 [o_c (.int (0 : Int32)), o_ist 3] 61 := .cons (v_iconst (v := (0 : Int32)) d_M_walk_59 (by decide +kernel)) (.cons (v_istore_n d_M_walk_60) .nil)
theorem d_M_walk_46 : decode y_M_walk.2.1 46 = .ok (.aload_n 0, 1) := by decide +kernel
theorem d_M_walk_47 : decode y_M_walk.2.1 47 = .ok (.getfield 75, 3) := by decide +kernel
theorem d_M_walk_50 : decode y_M_walk.2.1 50 = .ok (.iload_n 3, 1) := by decide +kernel
theorem d_M_walk_51 : decode y_M_walk.2.1 51 = .ok (.lconst 0, 1) := by decide +kernel
theorem s_M_walk_46 : aw_VS y_M_walk 46 [o_ald 0, o_getA 9 49, o_ild 3, o_c (.long (0 : Int64))] 52 := .cons (v_aload_n (i := 0) d_M_walk_46 rfl) (.cons (v_getA (k := 49) k_M (by decide) rfl (Or.inl w_1510) d_M_walk_47) (.cons (v_iload_n (i := 3) d_M_walk_50 rfl) (.cons (v_lconst (v := (0 : Int64)) d_M_walk_51 (by decide +kernel)) .nil)))
theorem d_M_walk_52 : decode y_M_walk.2.1 52 = .ok (.lastore, 1) := by decide +kernel
theorem d_M_walk_53 : decode y_M_walk.2.1 53 = .ok (.iinc 3 (1), 3) := by decide +kernel
theorem s_M_walk_53 : aw_VS y_M_walk 53 [o_inc 3 (1 : Int32)] 56 := .cons (v_iinc (k0 := (1 : Int32)) d_M_walk_53 (by decide +kernel)) .nil
theorem d_M_walk_56 : decode y_M_walk.2.1 56 = .ok (.goto (-17), 3) := by decide +kernel
theorem b_M_walk_39 {X : aw_X} {d : Nat} {Q : Option Value → aw_H → Prop} {I : Nat → Nat → Int32} {L : Nat → Nat → Int64} {D : Nat → Nat} {v3 : Int32}
    (h1 : (480 : Int32) ≤ v3 → aw_z X (d + 1) y_M_walk Q 61 [some (.ref 69), none, none, some (.int (0 : Int32))] [] (aw_s I L D))
    (h2 : ¬ (480 : Int32) ≤ v3 → vp_in v3 480)
    (h3 : ¬ (480 : Int32) ≤ v3 → aw_z X (d + 1) y_M_walk Q 39 [some (.ref 69), none, none, some (.int (v3 + (1 : Int32)))] [] (aw_s I (aw_u L 89 v3.toNatClampNeg (0 : Int64)) D)) :
    aw_z X (d + 1) y_M_walk Q 39 [some (.ref 69), none, none, some (.int v3)] [] (aw_s I L D) :=
  (s_M_walk_39.go [some (.ref 69), none, none, some (.int v3)] [.int (480 : Int32), .int v3] (aw_s I L D) rfl (z_icmp_ge (tgt := 59) d_M_walk_43 rfl (fun q1 => (s_M_walk_59.go [some (.ref 69), none, none, some (.int (0 : Int32))] [] (aw_s I L D) rfl (h1 q1))) (fun q2 => (s_M_walk_46.go [some (.ref 69), none, none, some (.int v3)] [.long (0 : Int64), .int v3, .ref 89] (aw_s I L D) rfl (z_last (n := 480) rfl rfl (aw_lt (o := 89) rfl) (h2 q2) d_M_walk_52 (s_M_walk_53.go [some (.ref 69), none, none, some (.int (v3 + (1 : Int32)))] [] (aw_s I (aw_u L 89 v3.toNatClampNeg (0 : Int64)) D) rfl (z_goto (tgt := 39) d_M_walk_56 rfl (h3 q2))))))))
theorem d_M_walk_61 : decode y_M_walk.2.1 61 = .ok (.iload_n 3, 1) := by decide +kernel
theorem d_M_walk_62 : decode y_M_walk.2.1 62 = .ok (.bipush 60, 2) := by decide +kernel
theorem s_M_walk_61 : aw_VS y_M_walk 61 [o_ild 3, o_c (.int (60 : Int32))] 64 := .cons (v_iload_n (i := 3) d_M_walk_61 rfl) (.cons (v_bipush (v := (60 : Int32)) d_M_walk_62 (by decide +kernel)) .nil)
theorem d_M_walk_64 : decode y_M_walk.2.1 64 = .ok (.if_icmp .ge (25), 3) := by decide +kernel
theorem d_M_walk_89 : decode y_M_walk.2.1 89 = .ok (.iconst 0, 1) := by decide +kernel
theorem d_M_walk_90 : decode y_M_walk.2.1 90 = .ok (.istore_n 3, 1) := by decide +kernel
theorem s_M_walk_89 : aw_VS y_M_walk 89 [o_c (.int (0 : Int32)), o_ist 3] 91 := .cons (v_iconst (v := (0 : Int32)) d_M_walk_89 (by decide +kernel)) (.cons (v_istore_n d_M_walk_90) .nil)
theorem d_M_walk_67 : decode y_M_walk.2.1 67 = .ok (.aload_n 0, 1) := by decide +kernel
theorem d_M_walk_68 : decode y_M_walk.2.1 68 = .ok (.getfield 109, 3) := by decide +kernel
theorem d_M_walk_71 : decode y_M_walk.2.1 71 = .ok (.iload_n 3, 1) := by decide +kernel
theorem d_M_walk_72 : decode y_M_walk.2.1 72 = .ok (.sipush 1000, 3) := by decide +kernel
theorem s_M_walk_67 : aw_VS y_M_walk 67 [o_ald 0, o_getA 9 60, o_ild 3, o_c (.int (1000 : Int32))] 75 := .cons (v_aload_n (i := 0) d_M_walk_67 rfl) (.cons (v_getA (k := 60) k_M (by decide) rfl (Or.inl w_1521) d_M_walk_68) (.cons (v_iload_n (i := 3) d_M_walk_71 rfl) (.cons (v_sipush (v := (1000 : Int32)) d_M_walk_72 (by decide +kernel)) .nil)))
theorem d_M_walk_75 : decode y_M_walk.2.1 75 = .ok (.iastore, 1) := by decide +kernel
theorem d_M_walk_76 : decode y_M_walk.2.1 76 = .ok (.aload_n 0, 1) := by decide +kernel
theorem d_M_walk_77 : decode y_M_walk.2.1 77 = .ok (.getfield 112, 3) := by decide +kernel
theorem d_M_walk_80 : decode y_M_walk.2.1 80 = .ok (.iload_n 3, 1) := by decide +kernel
theorem d_M_walk_81 : decode y_M_walk.2.1 81 = .ok (.iconst 0, 1) := by decide +kernel
theorem s_M_walk_76 : aw_VS y_M_walk 76 [o_ald 0, o_getA 9 61, o_ild 3, o_c (.int (0 : Int32))] 82 := .cons (v_aload_n (i := 0) d_M_walk_76 rfl) (.cons (v_getA (k := 61) k_M (by decide) rfl (Or.inl w_1522) d_M_walk_77) (.cons (v_iload_n (i := 3) d_M_walk_80 rfl) (.cons (v_iconst (v := (0 : Int32)) d_M_walk_81 (by decide +kernel)) .nil)))
theorem d_M_walk_82 : decode y_M_walk.2.1 82 = .ok (.iastore, 1) := by decide +kernel
theorem d_M_walk_83 : decode y_M_walk.2.1 83 = .ok (.iinc 3 (1), 3) := by decide +kernel
theorem s_M_walk_83 : aw_VS y_M_walk 83 [o_inc 3 (1 : Int32)] 86 := .cons (v_iinc (k0 := (1 : Int32)) d_M_walk_83 (by decide +kernel)) .nil
theorem d_M_walk_86 : decode y_M_walk.2.1 86 = .ok (.goto (-25), 3) := by decide +kernel
theorem b_M_walk_61 {X : aw_X} {d : Nat} {Q : Option Value → aw_H → Prop} {I : Nat → Nat → Int32} {L : Nat → Nat → Int64} {D : Nat → Nat} {v3 : Int32}
    (h1 : (60 : Int32) ≤ v3 → aw_z X (d + 1) y_M_walk Q 91 [some (.ref 69), none, none, some (.int (0 : Int32))] [] (aw_s I L D))
    (h2 : ¬ (60 : Int32) ≤ v3 → vp_in v3 60)
    (h3 : ¬ (60 : Int32) ≤ v3 → vp_in v3 60)
    (h4 : ¬ (60 : Int32) ≤ v3 → aw_z X (d + 1) y_M_walk Q 61 [some (.ref 69), none, none, some (.int (v3 + (1 : Int32)))] [] (aw_s (aw_u (aw_u I 100 v3.toNatClampNeg (1000 : Int32)) 101 v3.toNatClampNeg (0 : Int32)) L D)) :
    aw_z X (d + 1) y_M_walk Q 61 [some (.ref 69), none, none, some (.int v3)] [] (aw_s I L D) :=
  (s_M_walk_61.go [some (.ref 69), none, none, some (.int v3)] [.int (60 : Int32), .int v3] (aw_s I L D) rfl (z_icmp_ge (tgt := 89) d_M_walk_64 rfl (fun q1 => (s_M_walk_89.go [some (.ref 69), none, none, some (.int (0 : Int32))] [] (aw_s I L D) rfl (h1 q1))) (fun q2 => (s_M_walk_67.go [some (.ref 69), none, none, some (.int v3)] [.int (1000 : Int32), .int v3, .ref 100] (aw_s I L D) rfl (z_iast (n := 60) rfl (aw_lt (o := 100) rfl) (h2 q2) d_M_walk_75 (s_M_walk_76.go [some (.ref 69), none, none, some (.int v3)] [.int (0 : Int32), .int v3, .ref 101] (aw_s (aw_u I 100 v3.toNatClampNeg (1000 : Int32)) L D) rfl (z_iast (n := 60) rfl (aw_lt (o := 101) rfl) (h3 q2) d_M_walk_82 (s_M_walk_83.go [some (.ref 69), none, none, some (.int (v3 + (1 : Int32)))] [] (aw_s (aw_u (aw_u I 100 v3.toNatClampNeg (1000 : Int32)) 101 v3.toNatClampNeg (0 : Int32)) L D) rfl (z_goto (tgt := 61) d_M_walk_86 rfl (h4 q2))))))))))
theorem d_M_walk_91 : decode y_M_walk.2.1 91 = .ok (.iload_n 3, 1) := by decide +kernel
theorem d_M_walk_92 : decode y_M_walk.2.1 92 = .ok (.aload_n 0, 1) := by decide +kernel
theorem s_M_walk_91 : aw_VS y_M_walk 91 [o_ild 3, o_ald 0] 93 := .cons (v_iload_n (i := 3) d_M_walk_91 rfl) (.cons (v_aload_n (i := 0) d_M_walk_92 rfl) .nil)
theorem d_M_walk_93 : decode y_M_walk.2.1 93 = .ok (.invokevirtual 423, 3) := by decide +kernel
theorem b_M_walk_91 {X : aw_X} {d : Nat} {Q : Option Value → aw_H → Prop} {I : Nat → Nat → Int32} {L : Nat → Nat → Int64} {D : Nat → Nat} {v3 : Int32}
    (h1 : aw_m X d y_M_rows [.ref 69] (aw_s I L D) (fun r A => aw_z X (d + 1) y_M_walk Q 96 [some (.ref 69), none, none, some (.int v3)] (r.toList ++ [.int v3]) A)) :
    aw_z X (d + 1) y_M_walk Q 91 [some (.ref 69), none, none, some (.int v3)] [] (aw_s I L D) :=
  (s_M_walk_91.go [some (.ref 69), none, none, some (.int v3)] [.ref 69, .int v3] (aw_s I L D) rfl (z_callV (av := []) (st := [.int v3]) ok_M_rows (Or.inl w_1915) w_1917 w_105 k_M d_M_walk_93 rfl (aw_lt (o := 69) rfl) rfl rfl (Nat.le_of_ble_eq_true rfl) (Nat.le_refl _) (Nat.le_refl _) (h1)))
theorem d_M_walk_96 : decode y_M_walk.2.1 96 = .ok (.if_icmp .ge (14), 3) := by decide +kernel
theorem d_M_walk_110 : decode y_M_walk.2.1 110 = .ok (.aload_n 0, 1) := by decide +kernel
theorem s_M_walk_110 : aw_VS y_M_walk 110 [o_ald 0] 111 := .cons (v_aload_n (i := 0) d_M_walk_110 rfl) .nil
theorem d_M_walk_111 : decode y_M_walk.2.1 111 = .ok (.invokevirtual 429, 3) := by decide +kernel
theorem d_M_walk_99 : decode y_M_walk.2.1 99 = .ok (.aload_n 0, 1) := by decide +kernel
theorem d_M_walk_100 : decode y_M_walk.2.1 100 = .ok (.iload_n 3, 1) := by decide +kernel
theorem s_M_walk_99 : aw_VS y_M_walk 99 [o_ald 0, o_ild 3] 101 := .cons (v_aload_n (i := 0) d_M_walk_99 rfl) (.cons (v_iload_n (i := 3) d_M_walk_100 rfl) .nil)
theorem d_M_walk_101 : decode y_M_walk.2.1 101 = .ok (.invokevirtual 426, 3) := by decide +kernel
theorem b_M_walk_96 {X : aw_X} {d : Nat} {Q : Option Value → aw_H → Prop} {I : Nat → Nat → Int32} {L : Nat → Nat → Int64} {D : Nat → Nat} {v3 : Int32} {s1 : Int32} {s0 : Int32}
    (h1 : s1 ≤ s0 → aw_m X d y_M_order [.ref 69] (aw_s I L D) (fun r A => aw_z X (d + 1) y_M_walk Q 114 [some (.ref 69), none, none, none] (r.toList ++ []) A))
    (h2 : ¬ s1 ≤ s0 → aw_m X d y_M_walkRow [.ref 69, .int v3] (aw_s I L D) (fun r A => aw_z X (d + 1) y_M_walk Q 104 [some (.ref 69), none, none, some (.int v3)] (r.toList ++ []) A)) :
    aw_z X (d + 1) y_M_walk Q 96 [some (.ref 69), none, none, some (.int v3)] [.int s1, .int s0] (aw_s I L D) :=
  (z_icmp_ge (tgt := 110) d_M_walk_96 rfl (fun q1 => (s_M_walk_110.go [some (.ref 69), none, none, some (.int v3)] [.ref 69] (aw_s I L D) rfl (z_callV (av := []) (st := []) ok_M_order (Or.inl w_1955) w_1957 w_115 k_M d_M_walk_111 rfl (aw_lt (o := 69) rfl) rfl rfl (Nat.le_of_ble_eq_true rfl) (Nat.le_refl _) (Nat.le_refl _) (aw_C.mono (h1 q1) (fun _ _ zz => aw_Z.weak (ls' := [some (.ref 69), none, none, none]) zz (Nat.le_of_ble_eq_true rfl) ⟨Or.inr rfl, ⟨Or.inl rfl, ⟨Or.inl rfl, ⟨Or.inl rfl, trivial⟩⟩⟩⟩))))) (fun q2 => (s_M_walk_99.go [some (.ref 69), none, none, some (.int v3)] [.int v3, .ref 69] (aw_s I L D) rfl (z_callV (av := [.int v3]) (st := []) ok_M_walkRow (Or.inl w_1919) w_1921 w_106 k_M d_M_walk_101 rfl (aw_lt (o := 69) rfl) rfl rfl (Nat.le_of_ble_eq_true rfl) (Nat.le_refl _) (Nat.le_refl _) (h2 q2)))))
theorem d_M_walk_114 : decode y_M_walk.2.1 114 = .ok (.aload_n 0, 1) := by decide +kernel
theorem d_M_walk_115 : decode y_M_walk.2.1 115 = .ok (.getfield 431, 3) := by decide +kernel
theorem s_M_walk_114 : aw_VS y_M_walk 114 [o_ald 0, o_getI 9 64] 118 := .cons (v_aload_n (i := 0) d_M_walk_114 rfl) (.cons (v_getI (k := 64) k_M (by decide) (Or.inl rfl) (Or.inl w_1525) d_M_walk_115) .nil)
theorem d_M_walk_118 : decode y_M_walk.2.1 118 = .ok (.ireturn, 1) := by decide +kernel
theorem b_M_walk_114 {X : aw_X} {d : Nat} {Q : Option Value → aw_H → Prop} {I : Nat → Nat → Int32} {L : Nat → Nat → Int64} {D : Nat → Nat} 
    (h1 : Q (some (.int (I 69 64))) (aw_s I L D)) :
    aw_z X (d + 1) y_M_walk Q 114 [some (.ref 69), none, none, none] [] (aw_s I L D) :=
  (s_M_walk_114.go [some (.ref 69), none, none, none] [.int (I 69 64)] (aw_s I L D) rfl (z_iret d_M_walk_118 rfl rfl (h1)))
theorem d_M_walk_104 : decode y_M_walk.2.1 104 = .ok (.iinc 3 (1), 3) := by decide +kernel
theorem s_M_walk_104 : aw_VS y_M_walk 104 [o_inc 3 (1 : Int32)] 107 := .cons (v_iinc (k0 := (1 : Int32)) d_M_walk_104 (by decide +kernel)) .nil
theorem d_M_walk_107 : decode y_M_walk.2.1 107 = .ok (.goto (-16), 3) := by decide +kernel
theorem b_M_walk_104 {X : aw_X} {d : Nat} {Q : Option Value → aw_H → Prop} {I : Nat → Nat → Int32} {L : Nat → Nat → Int64} {D : Nat → Nat} {v3 : Int32}
    (h1 : aw_z X (d + 1) y_M_walk Q 91 [some (.ref 69), none, none, some (.int (v3 + (1 : Int32)))] [] (aw_s I L D)) :
    aw_z X (d + 1) y_M_walk Q 104 [some (.ref 69), none, none, some (.int v3)] [] (aw_s I L D) :=
  (s_M_walk_104.go [some (.ref 69), none, none, some (.int (v3 + (1 : Int32)))] [] (aw_s I L D) rfl (z_goto (tgt := 91) d_M_walk_107 rfl (h1)))
/-! M_areTold -/
theorem d_M_areTold_0 : decode y_M_areTold.2.1 0 = .ok (.aload_n 0, 1) := by decide +kernel
theorem d_M_areTold_1 : decode y_M_areTold.2.1 1 = .ok (.iconst 0, 1) := by decide +kernel
theorem d_M_areTold_2 : decode y_M_areTold.2.1 2 = .ok (.putfield 160, 3) := by decide +kernel
theorem d_M_areTold_5 : decode y_M_areTold.2.1 5 = .ok (.aload_n 0, 1) := by decide +kernel
theorem s_M_areTold_0 : aw_VS y_M_areTold 0 [o_ald 0, o_c (.int (0 : Int32)), o_putI 9 0, o_ald 0] 6 := .cons (v_aload_n (i := 0) d_M_areTold_0 rfl) (.cons (v_iconst (v := (0 : Int32)) d_M_areTold_1 (by decide +kernel)) (.cons (v_putI (k := 0) k_M (by decide) rfl (Or.inl ⟨rfl, Or.inl w_1461⟩) d_M_areTold_2) (.cons (v_aload_n (i := 0) d_M_areTold_5 rfl) .nil)))
theorem d_M_areTold_6 : decode y_M_areTold.2.1 6 = .ok (.invokevirtual 347, 3) := by decide +kernel
theorem b_M_areTold_0 {X : aw_X} {d : Nat} {Q : Option Value → aw_H → Prop} {I : Nat → Nat → Int32} {L : Nat → Nat → Int64} {D : Nat → Nat} {v1 : Int32} {v2 : Int32}
    (h1 : aw_m X d y_M_layEmpty [.ref 69] (aw_s (aw_u I 69 0 (0 : Int32)) L D) (fun r A => aw_z X (d + 1) y_M_areTold Q 9 [none, some (.int v1), some (.int v2)] (r.toList ++ []) A)) :
    aw_z X (d + 1) y_M_areTold Q 0 [some (.ref 69), some (.int v1), some (.int v2)] [] (aw_s I L D) :=
  (s_M_areTold_0.go [some (.ref 69), some (.int v1), some (.int v2)] [.ref 69] (aw_s (aw_u I 69 0 (0 : Int32)) L D) rfl (z_callV (av := []) (st := []) ok_M_layEmpty (Or.inl w_1748) w_1750 w_72 k_M d_M_areTold_6 rfl (aw_lt (o := 69) rfl) rfl rfl (Nat.le_of_ble_eq_true rfl) (Nat.le_refl _) (Nat.le_refl _) (aw_C.mono (h1) (fun _ _ zz => aw_Z.weak (ls' := [none, some (.int v1), some (.int v2)]) zz (Nat.le_of_ble_eq_true rfl) ⟨Or.inl rfl, ⟨Or.inr rfl, ⟨Or.inr rfl, trivial⟩⟩⟩))))
theorem d_M_areTold_9 : decode y_M_areTold.2.1 9 = .ok (.iload_n 1, 1) := by decide +kernel
theorem s_M_areTold_9 : aw_VS y_M_areTold 9 [o_ild 1] 10 := .cons (v_iload_n (i := 1) d_M_areTold_9 rfl) .nil
theorem d_M_areTold_10 : decode y_M_areTold.2.1 10 = .ok (.invokestatic 344, 3) := by decide +kernel
theorem b_M_areTold_9 {X : aw_X} {d : Nat} {Q : Option Value → aw_H → Prop} {I : Nat → Nat → Int32} {L : Nat → Nat → Int64} {D : Nat → Nat} {v1 : Int32} {v2 : Int32}
    (h1 : aw_m X d y_M_isProgram [.int v1] (aw_s I L D) (fun r A => aw_z X (d + 1) y_M_areTold Q 13 [none, none, some (.int v2)] (r.toList ++ []) A)) :
    aw_z X (d + 1) y_M_areTold Q 9 [none, some (.int v1), some (.int v2)] [] (aw_s I L D) :=
  (s_M_areTold_9.go [none, some (.int v1), some (.int v2)] [.int v1] (aw_s I L D) rfl (z_callS (av := [.int v1]) (st := []) ok_M_isProgram (Or.inl w_1745) w_1746 d_M_areTold_10 rfl rfl (Nat.le_of_ble_eq_true rfl) (Nat.le_refl _) (Nat.le_refl _) (aw_C.mono (h1) (fun _ _ zz => aw_Z.weak (ls' := [none, none, some (.int v2)]) zz (Nat.le_of_ble_eq_true rfl) ⟨Or.inl rfl, ⟨Or.inl rfl, ⟨Or.inr rfl, trivial⟩⟩⟩))))
theorem d_M_areTold_13 : decode y_M_areTold.2.1 13 = .ok (.ifCond .eq (14), 3) := by decide +kernel
theorem d_M_areTold_27 : decode y_M_areTold.2.1 27 = .ok (.iconst 0, 1) := by decide +kernel
theorem s_M_areTold_27 : aw_VS y_M_areTold 27 [o_c (.int (0 : Int32))] 28 := .cons (v_iconst (v := (0 : Int32)) d_M_areTold_27 (by decide +kernel)) .nil
theorem d_M_areTold_28 : decode y_M_areTold.2.1 28 = .ok (.ireturn, 1) := by decide +kernel
theorem d_M_areTold_16 : decode y_M_areTold.2.1 16 = .ok (.iload_n 2, 1) := by decide +kernel
theorem s_M_areTold_16 : aw_VS y_M_areTold 16 [o_ild 2] 17 := .cons (v_iload_n (i := 2) d_M_areTold_16 rfl) .nil
theorem d_M_areTold_17 : decode y_M_areTold.2.1 17 = .ok (.invokestatic 408, 3) := by decide +kernel
theorem b_M_areTold_13 {X : aw_X} {d : Nat} {Q : Option Value → aw_H → Prop} {I : Nat → Nat → Int32} {L : Nat → Nat → Int64} {D : Nat → Nat} {v2 : Int32} {s0 : Int32}
    (h1 : s0 = 0 → Q (some (.int (0 : Int32))) (aw_s I L D))
    (h2 : ¬ s0 = 0 → aw_m X d y_M_isFuel [.int v2] (aw_s I L D) (fun r A => aw_z X (d + 1) y_M_areTold Q 20 [none, none, none] (r.toList ++ []) A)) :
    aw_z X (d + 1) y_M_areTold Q 13 [none, none, some (.int v2)] [.int s0] (aw_s I L D) :=
  (z_if_eq (tgt := 27) d_M_areTold_13 rfl (fun q1 => (s_M_areTold_27.go [none, none, some (.int v2)] [.int (0 : Int32)] (aw_s I L D) rfl (z_iret d_M_areTold_28 rfl (aw_nz (by decide +kernel)) (h1 q1)))) (fun q2 => (s_M_areTold_16.go [none, none, some (.int v2)] [.int v2] (aw_s I L D) rfl (z_callS (av := [.int v2]) (st := []) ok_M_isFuel (Or.inl w_1912) w_1913 d_M_areTold_17 rfl rfl (Nat.le_of_ble_eq_true rfl) (Nat.le_refl _) (Nat.le_refl _) (aw_C.mono (h2 q2) (fun _ _ zz => aw_Z.weak (ls' := [none, none, none]) zz (Nat.le_of_ble_eq_true rfl) ⟨Or.inl rfl, ⟨Or.inl rfl, ⟨Or.inl rfl, trivial⟩⟩⟩))))))
theorem d_M_areTold_20 : decode y_M_areTold.2.1 20 = .ok (.ifCond .eq (7), 3) := by decide +kernel
theorem d_M_areTold_23 : decode y_M_areTold.2.1 23 = .ok (.iconst 1, 1) := by decide +kernel
theorem s_M_areTold_23 : aw_VS y_M_areTold 23 [o_c (.int (1 : Int32))] 24 := .cons (v_iconst (v := (1 : Int32)) d_M_areTold_23 (by decide +kernel)) .nil
theorem d_M_areTold_24 : decode y_M_areTold.2.1 24 = .ok (.goto (4), 3) := by decide +kernel
theorem b_M_areTold_20 {X : aw_X} {d : Nat} {Q : Option Value → aw_H → Prop} {I : Nat → Nat → Int32} {L : Nat → Nat → Int64} {D : Nat → Nat} {s0 : Int32}
    (h1 : s0 = 0 → Q (some (.int (0 : Int32))) (aw_s I L D))
    (h2 : ¬ s0 = 0 → Q (some (.int (1 : Int32))) (aw_s I L D)) :
    aw_z X (d + 1) y_M_areTold Q 20 [none, none, none] [.int s0] (aw_s I L D) :=
  (z_if_eq (tgt := 27) d_M_areTold_20 rfl (fun q1 => (s_M_areTold_27.go [none, none, none] [.int (0 : Int32)] (aw_s I L D) rfl (z_iret d_M_areTold_28 rfl (aw_nz (by decide +kernel)) (h1 q1)))) (fun q2 => (s_M_areTold_23.go [none, none, none] [.int (1 : Int32)] (aw_s I L D) rfl (z_goto (tgt := 28) d_M_areTold_24 rfl (z_iret d_M_areTold_28 rfl (aw_nz (by decide +kernel)) (h2 q2))))))
/-! M_isFuel -/
theorem d_M_isFuel_0 : decode y_M_isFuel.2.1 0 = .ok (.iload_n 0, 1) := by decide +kernel
theorem d_M_isFuel_1 : decode y_M_isFuel.2.1 1 = .ok (.iconst 1, 1) := by decide +kernel
theorem s_M_isFuel_0 : aw_VS y_M_isFuel 0 [o_ild 0, o_c (.int (1 : Int32))] 2 := .cons (v_iload_n (i := 0) d_M_isFuel_0 rfl) (.cons (v_iconst (v := (1 : Int32)) d_M_isFuel_1 (by decide +kernel)) .nil)
theorem d_M_isFuel_2 : decode y_M_isFuel.2.1 2 = .ok (.if_icmp .lt (13), 3) := by decide +kernel
theorem d_M_isFuel_15 : decode y_M_isFuel.2.1 15 = .ok (.iconst 0, 1) := by decide +kernel
theorem s_M_isFuel_15 : aw_VS y_M_isFuel 15 [o_c (.int (0 : Int32))] 16 := .cons (v_iconst (v := (0 : Int32)) d_M_isFuel_15 (by decide +kernel)) .nil
theorem d_M_isFuel_16 : decode y_M_isFuel.2.1 16 = .ok (.ireturn, 1) := by decide +kernel
theorem d_M_isFuel_5 : decode y_M_isFuel.2.1 5 = .ok (.iload_n 0, 1) := by decide +kernel
theorem d_M_isFuel_6 : decode y_M_isFuel.2.1 6 = .ok (.bipush 40, 2) := by decide +kernel
theorem s_M_isFuel_5 : aw_VS y_M_isFuel 5 [o_ild 0, o_c (.int (40 : Int32))] 8 := .cons (v_iload_n (i := 0) d_M_isFuel_5 rfl) (.cons (v_bipush (v := (40 : Int32)) d_M_isFuel_6 (by decide +kernel)) .nil)
theorem d_M_isFuel_8 : decode y_M_isFuel.2.1 8 = .ok (.if_icmp .gt (7), 3) := by decide +kernel
theorem d_M_isFuel_11 : decode y_M_isFuel.2.1 11 = .ok (.iconst 1, 1) := by decide +kernel
theorem s_M_isFuel_11 : aw_VS y_M_isFuel 11 [o_c (.int (1 : Int32))] 12 := .cons (v_iconst (v := (1 : Int32)) d_M_isFuel_11 (by decide +kernel)) .nil
theorem d_M_isFuel_12 : decode y_M_isFuel.2.1 12 = .ok (.goto (4), 3) := by decide +kernel
theorem b_M_isFuel_0 {X : aw_X} {d : Nat} {Q : Option Value → aw_H → Prop} {I : Nat → Nat → Int32} {L : Nat → Nat → Int64} {D : Nat → Nat} {v0 : Int32}
    (h1 : v0 < (1 : Int32) → Q (some (.int (0 : Int32))) (aw_s I L D))
    (h2 : ¬ v0 < (1 : Int32) → (40 : Int32) < v0 → Q (some (.int (0 : Int32))) (aw_s I L D))
    (h3 : ¬ v0 < (1 : Int32) → ¬ (40 : Int32) < v0 → Q (some (.int (1 : Int32))) (aw_s I L D)) :
    aw_z X d y_M_isFuel Q 0 [some (.int v0)] [] (aw_s I L D) :=
  (s_M_isFuel_0.go [some (.int v0)] [.int (1 : Int32), .int v0] (aw_s I L D) rfl (z_icmp_lt (tgt := 15) d_M_isFuel_2 rfl (fun q1 => (s_M_isFuel_15.go [some (.int v0)] [.int (0 : Int32)] (aw_s I L D) rfl (z_iret d_M_isFuel_16 rfl (aw_nz (by decide +kernel)) (h1 q1)))) (fun q2 => (s_M_isFuel_5.go [some (.int v0)] [.int (40 : Int32), .int v0] (aw_s I L D) rfl (z_icmp_gt (tgt := 15) d_M_isFuel_8 rfl (fun q3 => (s_M_isFuel_15.go [some (.int v0)] [.int (0 : Int32)] (aw_s I L D) rfl (z_iret d_M_isFuel_16 rfl (aw_nz (by decide +kernel)) (h2 q2 q3)))) (fun q4 => (s_M_isFuel_11.go [some (.int v0)] [.int (1 : Int32)] (aw_s I L D) rfl (z_goto (tgt := 16) d_M_isFuel_12 rfl (z_iret d_M_isFuel_16 rfl (aw_nz (by decide +kernel)) (h3 q2 q4))))))))))
/-! M_rows -/
theorem d_M_rows_0 : decode y_M_rows.2.1 0 = .ok (.iconst 1, 1) := by decide +kernel
theorem d_M_rows_1 : decode y_M_rows.2.1 1 = .ok (.aload_n 0, 1) := by decide +kernel
theorem d_M_rows_2 : decode y_M_rows.2.1 2 = .ok (.getfield 53, 3) := by decide +kernel
theorem d_M_rows_5 : decode y_M_rows.2.1 5 = .ok (.aload_n 0, 1) := by decide +kernel
theorem d_M_rows_6 : decode y_M_rows.2.1 6 = .ok (.getfield 57, 3) := by decide +kernel
theorem d_M_rows_9 : decode y_M_rows.2.1 9 = .ok (.aload_n 0, 1) := by decide +kernel
theorem d_M_rows_10 : decode y_M_rows.2.1 10 = .ok (.getfield 360, 3) := by decide +kernel
theorem d_M_rows_13 : decode y_M_rows.2.1 13 = .ok (.iadd, 1) := by decide +kernel
theorem d_M_rows_14 : decode y_M_rows.2.1 14 = .ok (.imul, 1) := by decide +kernel
theorem d_M_rows_15 : decode y_M_rows.2.1 15 = .ok (.ishl, 1) := by decide +kernel
theorem s_M_rows_0 : aw_VS y_M_rows 0 [o_c (.int (1 : Int32)), o_ald 0, o_getI 9 33, o_ald 0, o_getI 9 34, o_ald 0, o_getI 9 35, o_i2 (fun x z => x + z), o_i2 (fun x z => x * z), o_i2 (fun x z => x <<< (z &&& 31))] 16 := .cons (v_iconst (v := (1 : Int32)) d_M_rows_0 (by decide +kernel)) (.cons (v_aload_n (i := 0) d_M_rows_1 rfl) (.cons (v_getI (k := 33) k_M (by decide) (Or.inl rfl) (Or.inl w_1494) d_M_rows_2) (.cons (v_aload_n (i := 0) d_M_rows_5 rfl) (.cons (v_getI (k := 34) k_M (by decide) (Or.inl rfl) (Or.inl w_1495) d_M_rows_6) (.cons (v_aload_n (i := 0) d_M_rows_9 rfl) (.cons (v_getI (k := 35) k_M (by decide) (Or.inl rfl) (Or.inl w_1496) d_M_rows_10) (.cons (v_iadd d_M_rows_13) (.cons (v_imul d_M_rows_14) (.cons (v_ishl d_M_rows_15) .nil)))))))))
theorem d_M_rows_16 : decode y_M_rows.2.1 16 = .ok (.ireturn, 1) := by decide +kernel
theorem b_M_rows_0 {X : aw_X} {d : Nat} {Q : Option Value → aw_H → Prop} {I : Nat → Nat → Int32} {L : Nat → Nat → Int64} {D : Nat → Nat} 
    (h1 : Q (some (.int ((1 : Int32) <<< (((I 69 33) * ((I 69 34) + (I 69 35))) &&& 31)))) (aw_s I L D)) :
    aw_z X d y_M_rows Q 0 [some (.ref 69)] [] (aw_s I L D) :=
  (s_M_rows_0.go [some (.ref 69)] [.int ((1 : Int32) <<< (((I 69 33) * ((I 69 34) + (I 69 35))) &&& 31))] (aw_s I L D) rfl (z_iret d_M_rows_16 rfl rfl (h1)))
/-! M_walkRow -/
theorem d_M_walkRow_0 : decode y_M_walkRow.2.1 0 = .ok (.aload_n 0, 1) := by decide +kernel
theorem d_M_walkRow_1 : decode y_M_walkRow.2.1 1 = .ok (.iconst 0, 1) := by decide +kernel
theorem d_M_walkRow_2 : decode y_M_walkRow.2.1 2 = .ok (.putfield 369, 3) := by decide +kernel
theorem d_M_walkRow_5 : decode y_M_walkRow.2.1 5 = .ok (.aload_n 0, 1) := by decide +kernel
theorem d_M_walkRow_6 : decode y_M_walkRow.2.1 6 = .ok (.iconst 4, 1) := by decide +kernel
theorem d_M_walkRow_7 : decode y_M_walkRow.2.1 7 = .ok (.iload_n 1, 1) := by decide +kernel
theorem d_M_walkRow_8 : decode y_M_walkRow.2.1 8 = .ok (.aload_n 0, 1) := by decide +kernel
theorem d_M_walkRow_9 : decode y_M_walkRow.2.1 9 = .ok (.getfield 414, 3) := by decide +kernel
theorem d_M_walkRow_12 : decode y_M_walkRow.2.1 12 = .ok (.iconst (-1), 1) := by decide +kernel
theorem s_M_walkRow_0 : aw_VS y_M_walkRow 0 [o_ald 0, o_c (.int (0 : Int32)), o_putI 9 48, o_ald 0, o_c (.int (4 : Int32)), o_ild 1, o_ald 0, o_getI 9 65, o_c (.int (-1 : Int32))] 13 := .cons (v_aload_n (i := 0) d_M_walkRow_0 rfl) (.cons (v_iconst (v := (0 : Int32)) d_M_walkRow_1 (by decide +kernel)) (.cons (v_putI (k := 48) k_M (by decide) rfl (Or.inl ⟨rfl, Or.inl w_1509⟩) d_M_walkRow_2) (.cons (v_aload_n (i := 0) d_M_walkRow_5 rfl) (.cons (v_iconst (v := (4 : Int32)) d_M_walkRow_6 (by decide +kernel)) (.cons (v_iload_n (i := 1) d_M_walkRow_7 rfl) (.cons (v_aload_n (i := 0) d_M_walkRow_8 rfl) (.cons (v_getI (k := 65) k_M (by decide) (Or.inl rfl) (Or.inl w_1526) d_M_walkRow_9) (.cons (v_iconst (v := (-1 : Int32)) d_M_walkRow_12 (by decide +kernel)) .nil))))))))
theorem d_M_walkRow_13 : decode y_M_walkRow.2.1 13 = .ok (.invokevirtual 434, 3) := by decide +kernel
theorem b_M_walkRow_0 {X : aw_X} {d : Nat} {Q : Option Value → aw_H → Prop} {I : Nat → Nat → Int32} {L : Nat → Nat → Int64} {D : Nat → Nat} {v1 : Int32}
    (h1 : aw_m X d y_M_runs [.ref 69, .int (4 : Int32), .int v1, .int (I 69 65), .int (-1 : Int32)] (aw_s (aw_u I 69 48 (0 : Int32)) L D) (fun r A => aw_z X (d + 1) y_M_walkRow Q 16 [some (.ref 69), some (.int v1), none] (r.toList ++ []) A)) :
    aw_z X (d + 1) y_M_walkRow Q 0 [some (.ref 69), some (.int v1), none] [] (aw_s I L D) :=
  (s_M_walkRow_0.go [some (.ref 69), some (.int v1), none] [.int (-1 : Int32), .int (I 69 65), .int v1, .int (4 : Int32), .ref 69] (aw_s (aw_u I 69 48 (0 : Int32)) L D) rfl (z_callV (av := [.int (4 : Int32), .int v1, .int (I 69 65), .int (-1 : Int32)]) (st := []) ok_M_runs (Or.inl w_1923) w_1925 w_107 k_M d_M_walkRow_13 rfl (aw_lt (o := 69) rfl) rfl rfl (Nat.le_of_ble_eq_true rfl) (Nat.le_refl _) (Nat.le_refl _) (h1)))
theorem d_M_walkRow_16 : decode y_M_walkRow.2.1 16 = .ok (.pop, 1) := by decide +kernel
theorem d_M_walkRow_17 : decode y_M_walkRow.2.1 17 = .ok (.aload_n 0, 1) := by decide +kernel
theorem d_M_walkRow_18 : decode y_M_walkRow.2.1 18 = .ok (.getfield 82, 3) := by decide +kernel
theorem d_M_walkRow_21 : decode y_M_walkRow.2.1 21 = .ok (.iload_n 1, 1) := by decide +kernel
theorem d_M_walkRow_22 : decode y_M_walkRow.2.1 22 = .ok (.aload_n 0, 1) := by decide +kernel
theorem d_M_walkRow_23 : decode y_M_walkRow.2.1 23 = .ok (.getfield 387, 3) := by decide +kernel
theorem s_M_walkRow_16 : aw_VS y_M_walkRow 16 [o_pop, o_ald 0, o_getA 9 51, o_ild 1, o_ald 0, o_getJ 9 46] 26 := .cons (v_pop d_M_walkRow_16) (.cons (v_aload_n (i := 0) d_M_walkRow_17 rfl) (.cons (v_getA (k := 51) k_M (by decide) rfl (Or.inl w_1512) d_M_walkRow_18) (.cons (v_iload_n (i := 1) d_M_walkRow_21 rfl) (.cons (v_aload_n (i := 0) d_M_walkRow_22 rfl) (.cons (v_getJ (k := 46) k_M (by decide) rfl (Or.inl w_1507) d_M_walkRow_23) .nil)))))
theorem d_M_walkRow_26 : decode y_M_walkRow.2.1 26 = .ok (.lastore, 1) := by decide +kernel
theorem d_M_walkRow_27 : decode y_M_walkRow.2.1 27 = .ok (.aload_n 0, 1) := by decide +kernel
theorem d_M_walkRow_28 : decode y_M_walkRow.2.1 28 = .ok (.getfield 85, 3) := by decide +kernel
theorem d_M_walkRow_31 : decode y_M_walkRow.2.1 31 = .ok (.iload_n 1, 1) := by decide +kernel
theorem d_M_walkRow_32 : decode y_M_walkRow.2.1 32 = .ok (.aload_n 0, 1) := by decide +kernel
theorem d_M_walkRow_33 : decode y_M_walkRow.2.1 33 = .ok (.getfield 390, 3) := by decide +kernel
theorem s_M_walkRow_27 : aw_VS y_M_walkRow 27 [o_ald 0, o_getA 9 52, o_ild 1, o_ald 0, o_getJ 9 47] 36 := .cons (v_aload_n (i := 0) d_M_walkRow_27 rfl) (.cons (v_getA (k := 52) k_M (by decide) rfl (Or.inl w_1513) d_M_walkRow_28) (.cons (v_iload_n (i := 1) d_M_walkRow_31 rfl) (.cons (v_aload_n (i := 0) d_M_walkRow_32 rfl) (.cons (v_getJ (k := 47) k_M (by decide) rfl (Or.inl w_1508) d_M_walkRow_33) .nil))))
theorem d_M_walkRow_36 : decode y_M_walkRow.2.1 36 = .ok (.lastore, 1) := by decide +kernel
theorem d_M_walkRow_37 : decode y_M_walkRow.2.1 37 = .ok (.aload_n 0, 1) := by decide +kernel
theorem d_M_walkRow_38 : decode y_M_walkRow.2.1 38 = .ok (.getfield 88, 3) := by decide +kernel
theorem d_M_walkRow_41 : decode y_M_walkRow.2.1 41 = .ok (.iload_n 1, 1) := by decide +kernel
theorem d_M_walkRow_42 : decode y_M_walkRow.2.1 42 = .ok (.aload_n 0, 1) := by decide +kernel
theorem d_M_walkRow_43 : decode y_M_walkRow.2.1 43 = .ok (.getfield 384, 3) := by decide +kernel
theorem s_M_walkRow_37 : aw_VS y_M_walkRow 37 [o_ald 0, o_getA 9 53, o_ild 1, o_ald 0, o_getI 9 45] 46 := .cons (v_aload_n (i := 0) d_M_walkRow_37 rfl) (.cons (v_getA (k := 53) k_M (by decide) rfl (Or.inl w_1514) d_M_walkRow_38) (.cons (v_iload_n (i := 1) d_M_walkRow_41 rfl) (.cons (v_aload_n (i := 0) d_M_walkRow_42 rfl) (.cons (v_getI (k := 45) k_M (by decide) (Or.inl rfl) (Or.inl w_1506) d_M_walkRow_43) .nil))))
theorem d_M_walkRow_46 : decode y_M_walkRow.2.1 46 = .ok (.iastore, 1) := by decide +kernel
theorem d_M_walkRow_47 : decode y_M_walkRow.2.1 47 = .ok (.aload_n 0, 1) := by decide +kernel
theorem d_M_walkRow_48 : decode y_M_walkRow.2.1 48 = .ok (.getfield 91, 3) := by decide +kernel
theorem d_M_walkRow_51 : decode y_M_walkRow.2.1 51 = .ok (.iload_n 1, 1) := by decide +kernel
theorem d_M_walkRow_52 : decode y_M_walkRow.2.1 52 = .ok (.aload_n 0, 1) := by decide +kernel
theorem d_M_walkRow_53 : decode y_M_walkRow.2.1 53 = .ok (.getfield 381, 3) := by decide +kernel
theorem s_M_walkRow_47 : aw_VS y_M_walkRow 47 [o_ald 0, o_getA 9 54, o_ild 1, o_ald 0, o_getI 9 44] 56 := .cons (v_aload_n (i := 0) d_M_walkRow_47 rfl) (.cons (v_getA (k := 54) k_M (by decide) rfl (Or.inl w_1515) d_M_walkRow_48) (.cons (v_iload_n (i := 1) d_M_walkRow_51 rfl) (.cons (v_aload_n (i := 0) d_M_walkRow_52 rfl) (.cons (v_getI (k := 44) k_M (by decide) (Or.inl rfl) (Or.inl w_1505) d_M_walkRow_53) .nil))))
theorem d_M_walkRow_56 : decode y_M_walkRow.2.1 56 = .ok (.iastore, 1) := by decide +kernel
theorem d_M_walkRow_57 : decode y_M_walkRow.2.1 57 = .ok (.aload_n 0, 1) := by decide +kernel
theorem d_M_walkRow_58 : decode y_M_walkRow.2.1 58 = .ok (.getfield 94, 3) := by decide +kernel
theorem d_M_walkRow_61 : decode y_M_walkRow.2.1 61 = .ok (.iload_n 1, 1) := by decide +kernel
theorem d_M_walkRow_62 : decode y_M_walkRow.2.1 62 = .ok (.aload_n 0, 1) := by decide +kernel
theorem d_M_walkRow_63 : decode y_M_walkRow.2.1 63 = .ok (.getfield 393, 3) := by decide +kernel
theorem s_M_walkRow_57 : aw_VS y_M_walkRow 57 [o_ald 0, o_getA 9 55, o_ild 1, o_ald 0, o_getI 9 42] 66 := .cons (v_aload_n (i := 0) d_M_walkRow_57 rfl) (.cons (v_getA (k := 55) k_M (by decide) rfl (Or.inl w_1516) d_M_walkRow_58) (.cons (v_iload_n (i := 1) d_M_walkRow_61 rfl) (.cons (v_aload_n (i := 0) d_M_walkRow_62 rfl) (.cons (v_getI (k := 42) k_M (by decide) (Or.inl rfl) (Or.inl w_1503) d_M_walkRow_63) .nil))))
theorem d_M_walkRow_66 : decode y_M_walkRow.2.1 66 = .ok (.iastore, 1) := by decide +kernel
theorem d_M_walkRow_67 : decode y_M_walkRow.2.1 67 = .ok (.aload_n 0, 1) := by decide +kernel
theorem d_M_walkRow_68 : decode y_M_walkRow.2.1 68 = .ok (.getfield 97, 3) := by decide +kernel
theorem d_M_walkRow_71 : decode y_M_walkRow.2.1 71 = .ok (.iload_n 1, 1) := by decide +kernel
theorem d_M_walkRow_72 : decode y_M_walkRow.2.1 72 = .ok (.aload_n 0, 1) := by decide +kernel
theorem d_M_walkRow_73 : decode y_M_walkRow.2.1 73 = .ok (.getfield 396, 3) := by decide +kernel
theorem s_M_walkRow_67 : aw_VS y_M_walkRow 67 [o_ald 0, o_getA 9 56, o_ild 1, o_ald 0, o_getI 9 43] 76 := .cons (v_aload_n (i := 0) d_M_walkRow_67 rfl) (.cons (v_getA (k := 56) k_M (by decide) rfl (Or.inl w_1517) d_M_walkRow_68) (.cons (v_iload_n (i := 1) d_M_walkRow_71 rfl) (.cons (v_aload_n (i := 0) d_M_walkRow_72 rfl) (.cons (v_getI (k := 43) k_M (by decide) (Or.inl rfl) (Or.inl w_1504) d_M_walkRow_73) .nil))))
theorem d_M_walkRow_76 : decode y_M_walkRow.2.1 76 = .ok (.iastore, 1) := by decide +kernel
theorem d_M_walkRow_77 : decode y_M_walkRow.2.1 77 = .ok (.aload_n 0, 1) := by decide +kernel
theorem d_M_walkRow_78 : decode y_M_walkRow.2.1 78 = .ok (.getfield 393, 3) := by decide +kernel
theorem d_M_walkRow_81 : decode y_M_walkRow.2.1 81 = .ok (.iconst 4, 1) := by decide +kernel
theorem s_M_walkRow_77 : aw_VS y_M_walkRow 77 [o_ald 0, o_getI 9 42, o_c (.int (4 : Int32))] 82 := .cons (v_aload_n (i := 0) d_M_walkRow_77 rfl) (.cons (v_getI (k := 42) k_M (by decide) (Or.inl rfl) (Or.inl w_1503) d_M_walkRow_78) (.cons (v_iconst (v := (4 : Int32)) d_M_walkRow_81 (by decide +kernel)) .nil))
theorem d_M_walkRow_82 : decode y_M_walkRow.2.1 82 = .ok (.if_icmp .ne (4), 3) := by decide +kernel
theorem d_M_walkRow_86 : decode y_M_walkRow.2.1 86 = .ok (.aload_n 0, 1) := by decide +kernel
theorem d_M_walkRow_87 : decode y_M_walkRow.2.1 87 = .ok (.iconst 1, 1) := by decide +kernel
theorem s_M_walkRow_86 : aw_VS y_M_walkRow 86 [o_ald 0, o_c (.int (1 : Int32))] 88 := .cons (v_aload_n (i := 0) d_M_walkRow_86 rfl) (.cons (v_iconst (v := (1 : Int32)) d_M_walkRow_87 (by decide +kernel)) .nil)
theorem d_M_walkRow_88 : decode y_M_walkRow.2.1 88 = .ok (.putfield 420, 3) := by decide +kernel
theorem d_M_walkRow_91 : decode y_M_walkRow.2.1 91 = .ok (.iconst 0, 1) := by decide +kernel
theorem d_M_walkRow_92 : decode y_M_walkRow.2.1 92 = .ok (.istore_n 2, 1) := by decide +kernel
theorem s_M_walkRow_91 : aw_VS y_M_walkRow 91 [o_c (.int (0 : Int32)), o_ist 2] 93 := .cons (v_iconst (v := (0 : Int32)) d_M_walkRow_91 (by decide +kernel)) (.cons (v_istore_n d_M_walkRow_92) .nil)
theorem d_M_walkRow_85 : decode y_M_walkRow.2.1 85 = .ok (.return_, 1) := by decide +kernel
theorem b_M_walkRow_16 {X : aw_X} {d : Nat} {Q : Option Value → aw_H → Prop} {I : Nat → Nat → Int32} {L : Nat → Nat → Int64} {D : Nat → Nat} {v1 : Int32} {s0 : Int32}
    (h1 : vp_in v1 4096)
    (h2 : vp_in v1 4096)
    (h3 : vp_in v1 4096)
    (h4 : vp_in v1 4096)
    (h5 : vp_in v1 4096)
    (h6 : vp_in v1 4096)
    (h7 : ¬ (I 69 42) = (4 : Int32) → aw_z X (d + 1) y_M_walkRow Q 93 [some (.ref 69), some (.int v1), some (.int (0 : Int32))] [] (aw_s (aw_u (aw_u (aw_u (aw_u (aw_u I 93 v1.toNatClampNeg (I 69 45)) 94 v1.toNatClampNeg (I 69 44)) 95 v1.toNatClampNeg (I 69 42)) 96 v1.toNatClampNeg (I 69 43)) 69 67 (1 : Int32)) (aw_u (aw_u L 91 v1.toNatClampNeg (L 69 46)) 92 v1.toNatClampNeg (L 69 47)) D))
    (h8 : (I 69 42) = (4 : Int32) → Q none (aw_s (aw_u (aw_u (aw_u (aw_u I 93 v1.toNatClampNeg (I 69 45)) 94 v1.toNatClampNeg (I 69 44)) 95 v1.toNatClampNeg (I 69 42)) 96 v1.toNatClampNeg (I 69 43)) (aw_u (aw_u L 91 v1.toNatClampNeg (L 69 46)) 92 v1.toNatClampNeg (L 69 47)) D)) :
    aw_z X (d + 1) y_M_walkRow Q 16 [some (.ref 69), some (.int v1), none] [.int s0] (aw_s I L D) :=
  (s_M_walkRow_16.go [some (.ref 69), some (.int v1), none] [.long (L 69 46), .int v1, .ref 91] (aw_s I L D) rfl (z_last (n := 4096) rfl rfl (aw_lt (o := 91) rfl) (h1) d_M_walkRow_26 (s_M_walkRow_27.go [some (.ref 69), some (.int v1), none] [.long (L 69 47), .int v1, .ref 92] (aw_s I (aw_u L 91 v1.toNatClampNeg (L 69 46)) D) rfl (z_last (n := 4096) rfl rfl (aw_lt (o := 92) rfl) (h2) d_M_walkRow_36 (s_M_walkRow_37.go [some (.ref 69), some (.int v1), none] [.int (I 69 45), .int v1, .ref 93] (aw_s I (aw_u (aw_u L 91 v1.toNatClampNeg (L 69 46)) 92 v1.toNatClampNeg (L 69 47)) D) rfl (z_iast (n := 4096) rfl (aw_lt (o := 93) rfl) (h3) d_M_walkRow_46 (s_M_walkRow_47.go [some (.ref 69), some (.int v1), none] [.int (I 69 44), .int v1, .ref 94] (aw_s (aw_u I 93 v1.toNatClampNeg (I 69 45)) (aw_u (aw_u L 91 v1.toNatClampNeg (L 69 46)) 92 v1.toNatClampNeg (L 69 47)) D) rfl (z_iast (n := 4096) rfl (aw_lt (o := 94) rfl) (h4) d_M_walkRow_56 (s_M_walkRow_57.go [some (.ref 69), some (.int v1), none] [.int (I 69 42), .int v1, .ref 95] (aw_s (aw_u (aw_u I 93 v1.toNatClampNeg (I 69 45)) 94 v1.toNatClampNeg (I 69 44)) (aw_u (aw_u L 91 v1.toNatClampNeg (L 69 46)) 92 v1.toNatClampNeg (L 69 47)) D) rfl (z_iast (n := 4096) rfl (aw_lt (o := 95) rfl) (h5) d_M_walkRow_66 (s_M_walkRow_67.go [some (.ref 69), some (.int v1), none] [.int (I 69 43), .int v1, .ref 96] (aw_s (aw_u (aw_u (aw_u I 93 v1.toNatClampNeg (I 69 45)) 94 v1.toNatClampNeg (I 69 44)) 95 v1.toNatClampNeg (I 69 42)) (aw_u (aw_u L 91 v1.toNatClampNeg (L 69 46)) 92 v1.toNatClampNeg (L 69 47)) D) rfl (z_iast (n := 4096) rfl (aw_lt (o := 96) rfl) (h6) d_M_walkRow_76 (s_M_walkRow_77.go [some (.ref 69), some (.int v1), none] [.int (4 : Int32), .int (I 69 42)] (aw_s (aw_u (aw_u (aw_u (aw_u I 93 v1.toNatClampNeg (I 69 45)) 94 v1.toNatClampNeg (I 69 44)) 95 v1.toNatClampNeg (I 69 42)) 96 v1.toNatClampNeg (I 69 43)) (aw_u (aw_u L 91 v1.toNatClampNeg (L 69 46)) 92 v1.toNatClampNeg (L 69 47)) D) rfl (z_icmp_ne (tgt := 86) d_M_walkRow_82 rfl (fun q1 => (s_M_walkRow_86.go [some (.ref 69), some (.int v1), none] [.int (1 : Int32), .ref 69] (aw_s (aw_u (aw_u (aw_u (aw_u I 93 v1.toNatClampNeg (I 69 45)) 94 v1.toNatClampNeg (I 69 44)) 95 v1.toNatClampNeg (I 69 42)) 96 v1.toNatClampNeg (I 69 43)) (aw_u (aw_u L 91 v1.toNatClampNeg (L 69 46)) 92 v1.toNatClampNeg (L 69 47)) D) rfl (z_putZ (k := 67) k_M (by decide) rfl (Or.inl ⟨rfl, Or.inl w_1528⟩) d_M_walkRow_88 rfl (aw_lt (o := 69) rfl) (by decide +kernel) (s_M_walkRow_91.go [some (.ref 69), some (.int v1), some (.int (0 : Int32))] [] (aw_s (aw_u (aw_u (aw_u (aw_u (aw_u I 93 v1.toNatClampNeg (I 69 45)) 94 v1.toNatClampNeg (I 69 44)) 95 v1.toNatClampNeg (I 69 42)) 96 v1.toNatClampNeg (I 69 43)) 69 67 (1 : Int32)) (aw_u (aw_u L 91 v1.toNatClampNeg (L 69 46)) 92 v1.toNatClampNeg (L 69 47)) D) rfl (h7 q1))))) (fun q2 => (z_vret d_M_walkRow_85 rfl (h8 q2)))))))))))))))))
theorem d_M_walkRow_93 : decode y_M_walkRow.2.1 93 = .ok (.iload_n 2, 1) := by decide +kernel
theorem d_M_walkRow_94 : decode y_M_walkRow.2.1 94 = .ok (.bipush 60, 2) := by decide +kernel
theorem s_M_walkRow_93 : aw_VS y_M_walkRow 93 [o_ild 2, o_c (.int (60 : Int32))] 96 := .cons (v_iload_n (i := 2) d_M_walkRow_93 rfl) (.cons (v_bipush (v := (60 : Int32)) d_M_walkRow_94 (by decide +kernel)) .nil)
theorem d_M_walkRow_96 : decode y_M_walkRow.2.1 96 = .ok (.if_icmp .ge (63), 3) := by decide +kernel
theorem d_M_walkRow_159 : decode y_M_walkRow.2.1 159 = .ok (.aload_n 0, 1) := by decide +kernel
theorem d_M_walkRow_160 : decode y_M_walkRow.2.1 160 = .ok (.iconst 1, 1) := by decide +kernel
theorem d_M_walkRow_161 : decode y_M_walkRow.2.1 161 = .ok (.putfield 369, 3) := by decide +kernel
theorem d_M_walkRow_164 : decode y_M_walkRow.2.1 164 = .ok (.aload_n 0, 1) := by decide +kernel
theorem d_M_walkRow_165 : decode y_M_walkRow.2.1 165 = .ok (.iconst 4, 1) := by decide +kernel
theorem d_M_walkRow_166 : decode y_M_walkRow.2.1 166 = .ok (.iload_n 1, 1) := by decide +kernel
theorem d_M_walkRow_167 : decode y_M_walkRow.2.1 167 = .ok (.aload_n 0, 1) := by decide +kernel
theorem d_M_walkRow_168 : decode y_M_walkRow.2.1 168 = .ok (.getfield 414, 3) := by decide +kernel
theorem d_M_walkRow_171 : decode y_M_walkRow.2.1 171 = .ok (.iconst (-1), 1) := by decide +kernel
theorem s_M_walkRow_159 : aw_VS y_M_walkRow 159 [o_ald 0, o_c (.int (1 : Int32)), o_putI 9 48, o_ald 0, o_c (.int (4 : Int32)), o_ild 1, o_ald 0, o_getI 9 65, o_c (.int (-1 : Int32))] 172 := .cons (v_aload_n (i := 0) d_M_walkRow_159 rfl) (.cons (v_iconst (v := (1 : Int32)) d_M_walkRow_160 (by decide +kernel)) (.cons (v_putI (k := 48) k_M (by decide) rfl (Or.inl ⟨rfl, Or.inl w_1509⟩) d_M_walkRow_161) (.cons (v_aload_n (i := 0) d_M_walkRow_164 rfl) (.cons (v_iconst (v := (4 : Int32)) d_M_walkRow_165 (by decide +kernel)) (.cons (v_iload_n (i := 1) d_M_walkRow_166 rfl) (.cons (v_aload_n (i := 0) d_M_walkRow_167 rfl) (.cons (v_getI (k := 65) k_M (by decide) (Or.inl rfl) (Or.inl w_1526) d_M_walkRow_168) (.cons (v_iconst (v := (-1 : Int32)) d_M_walkRow_171 (by decide +kernel)) .nil))))))))
theorem d_M_walkRow_172 : decode y_M_walkRow.2.1 172 = .ok (.invokevirtual 434, 3) := by decide +kernel
theorem d_M_walkRow_99 : decode y_M_walkRow.2.1 99 = .ok (.aload_n 0, 1) := by decide +kernel
theorem d_M_walkRow_100 : decode y_M_walkRow.2.1 100 = .ok (.getfield 72, 3) := by decide +kernel
theorem d_M_walkRow_103 : decode y_M_walkRow.2.1 103 = .ok (.iload_n 2, 1) := by decide +kernel
theorem s_M_walkRow_99 : aw_VS y_M_walkRow 99 [o_ald 0, o_getA 9 41, o_ild 2] 104 := .cons (v_aload_n (i := 0) d_M_walkRow_99 rfl) (.cons (v_getA (k := 41) k_M (by decide) rfl (Or.inl w_1502) d_M_walkRow_100) (.cons (v_iload_n (i := 2) d_M_walkRow_103 rfl) .nil))
theorem d_M_walkRow_104 : decode y_M_walkRow.2.1 104 = .ok (.iaload, 1) := by decide +kernel
theorem d_M_walkRow_105 : decode y_M_walkRow.2.1 105 = .ok (.aload_n 0, 1) := by decide +kernel
theorem d_M_walkRow_106 : decode y_M_walkRow.2.1 106 = .ok (.getfield 109, 3) := by decide +kernel
theorem d_M_walkRow_109 : decode y_M_walkRow.2.1 109 = .ok (.iload_n 2, 1) := by decide +kernel
theorem s_M_walkRow_105 : aw_VS y_M_walkRow 105 [o_ald 0, o_getA 9 60, o_ild 2] 110 := .cons (v_aload_n (i := 0) d_M_walkRow_105 rfl) (.cons (v_getA (k := 60) k_M (by decide) rfl (Or.inl w_1521) d_M_walkRow_106) (.cons (v_iload_n (i := 2) d_M_walkRow_109 rfl) .nil))
theorem d_M_walkRow_110 : decode y_M_walkRow.2.1 110 = .ok (.iaload, 1) := by decide +kernel
theorem d_M_walkRow_111 : decode y_M_walkRow.2.1 111 = .ok (.if_icmp .ge (15), 3) := by decide +kernel
theorem d_M_walkRow_114 : decode y_M_walkRow.2.1 114 = .ok (.aload_n 0, 1) := by decide +kernel
theorem d_M_walkRow_115 : decode y_M_walkRow.2.1 115 = .ok (.getfield 109, 3) := by decide +kernel
theorem d_M_walkRow_118 : decode y_M_walkRow.2.1 118 = .ok (.iload_n 2, 1) := by decide +kernel
theorem d_M_walkRow_119 : decode y_M_walkRow.2.1 119 = .ok (.aload_n 0, 1) := by decide +kernel
theorem d_M_walkRow_120 : decode y_M_walkRow.2.1 120 = .ok (.getfield 72, 3) := by decide +kernel
theorem d_M_walkRow_123 : decode y_M_walkRow.2.1 123 = .ok (.iload_n 2, 1) := by decide +kernel
theorem s_M_walkRow_114 : aw_VS y_M_walkRow 114 [o_ald 0, o_getA 9 60, o_ild 2, o_ald 0, o_getA 9 41, o_ild 2] 124 := .cons (v_aload_n (i := 0) d_M_walkRow_114 rfl) (.cons (v_getA (k := 60) k_M (by decide) rfl (Or.inl w_1521) d_M_walkRow_115) (.cons (v_iload_n (i := 2) d_M_walkRow_118 rfl) (.cons (v_aload_n (i := 0) d_M_walkRow_119 rfl) (.cons (v_getA (k := 41) k_M (by decide) rfl (Or.inl w_1502) d_M_walkRow_120) (.cons (v_iload_n (i := 2) d_M_walkRow_123 rfl) .nil)))))
theorem d_M_walkRow_124 : decode y_M_walkRow.2.1 124 = .ok (.iaload, 1) := by decide +kernel
theorem d_M_walkRow_125 : decode y_M_walkRow.2.1 125 = .ok (.iastore, 1) := by decide +kernel
theorem b_M_walkRow_93 {X : aw_X} {d : Nat} {Q : Option Value → aw_H → Prop} {I : Nat → Nat → Int32} {L : Nat → Nat → Int64} {D : Nat → Nat} {v1 : Int32} {v2 : Int32}
    (h1 : (60 : Int32) ≤ v2 → aw_m X d y_M_runs [.ref 69, .int (4 : Int32), .int v1, .int (I 69 65), .int (-1 : Int32)] (aw_s (aw_u I 69 48 (1 : Int32)) L D) (fun r A => aw_z X (d + 1) y_M_walkRow Q 175 [some (.ref 69), none, none] (r.toList ++ []) A))
    (h2 : ¬ (60 : Int32) ≤ v2 → vp_in v2 60)
    (h3 : ¬ (60 : Int32) ≤ v2 → vp_in v2 60)
    (h4 : ¬ (60 : Int32) ≤ v2 → (I 100 v2.toNatClampNeg) ≤ (I 88 v2.toNatClampNeg) → aw_z X (d + 1) y_M_walkRow Q 126 [some (.ref 69), some (.int v1), some (.int v2)] [] (aw_s I L D))
    (h5 : ¬ (60 : Int32) ≤ v2 → ¬ (I 100 v2.toNatClampNeg) ≤ (I 88 v2.toNatClampNeg) → vp_in v2 60)
    (h6 : ¬ (60 : Int32) ≤ v2 → ¬ (I 100 v2.toNatClampNeg) ≤ (I 88 v2.toNatClampNeg) → vp_in v2 60)
    (h7 : ¬ (60 : Int32) ≤ v2 → ¬ (I 100 v2.toNatClampNeg) ≤ (I 88 v2.toNatClampNeg) → aw_z X (d + 1) y_M_walkRow Q 126 [some (.ref 69), some (.int v1), some (.int v2)] [] (aw_s (aw_u I 100 v2.toNatClampNeg (I 88 v2.toNatClampNeg)) L D)) :
    aw_z X (d + 1) y_M_walkRow Q 93 [some (.ref 69), some (.int v1), some (.int v2)] [] (aw_s I L D) :=
  (s_M_walkRow_93.go [some (.ref 69), some (.int v1), some (.int v2)] [.int (60 : Int32), .int v2] (aw_s I L D) rfl (z_icmp_ge (tgt := 159) d_M_walkRow_96 rfl (fun q1 => (s_M_walkRow_159.go [some (.ref 69), some (.int v1), some (.int v2)] [.int (-1 : Int32), .int (I 69 65), .int v1, .int (4 : Int32), .ref 69] (aw_s (aw_u I 69 48 (1 : Int32)) L D) rfl (z_callV (av := [.int (4 : Int32), .int v1, .int (I 69 65), .int (-1 : Int32)]) (st := []) ok_M_runs (Or.inl w_1923) w_1925 w_107 k_M d_M_walkRow_172 rfl (aw_lt (o := 69) rfl) rfl rfl (Nat.le_of_ble_eq_true rfl) (Nat.le_refl _) (Nat.le_refl _) (aw_C.mono (h1 q1) (fun _ _ zz => aw_Z.weak (ls' := [some (.ref 69), none, none]) zz (Nat.le_of_ble_eq_true rfl) ⟨Or.inr rfl, ⟨Or.inl rfl, ⟨Or.inl rfl, trivial⟩⟩⟩))))) (fun q2 => (s_M_walkRow_99.go [some (.ref 69), some (.int v1), some (.int v2)] [.int v2, .ref 88] (aw_s I L D) rfl (z_iald (n := 60) rfl (aw_lt (o := 88) rfl) (h2 q2) d_M_walkRow_104 (s_M_walkRow_105.go [some (.ref 69), some (.int v1), some (.int v2)] [.int v2, .ref 100, .int (I 88 v2.toNatClampNeg)] (aw_s I L D) rfl (z_iald (n := 60) rfl (aw_lt (o := 100) rfl) (h3 q2) d_M_walkRow_110 (z_icmp_ge (tgt := 126) d_M_walkRow_111 rfl (fun q3 => (h4 q2 q3)) (fun q4 => (s_M_walkRow_114.go [some (.ref 69), some (.int v1), some (.int v2)] [.int v2, .ref 88, .int v2, .ref 100] (aw_s I L D) rfl (z_iald (n := 60) rfl (aw_lt (o := 88) rfl) (h5 q2 q4) d_M_walkRow_124 (z_iast (n := 60) rfl (aw_lt (o := 100) rfl) (h6 q2 q4) d_M_walkRow_125 (h7 q2 q4)))))))))))))
theorem d_M_walkRow_175 : decode y_M_walkRow.2.1 175 = .ok (.pop, 1) := by decide +kernel
theorem d_M_walkRow_176 : decode y_M_walkRow.2.1 176 = .ok (.aload_n 0, 1) := by decide +kernel
theorem d_M_walkRow_177 : decode y_M_walkRow.2.1 177 = .ok (.iconst 0, 1) := by decide +kernel
theorem d_M_walkRow_178 : decode y_M_walkRow.2.1 178 = .ok (.putfield 369, 3) := by decide +kernel
theorem s_M_walkRow_175 : aw_VS y_M_walkRow 175 [o_pop, o_ald 0, o_c (.int (0 : Int32)), o_putI 9 48] 181 := .cons (v_pop d_M_walkRow_175) (.cons (v_aload_n (i := 0) d_M_walkRow_176 rfl) (.cons (v_iconst (v := (0 : Int32)) d_M_walkRow_177 (by decide +kernel)) (.cons (v_putI (k := 48) k_M (by decide) rfl (Or.inl ⟨rfl, Or.inl w_1509⟩) d_M_walkRow_178) .nil)))
theorem d_M_walkRow_181 : decode y_M_walkRow.2.1 181 = .ok (.return_, 1) := by decide +kernel
theorem b_M_walkRow_175 {X : aw_X} {d : Nat} {Q : Option Value → aw_H → Prop} {I : Nat → Nat → Int32} {L : Nat → Nat → Int64} {D : Nat → Nat} {s0 : Int32}
    (h1 : Q none (aw_s (aw_u I 69 48 (0 : Int32)) L D)) :
    aw_z X (d + 1) y_M_walkRow Q 175 [some (.ref 69), none, none] [.int s0] (aw_s I L D) :=
  (s_M_walkRow_175.go [some (.ref 69), none, none] [] (aw_s (aw_u I 69 48 (0 : Int32)) L D) rfl (z_vret d_M_walkRow_181 rfl (h1)))
theorem d_M_walkRow_126 : decode y_M_walkRow.2.1 126 = .ok (.aload_n 0, 1) := by decide +kernel
theorem d_M_walkRow_127 : decode y_M_walkRow.2.1 127 = .ok (.getfield 72, 3) := by decide +kernel
theorem d_M_walkRow_130 : decode y_M_walkRow.2.1 130 = .ok (.iload_n 2, 1) := by decide +kernel
theorem s_M_walkRow_126 : aw_VS y_M_walkRow 126 [o_ald 0, o_getA 9 41, o_ild 2] 131 := .cons (v_aload_n (i := 0) d_M_walkRow_126 rfl) (.cons (v_getA (k := 41) k_M (by decide) rfl (Or.inl w_1502) d_M_walkRow_127) (.cons (v_iload_n (i := 2) d_M_walkRow_130 rfl) .nil))
theorem d_M_walkRow_131 : decode y_M_walkRow.2.1 131 = .ok (.iaload, 1) := by decide +kernel
theorem d_M_walkRow_132 : decode y_M_walkRow.2.1 132 = .ok (.aload_n 0, 1) := by decide +kernel
theorem d_M_walkRow_133 : decode y_M_walkRow.2.1 133 = .ok (.getfield 112, 3) := by decide +kernel
theorem d_M_walkRow_136 : decode y_M_walkRow.2.1 136 = .ok (.iload_n 2, 1) := by decide +kernel
theorem s_M_walkRow_132 : aw_VS y_M_walkRow 132 [o_ald 0, o_getA 9 61, o_ild 2] 137 := .cons (v_aload_n (i := 0) d_M_walkRow_132 rfl) (.cons (v_getA (k := 61) k_M (by decide) rfl (Or.inl w_1522) d_M_walkRow_133) (.cons (v_iload_n (i := 2) d_M_walkRow_136 rfl) .nil))
theorem d_M_walkRow_137 : decode y_M_walkRow.2.1 137 = .ok (.iaload, 1) := by decide +kernel
theorem d_M_walkRow_138 : decode y_M_walkRow.2.1 138 = .ok (.if_icmp .le (15), 3) := by decide +kernel
theorem d_M_walkRow_153 : decode y_M_walkRow.2.1 153 = .ok (.iinc 2 (1), 3) := by decide +kernel
theorem s_M_walkRow_153 : aw_VS y_M_walkRow 153 [o_inc 2 (1 : Int32)] 156 := .cons (v_iinc (k0 := (1 : Int32)) d_M_walkRow_153 (by decide +kernel)) .nil
theorem d_M_walkRow_156 : decode y_M_walkRow.2.1 156 = .ok (.goto (-63), 3) := by decide +kernel
theorem d_M_walkRow_141 : decode y_M_walkRow.2.1 141 = .ok (.aload_n 0, 1) := by decide +kernel
theorem d_M_walkRow_142 : decode y_M_walkRow.2.1 142 = .ok (.getfield 112, 3) := by decide +kernel
theorem d_M_walkRow_145 : decode y_M_walkRow.2.1 145 = .ok (.iload_n 2, 1) := by decide +kernel
theorem d_M_walkRow_146 : decode y_M_walkRow.2.1 146 = .ok (.aload_n 0, 1) := by decide +kernel
theorem d_M_walkRow_147 : decode y_M_walkRow.2.1 147 = .ok (.getfield 72, 3) := by decide +kernel
theorem d_M_walkRow_150 : decode y_M_walkRow.2.1 150 = .ok (.iload_n 2, 1) := by decide +kernel
theorem s_M_walkRow_141 : aw_VS y_M_walkRow 141 [o_ald 0, o_getA 9 61, o_ild 2, o_ald 0, o_getA 9 41, o_ild 2] 151 := .cons (v_aload_n (i := 0) d_M_walkRow_141 rfl) (.cons (v_getA (k := 61) k_M (by decide) rfl (Or.inl w_1522) d_M_walkRow_142) (.cons (v_iload_n (i := 2) d_M_walkRow_145 rfl) (.cons (v_aload_n (i := 0) d_M_walkRow_146 rfl) (.cons (v_getA (k := 41) k_M (by decide) rfl (Or.inl w_1502) d_M_walkRow_147) (.cons (v_iload_n (i := 2) d_M_walkRow_150 rfl) .nil)))))
theorem d_M_walkRow_151 : decode y_M_walkRow.2.1 151 = .ok (.iaload, 1) := by decide +kernel
theorem d_M_walkRow_152 : decode y_M_walkRow.2.1 152 = .ok (.iastore, 1) := by decide +kernel
theorem b_M_walkRow_126 {X : aw_X} {d : Nat} {Q : Option Value → aw_H → Prop} {I : Nat → Nat → Int32} {L : Nat → Nat → Int64} {D : Nat → Nat} {v1 : Int32} {v2 : Int32}
    (h1 : vp_in v2 60)
    (h2 : vp_in v2 60)
    (h3 : (I 88 v2.toNatClampNeg) ≤ (I 101 v2.toNatClampNeg) → aw_z X (d + 1) y_M_walkRow Q 93 [some (.ref 69), some (.int v1), some (.int (v2 + (1 : Int32)))] [] (aw_s I L D))
    (h4 : ¬ (I 88 v2.toNatClampNeg) ≤ (I 101 v2.toNatClampNeg) → vp_in v2 60)
    (h5 : ¬ (I 88 v2.toNatClampNeg) ≤ (I 101 v2.toNatClampNeg) → vp_in v2 60)
    (h6 : ¬ (I 88 v2.toNatClampNeg) ≤ (I 101 v2.toNatClampNeg) → aw_z X (d + 1) y_M_walkRow Q 93 [some (.ref 69), some (.int v1), some (.int (v2 + (1 : Int32)))] [] (aw_s (aw_u I 101 v2.toNatClampNeg (I 88 v2.toNatClampNeg)) L D)) :
    aw_z X (d + 1) y_M_walkRow Q 126 [some (.ref 69), some (.int v1), some (.int v2)] [] (aw_s I L D) :=
  (s_M_walkRow_126.go [some (.ref 69), some (.int v1), some (.int v2)] [.int v2, .ref 88] (aw_s I L D) rfl (z_iald (n := 60) rfl (aw_lt (o := 88) rfl) (h1) d_M_walkRow_131 (s_M_walkRow_132.go [some (.ref 69), some (.int v1), some (.int v2)] [.int v2, .ref 101, .int (I 88 v2.toNatClampNeg)] (aw_s I L D) rfl (z_iald (n := 60) rfl (aw_lt (o := 101) rfl) (h2) d_M_walkRow_137 (z_icmp_le (tgt := 153) d_M_walkRow_138 rfl (fun q1 => (s_M_walkRow_153.go [some (.ref 69), some (.int v1), some (.int (v2 + (1 : Int32)))] [] (aw_s I L D) rfl (z_goto (tgt := 93) d_M_walkRow_156 rfl (h3 q1)))) (fun q2 => (s_M_walkRow_141.go [some (.ref 69), some (.int v1), some (.int v2)] [.int v2, .ref 88, .int v2, .ref 101] (aw_s I L D) rfl (z_iald (n := 60) rfl (aw_lt (o := 88) rfl) (h4 q2) d_M_walkRow_151 (z_iast (n := 60) rfl (aw_lt (o := 101) rfl) (h5 q2) d_M_walkRow_152 (s_M_walkRow_153.go [some (.ref 69), some (.int v1), some (.int (v2 + (1 : Int32)))] [] (aw_s (aw_u I 101 v2.toNatClampNeg (I 88 v2.toNatClampNeg)) L D) rfl (z_goto (tgt := 93) d_M_walkRow_156 rfl (h6 q2))))))))))))
/-! M_runs -/
theorem d_M_runs_0 : decode y_M_runs.2.1 0 = .ok (.aload_n 0, 1) := by decide +kernel
theorem d_M_runs_1 : decode y_M_runs.2.1 1 = .ok (.iload_n 2, 1) := by decide +kernel
theorem s_M_runs_0 : aw_VS y_M_runs 0 [o_ald 0, o_ild 2] 2 := .cons (v_aload_n (i := 0) d_M_runs_0 rfl) (.cons (v_iload_n (i := 2) d_M_runs_1 rfl) .nil)
theorem d_M_runs_2 : decode y_M_runs.2.1 2 = .ok (.invokevirtual 378, 3) := by decide +kernel
theorem b_M_runs_0 {X : aw_X} {d : Nat} {Q : Option Value → aw_H → Prop} {I : Nat → Nat → Int32} {L : Nat → Nat → Int64} {D : Nat → Nat} {v1 : Int32} {v2 : Int32} {v3 : Int32} {v4 : Int32}
    (h1 : aw_m X d y_M_layRow [.ref 69, .int v2] (aw_s I L D) (fun r A => aw_z X (d + 1) y_M_runs Q 5 [some (.ref 69), some (.int v1), some (.int v2), some (.int v3), some (.int v4), none, none, none, none, none, none, none, none] (r.toList ++ []) A)) :
    aw_z X (d + 1) y_M_runs Q 0 [some (.ref 69), some (.int v1), some (.int v2), some (.int v3), some (.int v4), none, none, none, none, none, none, none, none] [] (aw_s I L D) :=
  (s_M_runs_0.go [some (.ref 69), some (.int v1), some (.int v2), some (.int v3), some (.int v4), none, none, none, none, none, none, none, none] [.int v2, .ref 69] (aw_s I L D) rfl (z_callV (av := [.int v2]) (st := []) ok_M_layRow (Or.inl w_1927) w_1929 w_108 k_M d_M_runs_2 rfl (aw_lt (o := 69) rfl) rfl rfl (Nat.le_of_ble_eq_true rfl) (Nat.le_refl _) (Nat.le_refl _) (h1)))
theorem d_M_runs_5 : decode y_M_runs.2.1 5 = .ok (.aload_n 0, 1) := by decide +kernel
theorem d_M_runs_6 : decode y_M_runs.2.1 6 = .ok (.iconst 0, 1) := by decide +kernel
theorem d_M_runs_7 : decode y_M_runs.2.1 7 = .ok (.putfield 231, 3) := by decide +kernel
theorem d_M_runs_10 : decode y_M_runs.2.1 10 = .ok (.aload_n 0, 1) := by decide +kernel
theorem d_M_runs_11 : decode y_M_runs.2.1 11 = .ok (.iconst 0, 1) := by decide +kernel
theorem d_M_runs_12 : decode y_M_runs.2.1 12 = .ok (.putfield 381, 3) := by decide +kernel
theorem d_M_runs_15 : decode y_M_runs.2.1 15 = .ok (.aload_n 0, 1) := by decide +kernel
theorem d_M_runs_16 : decode y_M_runs.2.1 16 = .ok (.iconst 0, 1) := by decide +kernel
theorem d_M_runs_17 : decode y_M_runs.2.1 17 = .ok (.putfield 384, 3) := by decide +kernel
theorem d_M_runs_20 : decode y_M_runs.2.1 20 = .ok (.aload_n 0, 1) := by decide +kernel
theorem d_M_runs_21 : decode y_M_runs.2.1 21 = .ok (.lconst 0, 1) := by decide +kernel
theorem d_M_runs_22 : decode y_M_runs.2.1 22 = .ok (.putfield 387, 3) := by decide +kernel
theorem d_M_runs_25 : decode y_M_runs.2.1 25 = .ok (.aload_n 0, 1) := by decide +kernel
theorem d_M_runs_26 : decode y_M_runs.2.1 26 = .ok (.lconst 0, 1) := by decide +kernel
theorem d_M_runs_27 : decode y_M_runs.2.1 27 = .ok (.putfield 390, 3) := by decide +kernel
theorem d_M_runs_30 : decode y_M_runs.2.1 30 = .ok (.aload_n 0, 1) := by decide +kernel
theorem d_M_runs_31 : decode y_M_runs.2.1 31 = .ok (.iconst (-1), 1) := by decide +kernel
theorem d_M_runs_32 : decode y_M_runs.2.1 32 = .ok (.putfield 393, 3) := by decide +kernel
theorem d_M_runs_35 : decode y_M_runs.2.1 35 = .ok (.aload_n 0, 1) := by decide +kernel
theorem d_M_runs_36 : decode y_M_runs.2.1 36 = .ok (.iconst (-1), 1) := by decide +kernel
theorem d_M_runs_37 : decode y_M_runs.2.1 37 = .ok (.putfield 396, 3) := by decide +kernel
theorem d_M_runs_40 : decode y_M_runs.2.1 40 = .ok (.iconst 0, 1) := by decide +kernel
theorem d_M_runs_41 : decode y_M_runs.2.1 41 = .ok (.istore 5, 2) := by decide +kernel
theorem s_M_runs_5 : aw_VS y_M_runs 5 [o_ald 0, o_c (.int (0 : Int32)), o_putI 9 25, o_ald 0, o_c (.int (0 : Int32)), o_putI 9 44, o_ald 0, o_c (.int (0 : Int32)), o_putI 9 45, o_ald 0, o_c (.long (0 : Int64)), o_putJ 9 46, o_ald 0, o_c (.long (0 : Int64)), o_putJ 9 47, o_ald 0, o_c (.int (-1 : Int32)), o_putI 9 42, o_ald 0, o_c (.int (-1 : Int32)), o_putI 9 43, o_c (.int (0 : Int32)), o_ist 5] 43 := .cons (v_aload_n (i := 0) d_M_runs_5 rfl) (.cons (v_iconst (v := (0 : Int32)) d_M_runs_6 (by decide +kernel)) (.cons (v_putI (k := 25) k_M (by decide) rfl (Or.inl ⟨rfl, Or.inl w_1486⟩) d_M_runs_7) (.cons (v_aload_n (i := 0) d_M_runs_10 rfl) (.cons (v_iconst (v := (0 : Int32)) d_M_runs_11 (by decide +kernel)) (.cons (v_putI (k := 44) k_M (by decide) rfl (Or.inl ⟨rfl, Or.inl w_1505⟩) d_M_runs_12) (.cons (v_aload_n (i := 0) d_M_runs_15 rfl) (.cons (v_iconst (v := (0 : Int32)) d_M_runs_16 (by decide +kernel)) (.cons (v_putI (k := 45) k_M (by decide) rfl (Or.inl ⟨rfl, Or.inl w_1506⟩) d_M_runs_17) (.cons (v_aload_n (i := 0) d_M_runs_20 rfl) (.cons (v_lconst (v := (0 : Int64)) d_M_runs_21 (by decide +kernel)) (.cons (v_putJ (k := 46) k_M (by decide) rfl (Or.inl ⟨rfl, Or.inl w_1507⟩) d_M_runs_22) (.cons (v_aload_n (i := 0) d_M_runs_25 rfl) (.cons (v_lconst (v := (0 : Int64)) d_M_runs_26 (by decide +kernel)) (.cons (v_putJ (k := 47) k_M (by decide) rfl (Or.inl ⟨rfl, Or.inl w_1508⟩) d_M_runs_27) (.cons (v_aload_n (i := 0) d_M_runs_30 rfl) (.cons (v_iconst (v := (-1 : Int32)) d_M_runs_31 (by decide +kernel)) (.cons (v_putI (k := 42) k_M (by decide) rfl (Or.inl ⟨rfl, Or.inl w_1503⟩) d_M_runs_32) (.cons (v_aload_n (i := 0) d_M_runs_35 rfl) (.cons (v_iconst (v := (-1 : Int32)) d_M_runs_36 (by decide +kernel)) (.cons (v_putI (k := 43) k_M (by decide) rfl (Or.inl ⟨rfl, Or.inl w_1504⟩) d_M_runs_37) (.cons (v_iconst (v := (0 : Int32)) d_M_runs_40 (by decide +kernel)) (.cons (v_istore d_M_runs_41) .nil))))))))))))))))))))))
theorem b_M_runs_5 {X : aw_X} {d : Nat} {Q : Option Value → aw_H → Prop} {I : Nat → Nat → Int32} {L : Nat → Nat → Int64} {D : Nat → Nat} {v1 : Int32} {v2 : Int32} {v3 : Int32} {v4 : Int32}
    (h1 : aw_z X (d + 1) y_M_runs Q 43 [some (.ref 69), some (.int v1), some (.int v2), some (.int v3), some (.int v4), some (.int (0 : Int32)), none, none, none, none, none, none, none] [] (aw_s (aw_u (aw_u (aw_u (aw_u (aw_u I 69 25 (0 : Int32)) 69 44 (0 : Int32)) 69 45 (0 : Int32)) 69 42 (-1 : Int32)) 69 43 (-1 : Int32)) (aw_u (aw_u L 69 46 (0 : Int64)) 69 47 (0 : Int64)) D)) :
    aw_z X (d + 1) y_M_runs Q 5 [some (.ref 69), some (.int v1), some (.int v2), some (.int v3), some (.int v4), none, none, none, none, none, none, none, none] [] (aw_s I L D) :=
  (s_M_runs_5.go [some (.ref 69), some (.int v1), some (.int v2), some (.int v3), some (.int v4), some (.int (0 : Int32)), none, none, none, none, none, none, none] [] (aw_s (aw_u (aw_u (aw_u (aw_u (aw_u I 69 25 (0 : Int32)) 69 44 (0 : Int32)) 69 45 (0 : Int32)) 69 42 (-1 : Int32)) 69 43 (-1 : Int32)) (aw_u (aw_u L 69 46 (0 : Int64)) 69 47 (0 : Int64)) D) rfl (h1))
theorem d_M_runs_43 : decode y_M_runs.2.1 43 = .ok (.iload 5, 2) := by decide +kernel
theorem d_M_runs_45 : decode y_M_runs.2.1 45 = .ok (.bipush 60, 2) := by decide +kernel
theorem s_M_runs_43 : aw_VS y_M_runs 43 [o_ild 5, o_c (.int (60 : Int32))] 47 := .cons (v_iload (i := 5) d_M_runs_43) (.cons (v_bipush (v := (60 : Int32)) d_M_runs_45 (by decide +kernel)) .nil)
theorem d_M_runs_47 : decode y_M_runs.2.1 47 = .ok (.if_icmp .ge (17), 3) := by decide +kernel
theorem d_M_runs_64 : decode y_M_runs.2.1 64 = .ok (.iconst 0, 1) := by decide +kernel
theorem d_M_runs_65 : decode y_M_runs.2.1 65 = .ok (.istore 5, 2) := by decide +kernel
theorem d_M_runs_67 : decode y_M_runs.2.1 67 = .ok (.iconst 0, 1) := by decide +kernel
theorem d_M_runs_68 : decode y_M_runs.2.1 68 = .ok (.istore 6, 2) := by decide +kernel
theorem d_M_runs_70 : decode y_M_runs.2.1 70 = .ok (.iconst (-1), 1) := by decide +kernel
theorem d_M_runs_71 : decode y_M_runs.2.1 71 = .ok (.istore 7, 2) := by decide +kernel
theorem d_M_runs_73 : decode y_M_runs.2.1 73 = .ok (.aload_n 0, 1) := by decide +kernel
theorem d_M_runs_74 : decode y_M_runs.2.1 74 = .ok (.getfield 22, 3) := by decide +kernel
theorem d_M_runs_77 : decode y_M_runs.2.1 77 = .ok (.iload_n 1, 1) := by decide +kernel
theorem s_M_runs_64 : aw_VS y_M_runs 64 [o_c (.int (0 : Int32)), o_ist 5, o_c (.int (0 : Int32)), o_ist 6, o_c (.int (-1 : Int32)), o_ist 7, o_ald 0, o_getA 9 15, o_ild 1] 78 := .cons (v_iconst (v := (0 : Int32)) d_M_runs_64 (by decide +kernel)) (.cons (v_istore d_M_runs_65) (.cons (v_iconst (v := (0 : Int32)) d_M_runs_67 (by decide +kernel)) (.cons (v_istore d_M_runs_68) (.cons (v_iconst (v := (-1 : Int32)) d_M_runs_70 (by decide +kernel)) (.cons (v_istore d_M_runs_71) (.cons (v_aload_n (i := 0) d_M_runs_73 rfl) (.cons (v_getA (k := 15) k_M (by decide) rfl (Or.inl w_1476) d_M_runs_74) (.cons (v_iload_n (i := 1) d_M_runs_77 rfl) .nil))))))))
theorem d_M_runs_78 : decode y_M_runs.2.1 78 = .ok (.iaload, 1) := by decide +kernel
theorem d_M_runs_79 : decode y_M_runs.2.1 79 = .ok (.istore 8, 2) := by decide +kernel
theorem s_M_runs_79 : aw_VS y_M_runs 79 [o_ist 8] 81 := .cons (v_istore d_M_runs_79) .nil
theorem d_M_runs_50 : decode y_M_runs.2.1 50 = .ok (.aload_n 0, 1) := by decide +kernel
theorem d_M_runs_51 : decode y_M_runs.2.1 51 = .ok (.getfield 72, 3) := by decide +kernel
theorem d_M_runs_54 : decode y_M_runs.2.1 54 = .ok (.iload 5, 2) := by decide +kernel
theorem d_M_runs_56 : decode y_M_runs.2.1 56 = .ok (.iconst 0, 1) := by decide +kernel
theorem s_M_runs_50 : aw_VS y_M_runs 50 [o_ald 0, o_getA 9 41, o_ild 5, o_c (.int (0 : Int32))] 57 := .cons (v_aload_n (i := 0) d_M_runs_50 rfl) (.cons (v_getA (k := 41) k_M (by decide) rfl (Or.inl w_1502) d_M_runs_51) (.cons (v_iload (i := 5) d_M_runs_54) (.cons (v_iconst (v := (0 : Int32)) d_M_runs_56 (by decide +kernel)) .nil)))
theorem d_M_runs_57 : decode y_M_runs.2.1 57 = .ok (.iastore, 1) := by decide +kernel
theorem d_M_runs_58 : decode y_M_runs.2.1 58 = .ok (.iinc 5 (1), 3) := by decide +kernel
theorem s_M_runs_58 : aw_VS y_M_runs 58 [o_inc 5 (1 : Int32)] 61 := .cons (v_iinc (k0 := (1 : Int32)) d_M_runs_58 (by decide +kernel)) .nil
theorem d_M_runs_61 : decode y_M_runs.2.1 61 = .ok (.goto (-18), 3) := by decide +kernel
theorem b_M_runs_43 {X : aw_X} {d : Nat} {Q : Option Value → aw_H → Prop} {I : Nat → Nat → Int32} {L : Nat → Nat → Int64} {D : Nat → Nat} {v1 : Int32} {v2 : Int32} {v3 : Int32} {v4 : Int32} {v5 : Int32}
    (h1 : (60 : Int32) ≤ v5 → vp_in v1 7)
    (h2 : (60 : Int32) ≤ v5 → aw_z X (d + 1) y_M_runs Q 81 [some (.ref 69), some (.int v1), some (.int v2), some (.int v3), some (.int v4), some (.int (0 : Int32)), some (.int (0 : Int32)), some (.int (-1 : Int32)), some (.int (I 74 v1.toNatClampNeg)), none, none, none, none] [] (aw_s I L D))
    (h3 : ¬ (60 : Int32) ≤ v5 → vp_in v5 60)
    (h4 : ¬ (60 : Int32) ≤ v5 → aw_z X (d + 1) y_M_runs Q 43 [some (.ref 69), some (.int v1), some (.int v2), some (.int v3), some (.int v4), some (.int (v5 + (1 : Int32))), none, none, none, none, none, none, none] [] (aw_s (aw_u I 88 v5.toNatClampNeg (0 : Int32)) L D)) :
    aw_z X (d + 1) y_M_runs Q 43 [some (.ref 69), some (.int v1), some (.int v2), some (.int v3), some (.int v4), some (.int v5), none, none, none, none, none, none, none] [] (aw_s I L D) :=
  (s_M_runs_43.go [some (.ref 69), some (.int v1), some (.int v2), some (.int v3), some (.int v4), some (.int v5), none, none, none, none, none, none, none] [.int (60 : Int32), .int v5] (aw_s I L D) rfl (z_icmp_ge (tgt := 64) d_M_runs_47 rfl (fun q1 => (s_M_runs_64.go [some (.ref 69), some (.int v1), some (.int v2), some (.int v3), some (.int v4), some (.int (0 : Int32)), some (.int (0 : Int32)), some (.int (-1 : Int32)), none, none, none, none, none] [.int v1, .ref 74] (aw_s I L D) rfl (z_iald (n := 7) rfl (aw_lt (o := 74) rfl) (h1 q1) d_M_runs_78 (s_M_runs_79.go [some (.ref 69), some (.int v1), some (.int v2), some (.int v3), some (.int v4), some (.int (0 : Int32)), some (.int (0 : Int32)), some (.int (-1 : Int32)), some (.int (I 74 v1.toNatClampNeg)), none, none, none, none] [] (aw_s I L D) rfl (h2 q1))))) (fun q2 => (s_M_runs_50.go [some (.ref 69), some (.int v1), some (.int v2), some (.int v3), some (.int v4), some (.int v5), none, none, none, none, none, none, none] [.int (0 : Int32), .int v5, .ref 88] (aw_s I L D) rfl (z_iast (n := 60) rfl (aw_lt (o := 88) rfl) (h3 q2) d_M_runs_57 (s_M_runs_58.go [some (.ref 69), some (.int v1), some (.int v2), some (.int v3), some (.int v4), some (.int (v5 + (1 : Int32))), none, none, none, none, none, none, none] [] (aw_s (aw_u I 88 v5.toNatClampNeg (0 : Int32)) L D) rfl (z_goto (tgt := 43) d_M_runs_61 rfl (h4 q2))))))))
theorem d_M_runs_81 : decode y_M_runs.2.1 81 = .ok (.aload_n 0, 1) := by decide +kernel
theorem d_M_runs_82 : decode y_M_runs.2.1 82 = .ok (.getfield 13, 3) := by decide +kernel
theorem d_M_runs_85 : decode y_M_runs.2.1 85 = .ok (.sipush 800, 3) := by decide +kernel
theorem d_M_runs_88 : decode y_M_runs.2.1 88 = .ok (.iload_n 1, 1) := by decide +kernel
theorem d_M_runs_89 : decode y_M_runs.2.1 89 = .ok (.imul, 1) := by decide +kernel
theorem d_M_runs_90 : decode y_M_runs.2.1 90 = .ok (.iload 8, 2) := by decide +kernel
theorem d_M_runs_92 : decode y_M_runs.2.1 92 = .ok (.iadd, 1) := by decide +kernel
theorem s_M_runs_81 : aw_VS y_M_runs 81 [o_ald 0, o_getA 9 12, o_c (.int (800 : Int32)), o_ild 1, o_i2 (fun x z => x * z), o_ild 8, o_i2 (fun x z => x + z)] 93 := .cons (v_aload_n (i := 0) d_M_runs_81 rfl) (.cons (v_getA (k := 12) k_M (by decide) rfl (Or.inl w_1473) d_M_runs_82) (.cons (v_sipush (v := (800 : Int32)) d_M_runs_85 (by decide +kernel)) (.cons (v_iload_n (i := 1) d_M_runs_88 rfl) (.cons (v_imul d_M_runs_89) (.cons (v_iload (i := 8) d_M_runs_90) (.cons (v_iadd d_M_runs_92) .nil))))))
theorem d_M_runs_93 : decode y_M_runs.2.1 93 = .ok (.iaload, 1) := by decide +kernel
theorem d_M_runs_94 : decode y_M_runs.2.1 94 = .ok (.istore 9, 2) := by decide +kernel
theorem d_M_runs_96 : decode y_M_runs.2.1 96 = .ok (.aload_n 0, 1) := by decide +kernel
theorem d_M_runs_97 : decode y_M_runs.2.1 97 = .ok (.getfield 16, 3) := by decide +kernel
theorem d_M_runs_100 : decode y_M_runs.2.1 100 = .ok (.sipush 800, 3) := by decide +kernel
theorem d_M_runs_103 : decode y_M_runs.2.1 103 = .ok (.iload_n 1, 1) := by decide +kernel
theorem d_M_runs_104 : decode y_M_runs.2.1 104 = .ok (.imul, 1) := by decide +kernel
theorem d_M_runs_105 : decode y_M_runs.2.1 105 = .ok (.iload 8, 2) := by decide +kernel
theorem d_M_runs_107 : decode y_M_runs.2.1 107 = .ok (.iadd, 1) := by decide +kernel
theorem s_M_runs_94 : aw_VS y_M_runs 94 [o_ist 9, o_ald 0, o_getA 9 13, o_c (.int (800 : Int32)), o_ild 1, o_i2 (fun x z => x * z), o_ild 8, o_i2 (fun x z => x + z)] 108 := .cons (v_istore d_M_runs_94) (.cons (v_aload_n (i := 0) d_M_runs_96 rfl) (.cons (v_getA (k := 13) k_M (by decide) rfl (Or.inl w_1474) d_M_runs_97) (.cons (v_sipush (v := (800 : Int32)) d_M_runs_100 (by decide +kernel)) (.cons (v_iload_n (i := 1) d_M_runs_103 rfl) (.cons (v_imul d_M_runs_104) (.cons (v_iload (i := 8) d_M_runs_105) (.cons (v_iadd d_M_runs_107) .nil)))))))
theorem d_M_runs_108 : decode y_M_runs.2.1 108 = .ok (.iaload, 1) := by decide +kernel
theorem d_M_runs_109 : decode y_M_runs.2.1 109 = .ok (.istore 10, 2) := by decide +kernel
theorem d_M_runs_111 : decode y_M_runs.2.1 111 = .ok (.iinc 8 (1), 3) := by decide +kernel
theorem d_M_runs_114 : decode y_M_runs.2.1 114 = .ok (.aload_n 0, 1) := by decide +kernel
theorem d_M_runs_115 : decode y_M_runs.2.1 115 = .ok (.iload 9, 2) := by decide +kernel
theorem d_M_runs_117 : decode y_M_runs.2.1 117 = .ok (.iload 10, 2) := by decide +kernel
theorem s_M_runs_109 : aw_VS y_M_runs 109 [o_ist 10, o_inc 8 (1 : Int32), o_ald 0, o_ild 9, o_ild 10] 119 := .cons (v_istore d_M_runs_109) (.cons (v_iinc (k0 := (1 : Int32)) d_M_runs_111 (by decide +kernel)) (.cons (v_aload_n (i := 0) d_M_runs_114 rfl) (.cons (v_iload (i := 9) d_M_runs_115) (.cons (v_iload (i := 10) d_M_runs_117) .nil))))
theorem d_M_runs_119 : decode y_M_runs.2.1 119 = .ok (.invokevirtual 399, 3) := by decide +kernel
theorem b_M_runs_81 {X : aw_X} {d : Nat} {Q : Option Value → aw_H → Prop} {I : Nat → Nat → Int32} {L : Nat → Nat → Int64} {D : Nat → Nat} {v1 : Int32} {v2 : Int32} {v3 : Int32} {v4 : Int32} {v5 : Int32} {v6 : Int32} {v7 : Int32} {v8 : Int32}
    (h1 : vp_in (((800 : Int32) * v1) + v8) 5600)
    (h2 : vp_in (((800 : Int32) * v1) + v8) 5600)
    (h3 : aw_m X d y_M_work [.ref 69, .int (I 71 ((((800 : Int32) * v1) + v8).toNatClampNeg)), .int (I 72 ((((800 : Int32) * v1) + v8).toNatClampNeg))] (aw_s I L D) (fun r A => aw_z X (d + 1) y_M_runs Q 122 [some (.ref 69), some (.int v1), some (.int v2), some (.int v3), some (.int v4), some (.int v5), some (.int v6), some (.int v7), some (.int (v8 + (1 : Int32))), some (.int (I 71 ((((800 : Int32) * v1) + v8).toNatClampNeg))), some (.int (I 72 ((((800 : Int32) * v1) + v8).toNatClampNeg))), none, none] (r.toList ++ []) A)) :
    aw_z X (d + 1) y_M_runs Q 81 [some (.ref 69), some (.int v1), some (.int v2), some (.int v3), some (.int v4), some (.int v5), some (.int v6), some (.int v7), some (.int v8), none, none, none, none] [] (aw_s I L D) :=
  (s_M_runs_81.go [some (.ref 69), some (.int v1), some (.int v2), some (.int v3), some (.int v4), some (.int v5), some (.int v6), some (.int v7), some (.int v8), none, none, none, none] [.int (((800 : Int32) * v1) + v8), .ref 71] (aw_s I L D) rfl (z_iald (n := 5600) rfl (aw_lt (o := 71) rfl) (h1) d_M_runs_93 (s_M_runs_94.go [some (.ref 69), some (.int v1), some (.int v2), some (.int v3), some (.int v4), some (.int v5), some (.int v6), some (.int v7), some (.int v8), some (.int (I 71 ((((800 : Int32) * v1) + v8).toNatClampNeg))), none, none, none] [.int (((800 : Int32) * v1) + v8), .ref 72] (aw_s I L D) rfl (z_iald (n := 5600) rfl (aw_lt (o := 72) rfl) (h2) d_M_runs_108 (s_M_runs_109.go [some (.ref 69), some (.int v1), some (.int v2), some (.int v3), some (.int v4), some (.int v5), some (.int v6), some (.int v7), some (.int (v8 + (1 : Int32))), some (.int (I 71 ((((800 : Int32) * v1) + v8).toNatClampNeg))), some (.int (I 72 ((((800 : Int32) * v1) + v8).toNatClampNeg))), none, none] [.int (I 72 ((((800 : Int32) * v1) + v8).toNatClampNeg)), .int (I 71 ((((800 : Int32) * v1) + v8).toNatClampNeg)), .ref 69] (aw_s I L D) rfl (z_callV (av := [.int (I 71 ((((800 : Int32) * v1) + v8).toNatClampNeg)), .int (I 72 ((((800 : Int32) * v1) + v8).toNatClampNeg))]) (st := []) ok_M_work (Or.inl w_1935) w_1937 w_110 k_M d_M_runs_119 rfl (aw_lt (o := 69) rfl) rfl rfl (Nat.le_of_ble_eq_true rfl) (Nat.le_refl _) (Nat.le_refl _) (h3)))))))
theorem d_M_runs_122 : decode y_M_runs.2.1 122 = .ok (.istore 11, 2) := by decide +kernel
theorem d_M_runs_124 : decode y_M_runs.2.1 124 = .ok (.iload 11, 2) := by decide +kernel
theorem s_M_runs_122 : aw_VS y_M_runs 122 [o_ist 11, o_ild 11] 126 := .cons (v_istore d_M_runs_122) (.cons (v_iload (i := 11) d_M_runs_124) .nil)
theorem d_M_runs_126 : decode y_M_runs.2.1 126 = .ok (.ifCond .ne (6), 3) := by decide +kernel
theorem d_M_runs_132 : decode y_M_runs.2.1 132 = .ok (.iload 11, 2) := by decide +kernel
theorem s_M_runs_132 : aw_VS y_M_runs 132 [o_ild 11] 134 := .cons (v_iload (i := 11) d_M_runs_132) .nil
theorem d_M_runs_134 : decode y_M_runs.2.1 134 = .ok (.ifCond .le (12), 3) := by decide +kernel
theorem d_M_runs_146 : decode y_M_runs.2.1 146 = .ok (.iload 9, 2) := by decide +kernel
theorem s_M_runs_146 : aw_VS y_M_runs 146 [o_ild 9] 148 := .cons (v_iload (i := 9) d_M_runs_146) .nil
theorem d_M_runs_148 : decode y_M_runs.2.1 148 = .ok (.tableswitch (508) (0) (24) #[116, 116, 508, 508, 508, 508, 508, 508, 508, 508, 508, 508, 508, 508, 508, 188, 217, 279, 279, 323, 378, 386, 467, 474, 493], 116) := by decide +kernel
theorem d_M_runs_264 : decode y_M_runs.2.1 264 = .ok (.iload 10, 2) := by decide +kernel
theorem d_M_runs_266 : decode y_M_runs.2.1 266 = .ok (.istore 7, 2) := by decide +kernel
theorem d_M_runs_268 : decode y_M_runs.2.1 268 = .ok (.aload_n 0, 1) := by decide +kernel
theorem d_M_runs_269 : decode y_M_runs.2.1 269 = .ok (.dup, 1) := by decide +kernel
theorem d_M_runs_270 : decode y_M_runs.2.1 270 = .ok (.getfield 381, 3) := by decide +kernel
theorem d_M_runs_273 : decode y_M_runs.2.1 273 = .ok (.iconst 1, 1) := by decide +kernel
theorem d_M_runs_274 : decode y_M_runs.2.1 274 = .ok (.iadd, 1) := by decide +kernel
theorem d_M_runs_275 : decode y_M_runs.2.1 275 = .ok (.putfield 381, 3) := by decide +kernel
theorem d_M_runs_278 : decode y_M_runs.2.1 278 = .ok (.aload_n 0, 1) := by decide +kernel
theorem d_M_runs_279 : decode y_M_runs.2.1 279 = .ok (.dup, 1) := by decide +kernel
theorem d_M_runs_280 : decode y_M_runs.2.1 280 = .ok (.getfield 390, 3) := by decide +kernel
theorem d_M_runs_283 : decode y_M_runs.2.1 283 = .ok (.lconst 1, 1) := by decide +kernel
theorem d_M_runs_284 : decode y_M_runs.2.1 284 = .ok (.iload 10, 2) := by decide +kernel
theorem d_M_runs_286 : decode y_M_runs.2.1 286 = .ok (.lshl, 1) := by decide +kernel
theorem d_M_runs_287 : decode y_M_runs.2.1 287 = .ok (.lor, 1) := by decide +kernel
theorem d_M_runs_288 : decode y_M_runs.2.1 288 = .ok (.putfield 390, 3) := by decide +kernel
theorem d_M_runs_291 : decode y_M_runs.2.1 291 = .ok (.aload_n 0, 1) := by decide +kernel
theorem d_M_runs_292 : decode y_M_runs.2.1 292 = .ok (.getfield 369, 3) := by decide +kernel
theorem s_M_runs_264 : aw_VS y_M_runs 264 [o_ild 10, o_ist 7, o_ald 0, o_dup, o_getI 9 44, o_c (.int (1 : Int32)), o_i2 (fun x z => x + z), o_putI 9 44, o_ald 0, o_dup, o_getJ 9 47, o_c (.long (1 : Int64)), o_ild 10, o_ls (fun x z => x <<< (z.toInt64 &&& 63)), o_l2 (fun x z => x ||| z), o_putJ 9 47, o_ald 0, o_getI 9 48] 295 := .cons (v_iload (i := 10) d_M_runs_264) (.cons (v_istore d_M_runs_266) (.cons (v_aload_n (i := 0) d_M_runs_268 rfl) (.cons (v_dup d_M_runs_269) (.cons (v_getI (k := 44) k_M (by decide) (Or.inl rfl) (Or.inl w_1505) d_M_runs_270) (.cons (v_iconst (v := (1 : Int32)) d_M_runs_273 (by decide +kernel)) (.cons (v_iadd d_M_runs_274) (.cons (v_putI (k := 44) k_M (by decide) rfl (Or.inl ⟨rfl, Or.inl w_1505⟩) d_M_runs_275) (.cons (v_aload_n (i := 0) d_M_runs_278 rfl) (.cons (v_dup d_M_runs_279) (.cons (v_getJ (k := 47) k_M (by decide) rfl (Or.inl w_1508) d_M_runs_280) (.cons (v_lconst (v := (1 : Int64)) d_M_runs_283 (by decide +kernel)) (.cons (v_iload (i := 10) d_M_runs_284) (.cons (v_lshl d_M_runs_286) (.cons (v_lor d_M_runs_287) (.cons (v_putJ (k := 47) k_M (by decide) rfl (Or.inl ⟨rfl, Or.inl w_1508⟩) d_M_runs_288) (.cons (v_aload_n (i := 0) d_M_runs_291 rfl) (.cons (v_getI (k := 48) k_M (by decide) (Or.inl rfl) (Or.inl w_1509) d_M_runs_292) .nil)))))))))))))))))
theorem d_M_runs_295 : decode y_M_runs.2.1 295 = .ok (.ifCond .le (9), 3) := by decide +kernel
theorem d_M_runs_298 : decode y_M_runs.2.1 298 = .ok (.aload_n 0, 1) := by decide +kernel
theorem d_M_runs_299 : decode y_M_runs.2.1 299 = .ok (.iload 10, 2) := by decide +kernel
theorem s_M_runs_298 : aw_VS y_M_runs 298 [o_ald 0, o_ild 10] 301 := .cons (v_aload_n (i := 0) d_M_runs_298 rfl) (.cons (v_iload (i := 10) d_M_runs_299) .nil)
theorem d_M_runs_301 : decode y_M_runs.2.1 301 = .ok (.invokevirtual 405, 3) := by decide +kernel
theorem d_M_runs_336 : decode y_M_runs.2.1 336 = .ok (.aload_n 0, 1) := by decide +kernel
theorem d_M_runs_337 : decode y_M_runs.2.1 337 = .ok (.getfield 60, 3) := by decide +kernel
theorem d_M_runs_340 : decode y_M_runs.2.1 340 = .ok (.iload 10, 2) := by decide +kernel
theorem d_M_runs_342 : decode y_M_runs.2.1 342 = .ok (.aload_n 0, 1) := by decide +kernel
theorem d_M_runs_343 : decode y_M_runs.2.1 343 = .ok (.getfield 66, 3) := by decide +kernel
theorem d_M_runs_346 : decode y_M_runs.2.1 346 = .ok (.aload_n 0, 1) := by decide +kernel
theorem d_M_runs_347 : decode y_M_runs.2.1 347 = .ok (.getfield 231, 3) := by decide +kernel
theorem s_M_runs_336 : aw_VS y_M_runs 336 [o_ald 0, o_getA 9 37, o_ild 10, o_ald 0, o_getA 9 39, o_ald 0, o_getI 9 25] 350 := .cons (v_aload_n (i := 0) d_M_runs_336 rfl) (.cons (v_getA (k := 37) k_M (by decide) rfl (Or.inl w_1498) d_M_runs_337) (.cons (v_iload (i := 10) d_M_runs_340) (.cons (v_aload_n (i := 0) d_M_runs_342 rfl) (.cons (v_getA (k := 39) k_M (by decide) rfl (Or.inl w_1500) d_M_runs_343) (.cons (v_aload_n (i := 0) d_M_runs_346 rfl) (.cons (v_getI (k := 25) k_M (by decide) (Or.inl rfl) (Or.inl w_1486) d_M_runs_347) .nil))))))
theorem d_M_runs_350 : decode y_M_runs.2.1 350 = .ok (.iaload, 1) := by decide +kernel
theorem d_M_runs_351 : decode y_M_runs.2.1 351 = .ok (.iastore, 1) := by decide +kernel
theorem d_M_runs_352 : decode y_M_runs.2.1 352 = .ok (.aload_n 0, 1) := by decide +kernel
theorem d_M_runs_353 : decode y_M_runs.2.1 353 = .ok (.dup, 1) := by decide +kernel
theorem d_M_runs_354 : decode y_M_runs.2.1 354 = .ok (.getfield 231, 3) := by decide +kernel
theorem d_M_runs_357 : decode y_M_runs.2.1 357 = .ok (.iconst 1, 1) := by decide +kernel
theorem d_M_runs_358 : decode y_M_runs.2.1 358 = .ok (.isub, 1) := by decide +kernel
theorem d_M_runs_359 : decode y_M_runs.2.1 359 = .ok (.putfield 231, 3) := by decide +kernel
theorem s_M_runs_352 : aw_VS y_M_runs 352 [o_ald 0, o_dup, o_getI 9 25, o_c (.int (1 : Int32)), o_i2 (fun x z => x - z), o_putI 9 25] 362 := .cons (v_aload_n (i := 0) d_M_runs_352 rfl) (.cons (v_dup d_M_runs_353) (.cons (v_getI (k := 25) k_M (by decide) (Or.inl rfl) (Or.inl w_1486) d_M_runs_354) (.cons (v_iconst (v := (1 : Int32)) d_M_runs_357 (by decide +kernel)) (.cons (v_isub d_M_runs_358) (.cons (v_putI (k := 25) k_M (by decide) rfl (Or.inl ⟨rfl, Or.inl w_1486⟩) d_M_runs_359) .nil)))))
theorem d_M_runs_362 : decode y_M_runs.2.1 362 = .ok (.goto (301), 3) := by decide +kernel
theorem d_M_runs_663 : decode y_M_runs.2.1 663 = .ok (.goto (-582), 3) := by decide +kernel
theorem d_M_runs_365 : decode y_M_runs.2.1 365 = .ok (.aload_n 0, 1) := by decide +kernel
theorem d_M_runs_366 : decode y_M_runs.2.1 366 = .ok (.getfield 66, 3) := by decide +kernel
theorem d_M_runs_369 : decode y_M_runs.2.1 369 = .ok (.aload_n 0, 1) := by decide +kernel
theorem d_M_runs_370 : decode y_M_runs.2.1 370 = .ok (.getfield 231, 3) := by decide +kernel
theorem d_M_runs_373 : decode y_M_runs.2.1 373 = .ok (.iconst 1, 1) := by decide +kernel
theorem d_M_runs_374 : decode y_M_runs.2.1 374 = .ok (.isub, 1) := by decide +kernel
theorem s_M_runs_365 : aw_VS y_M_runs 365 [o_ald 0, o_getA 9 39, o_ald 0, o_getI 9 25, o_c (.int (1 : Int32)), o_i2 (fun x z => x - z)] 375 := .cons (v_aload_n (i := 0) d_M_runs_365 rfl) (.cons (v_getA (k := 39) k_M (by decide) rfl (Or.inl w_1500) d_M_runs_366) (.cons (v_aload_n (i := 0) d_M_runs_369 rfl) (.cons (v_getI (k := 25) k_M (by decide) (Or.inl rfl) (Or.inl w_1486) d_M_runs_370) (.cons (v_iconst (v := (1 : Int32)) d_M_runs_373 (by decide +kernel)) (.cons (v_isub d_M_runs_374) .nil)))))
theorem d_M_runs_375 : decode y_M_runs.2.1 375 = .ok (.iaload, 1) := by decide +kernel
theorem d_M_runs_376 : decode y_M_runs.2.1 376 = .ok (.bipush 7, 2) := by decide +kernel
theorem s_M_runs_376 : aw_VS y_M_runs 376 [o_c (.int (7 : Int32))] 378 := .cons (v_bipush (v := (7 : Int32)) d_M_runs_376 (by decide +kernel)) .nil
theorem d_M_runs_378 : decode y_M_runs.2.1 378 = .ok (.if_icmp .le (11), 3) := by decide +kernel
theorem d_M_runs_389 : decode y_M_runs.2.1 389 = .ok (.aload_n 0, 1) := by decide +kernel
theorem d_M_runs_390 : decode y_M_runs.2.1 390 = .ok (.getfield 63, 3) := by decide +kernel
theorem d_M_runs_393 : decode y_M_runs.2.1 393 = .ok (.aload_n 0, 1) := by decide +kernel
theorem d_M_runs_394 : decode y_M_runs.2.1 394 = .ok (.getfield 66, 3) := by decide +kernel
theorem d_M_runs_397 : decode y_M_runs.2.1 397 = .ok (.aload_n 0, 1) := by decide +kernel
theorem d_M_runs_398 : decode y_M_runs.2.1 398 = .ok (.getfield 231, 3) := by decide +kernel
theorem d_M_runs_401 : decode y_M_runs.2.1 401 = .ok (.iconst 1, 1) := by decide +kernel
theorem d_M_runs_402 : decode y_M_runs.2.1 402 = .ok (.isub, 1) := by decide +kernel
theorem s_M_runs_389 : aw_VS y_M_runs 389 [o_ald 0, o_getA 9 38, o_ald 0, o_getA 9 39, o_ald 0, o_getI 9 25, o_c (.int (1 : Int32)), o_i2 (fun x z => x - z)] 403 := .cons (v_aload_n (i := 0) d_M_runs_389 rfl) (.cons (v_getA (k := 38) k_M (by decide) rfl (Or.inl w_1499) d_M_runs_390) (.cons (v_aload_n (i := 0) d_M_runs_393 rfl) (.cons (v_getA (k := 39) k_M (by decide) rfl (Or.inl w_1500) d_M_runs_394) (.cons (v_aload_n (i := 0) d_M_runs_397 rfl) (.cons (v_getI (k := 25) k_M (by decide) (Or.inl rfl) (Or.inl w_1486) d_M_runs_398) (.cons (v_iconst (v := (1 : Int32)) d_M_runs_401 (by decide +kernel)) (.cons (v_isub d_M_runs_402) .nil)))))))
theorem d_M_runs_403 : decode y_M_runs.2.1 403 = .ok (.iaload, 1) := by decide +kernel
theorem d_M_runs_404 : decode y_M_runs.2.1 404 = .ok (.aload_n 0, 1) := by decide +kernel
theorem d_M_runs_405 : decode y_M_runs.2.1 405 = .ok (.getfield 66, 3) := by decide +kernel
theorem d_M_runs_408 : decode y_M_runs.2.1 408 = .ok (.aload_n 0, 1) := by decide +kernel
theorem d_M_runs_409 : decode y_M_runs.2.1 409 = .ok (.getfield 231, 3) := by decide +kernel
theorem s_M_runs_404 : aw_VS y_M_runs 404 [o_ald 0, o_getA 9 39, o_ald 0, o_getI 9 25] 412 := .cons (v_aload_n (i := 0) d_M_runs_404 rfl) (.cons (v_getA (k := 39) k_M (by decide) rfl (Or.inl w_1500) d_M_runs_405) (.cons (v_aload_n (i := 0) d_M_runs_408 rfl) (.cons (v_getI (k := 25) k_M (by decide) (Or.inl rfl) (Or.inl w_1486) d_M_runs_409) .nil)))
theorem d_M_runs_412 : decode y_M_runs.2.1 412 = .ok (.iaload, 1) := by decide +kernel
theorem d_M_runs_413 : decode y_M_runs.2.1 413 = .ok (.iastore, 1) := by decide +kernel
theorem d_M_runs_414 : decode y_M_runs.2.1 414 = .ok (.aload_n 0, 1) := by decide +kernel
theorem d_M_runs_415 : decode y_M_runs.2.1 415 = .ok (.dup, 1) := by decide +kernel
theorem d_M_runs_416 : decode y_M_runs.2.1 416 = .ok (.getfield 231, 3) := by decide +kernel
theorem d_M_runs_419 : decode y_M_runs.2.1 419 = .ok (.iconst 2, 1) := by decide +kernel
theorem d_M_runs_420 : decode y_M_runs.2.1 420 = .ok (.isub, 1) := by decide +kernel
theorem d_M_runs_421 : decode y_M_runs.2.1 421 = .ok (.putfield 231, 3) := by decide +kernel
theorem s_M_runs_414 : aw_VS y_M_runs 414 [o_ald 0, o_dup, o_getI 9 25, o_c (.int (2 : Int32)), o_i2 (fun x z => x - z), o_putI 9 25] 424 := .cons (v_aload_n (i := 0) d_M_runs_414 rfl) (.cons (v_dup d_M_runs_415) (.cons (v_getI (k := 25) k_M (by decide) (Or.inl rfl) (Or.inl w_1486) d_M_runs_416) (.cons (v_iconst (v := (2 : Int32)) d_M_runs_419 (by decide +kernel)) (.cons (v_isub d_M_runs_420) (.cons (v_putI (k := 25) k_M (by decide) rfl (Or.inl ⟨rfl, Or.inl w_1486⟩) d_M_runs_421) .nil)))))
theorem d_M_runs_424 : decode y_M_runs.2.1 424 = .ok (.goto (239), 3) := by decide +kernel
theorem d_M_runs_381 : decode y_M_runs.2.1 381 = .ok (.aload_n 0, 1) := by decide +kernel
theorem d_M_runs_382 : decode y_M_runs.2.1 382 = .ok (.iconst 3, 1) := by decide +kernel
theorem d_M_runs_383 : decode y_M_runs.2.1 383 = .ok (.iload 7, 2) := by decide +kernel
theorem s_M_runs_381 : aw_VS y_M_runs 381 [o_ald 0, o_c (.int (3 : Int32)), o_ild 7] 385 := .cons (v_aload_n (i := 0) d_M_runs_381 rfl) (.cons (v_iconst (v := (3 : Int32)) d_M_runs_382 (by decide +kernel)) (.cons (v_iload (i := 7) d_M_runs_383) .nil))
theorem d_M_runs_385 : decode y_M_runs.2.1 385 = .ok (.invokevirtual 402, 3) := by decide +kernel
theorem d_M_runs_427 : decode y_M_runs.2.1 427 = .ok (.aload_n 0, 1) := by decide +kernel
theorem d_M_runs_428 : decode y_M_runs.2.1 428 = .ok (.getfield 66, 3) := by decide +kernel
theorem d_M_runs_431 : decode y_M_runs.2.1 431 = .ok (.aload_n 0, 1) := by decide +kernel
theorem d_M_runs_432 : decode y_M_runs.2.1 432 = .ok (.getfield 231, 3) := by decide +kernel
theorem s_M_runs_427 : aw_VS y_M_runs 427 [o_ald 0, o_getA 9 39, o_ald 0, o_getI 9 25] 435 := .cons (v_aload_n (i := 0) d_M_runs_427 rfl) (.cons (v_getA (k := 39) k_M (by decide) rfl (Or.inl w_1500) d_M_runs_428) (.cons (v_aload_n (i := 0) d_M_runs_431 rfl) (.cons (v_getI (k := 25) k_M (by decide) (Or.inl rfl) (Or.inl w_1486) d_M_runs_432) .nil)))
theorem d_M_runs_435 : decode y_M_runs.2.1 435 = .ok (.iaload, 1) := by decide +kernel
theorem d_M_runs_436 : decode y_M_runs.2.1 436 = .ok (.ifCond .ne (22), 3) := by decide +kernel
theorem d_M_runs_458 : decode y_M_runs.2.1 458 = .ok (.aload_n 0, 1) := by decide +kernel
theorem d_M_runs_459 : decode y_M_runs.2.1 459 = .ok (.dup, 1) := by decide +kernel
theorem d_M_runs_460 : decode y_M_runs.2.1 460 = .ok (.getfield 231, 3) := by decide +kernel
theorem d_M_runs_463 : decode y_M_runs.2.1 463 = .ok (.iconst 1, 1) := by decide +kernel
theorem d_M_runs_464 : decode y_M_runs.2.1 464 = .ok (.isub, 1) := by decide +kernel
theorem d_M_runs_465 : decode y_M_runs.2.1 465 = .ok (.putfield 231, 3) := by decide +kernel
theorem s_M_runs_458 : aw_VS y_M_runs 458 [o_ald 0, o_dup, o_getI 9 25, o_c (.int (1 : Int32)), o_i2 (fun x z => x - z), o_putI 9 25] 468 := .cons (v_aload_n (i := 0) d_M_runs_458 rfl) (.cons (v_dup d_M_runs_459) (.cons (v_getI (k := 25) k_M (by decide) (Or.inl rfl) (Or.inl w_1486) d_M_runs_460) (.cons (v_iconst (v := (1 : Int32)) d_M_runs_463 (by decide +kernel)) (.cons (v_isub d_M_runs_464) (.cons (v_putI (k := 25) k_M (by decide) rfl (Or.inl ⟨rfl, Or.inl w_1486⟩) d_M_runs_465) .nil)))))
theorem d_M_runs_468 : decode y_M_runs.2.1 468 = .ok (.goto (195), 3) := by decide +kernel
theorem d_M_runs_439 : decode y_M_runs.2.1 439 = .ok (.aload_n 0, 1) := by decide +kernel
theorem d_M_runs_440 : decode y_M_runs.2.1 440 = .ok (.iload 9, 2) := by decide +kernel
theorem d_M_runs_442 : decode y_M_runs.2.1 442 = .ok (.bipush 17, 2) := by decide +kernel
theorem s_M_runs_439 : aw_VS y_M_runs 439 [o_ald 0, o_ild 9, o_c (.int (17 : Int32))] 444 := .cons (v_aload_n (i := 0) d_M_runs_439 rfl) (.cons (v_iload (i := 9) d_M_runs_440) (.cons (v_bipush (v := (17 : Int32)) d_M_runs_442 (by decide +kernel)) .nil))
theorem d_M_runs_444 : decode y_M_runs.2.1 444 = .ok (.if_icmp .ne (7), 3) := by decide +kernel
theorem d_M_runs_451 : decode y_M_runs.2.1 451 = .ok (.iconst 4, 1) := by decide +kernel
theorem s_M_runs_451 : aw_VS y_M_runs 451 [o_c (.int (4 : Int32))] 452 := .cons (v_iconst (v := (4 : Int32)) d_M_runs_451 (by decide +kernel)) .nil
theorem d_M_runs_447 : decode y_M_runs.2.1 447 = .ok (.iconst 1, 1) := by decide +kernel
theorem s_M_runs_447 : aw_VS y_M_runs 447 [o_c (.int (1 : Int32))] 448 := .cons (v_iconst (v := (1 : Int32)) d_M_runs_447 (by decide +kernel)) .nil
theorem d_M_runs_448 : decode y_M_runs.2.1 448 = .ok (.goto (4), 3) := by decide +kernel
theorem d_M_runs_471 : decode y_M_runs.2.1 471 = .ok (.aload_n 0, 1) := by decide +kernel
theorem d_M_runs_472 : decode y_M_runs.2.1 472 = .ok (.getfield 60, 3) := by decide +kernel
theorem d_M_runs_475 : decode y_M_runs.2.1 475 = .ok (.iload 10, 2) := by decide +kernel
theorem d_M_runs_477 : decode y_M_runs.2.1 477 = .ok (.iload 4, 2) := by decide +kernel
theorem s_M_runs_471 : aw_VS y_M_runs 471 [o_ald 0, o_getA 9 37, o_ild 10, o_ild 4] 479 := .cons (v_aload_n (i := 0) d_M_runs_471 rfl) (.cons (v_getA (k := 37) k_M (by decide) rfl (Or.inl w_1498) d_M_runs_472) (.cons (v_iload (i := 10) d_M_runs_475) (.cons (v_iload (i := 4) d_M_runs_477) .nil)))
theorem d_M_runs_479 : decode y_M_runs.2.1 479 = .ok (.ifCond .lt (8), 3) := by decide +kernel
theorem d_M_runs_487 : decode y_M_runs.2.1 487 = .ok (.iload 5, 2) := by decide +kernel
theorem d_M_runs_489 : decode y_M_runs.2.1 489 = .ok (.aload_n 0, 1) := by decide +kernel
theorem d_M_runs_490 : decode y_M_runs.2.1 490 = .ok (.getfield 360, 3) := by decide +kernel
theorem s_M_runs_487 : aw_VS y_M_runs 487 [o_ild 5, o_ald 0, o_getI 9 35] 493 := .cons (v_iload (i := 5) d_M_runs_487) (.cons (v_aload_n (i := 0) d_M_runs_489 rfl) (.cons (v_getI (k := 35) k_M (by decide) (Or.inl rfl) (Or.inl w_1496) d_M_runs_490) .nil))
theorem d_M_runs_493 : decode y_M_runs.2.1 493 = .ok (.if_icmp .ge (25), 3) := by decide +kernel
theorem d_M_runs_518 : decode y_M_runs.2.1 518 = .ok (.iconst 0, 1) := by decide +kernel
theorem s_M_runs_518 : aw_VS y_M_runs 518 [o_c (.int (0 : Int32))] 519 := .cons (v_iconst (v := (0 : Int32)) d_M_runs_518 (by decide +kernel)) .nil
theorem d_M_runs_496 : decode y_M_runs.2.1 496 = .ok (.iload_n 2, 1) := by decide +kernel
theorem d_M_runs_497 : decode y_M_runs.2.1 497 = .ok (.aload_n 0, 1) := by decide +kernel
theorem d_M_runs_498 : decode y_M_runs.2.1 498 = .ok (.getfield 53, 3) := by decide +kernel
theorem d_M_runs_501 : decode y_M_runs.2.1 501 = .ok (.aload_n 0, 1) := by decide +kernel
theorem d_M_runs_502 : decode y_M_runs.2.1 502 = .ok (.getfield 57, 3) := by decide +kernel
theorem d_M_runs_505 : decode y_M_runs.2.1 505 = .ok (.iload 5, 2) := by decide +kernel
theorem d_M_runs_507 : decode y_M_runs.2.1 507 = .ok (.iadd, 1) := by decide +kernel
theorem d_M_runs_508 : decode y_M_runs.2.1 508 = .ok (.imul, 1) := by decide +kernel
theorem d_M_runs_509 : decode y_M_runs.2.1 509 = .ok (.ishr, 1) := by decide +kernel
theorem d_M_runs_510 : decode y_M_runs.2.1 510 = .ok (.aload_n 0, 1) := by decide +kernel
theorem s_M_runs_496 : aw_VS y_M_runs 496 [o_ild 2, o_ald 0, o_getI 9 33, o_ald 0, o_getI 9 34, o_ild 5, o_i2 (fun x z => x + z), o_i2 (fun x z => x * z), o_i2 (fun x z => x >>> (z &&& 31)), o_ald 0] 511 := .cons (v_iload_n (i := 2) d_M_runs_496 rfl) (.cons (v_aload_n (i := 0) d_M_runs_497 rfl) (.cons (v_getI (k := 33) k_M (by decide) (Or.inl rfl) (Or.inl w_1494) d_M_runs_498) (.cons (v_aload_n (i := 0) d_M_runs_501 rfl) (.cons (v_getI (k := 34) k_M (by decide) (Or.inl rfl) (Or.inl w_1495) d_M_runs_502) (.cons (v_iload (i := 5) d_M_runs_505) (.cons (v_iadd d_M_runs_507) (.cons (v_imul d_M_runs_508) (.cons (v_ishr d_M_runs_509) (.cons (v_aload_n (i := 0) d_M_runs_510 rfl) .nil)))))))))
theorem d_M_runs_511 : decode y_M_runs.2.1 511 = .ok (.invokevirtual 366, 3) := by decide +kernel
theorem d_M_runs_482 : decode y_M_runs.2.1 482 = .ok (.iload 4, 2) := by decide +kernel
theorem s_M_runs_482 : aw_VS y_M_runs 482 [o_ild 4] 484 := .cons (v_iload (i := 4) d_M_runs_482) .nil
theorem d_M_runs_484 : decode y_M_runs.2.1 484 = .ok (.goto (35), 3) := by decide +kernel
theorem d_M_runs_526 : decode y_M_runs.2.1 526 = .ok (.aload_n 0, 1) := by decide +kernel
theorem d_M_runs_527 : decode y_M_runs.2.1 527 = .ok (.iconst 0, 1) := by decide +kernel
theorem d_M_runs_528 : decode y_M_runs.2.1 528 = .ok (.iload 7, 2) := by decide +kernel
theorem s_M_runs_526 : aw_VS y_M_runs 526 [o_ald 0, o_c (.int (0 : Int32)), o_ild 7] 530 := .cons (v_aload_n (i := 0) d_M_runs_526 rfl) (.cons (v_iconst (v := (0 : Int32)) d_M_runs_527 (by decide +kernel)) (.cons (v_iload (i := 7) d_M_runs_528) .nil))
theorem d_M_runs_530 : decode y_M_runs.2.1 530 = .ok (.invokevirtual 402, 3) := by decide +kernel
theorem d_M_runs_534 : decode y_M_runs.2.1 534 = .ok (.aload_n 0, 1) := by decide +kernel
theorem d_M_runs_535 : decode y_M_runs.2.1 535 = .ok (.getfield 66, 3) := by decide +kernel
theorem d_M_runs_538 : decode y_M_runs.2.1 538 = .ok (.aload_n 0, 1) := by decide +kernel
theorem d_M_runs_539 : decode y_M_runs.2.1 539 = .ok (.getfield 231, 3) := by decide +kernel
theorem s_M_runs_534 : aw_VS y_M_runs 534 [o_ald 0, o_getA 9 39, o_ald 0, o_getI 9 25] 542 := .cons (v_aload_n (i := 0) d_M_runs_534 rfl) (.cons (v_getA (k := 39) k_M (by decide) rfl (Or.inl w_1500) d_M_runs_535) (.cons (v_aload_n (i := 0) d_M_runs_538 rfl) (.cons (v_getI (k := 25) k_M (by decide) (Or.inl rfl) (Or.inl w_1486) d_M_runs_539) .nil)))
theorem d_M_runs_542 : decode y_M_runs.2.1 542 = .ok (.iaload, 1) := by decide +kernel
theorem d_M_runs_543 : decode y_M_runs.2.1 543 = .ok (.iconst 1, 1) := by decide +kernel
theorem s_M_runs_543 : aw_VS y_M_runs 543 [o_c (.int (1 : Int32))] 544 := .cons (v_iconst (v := (1 : Int32)) d_M_runs_543 (by decide +kernel)) .nil
theorem d_M_runs_544 : decode y_M_runs.2.1 544 = .ok (.if_icmp .ne (7), 3) := by decide +kernel
theorem d_M_runs_551 : decode y_M_runs.2.1 551 = .ok (.iconst 0, 1) := by decide +kernel
theorem s_M_runs_551 : aw_VS y_M_runs 551 [o_c (.int (0 : Int32))] 552 := .cons (v_iconst (v := (0 : Int32)) d_M_runs_551 (by decide +kernel)) .nil
theorem d_M_runs_547 : decode y_M_runs.2.1 547 = .ok (.iconst 1, 1) := by decide +kernel
theorem s_M_runs_547 : aw_VS y_M_runs 547 [o_c (.int (1 : Int32))] 548 := .cons (v_iconst (v := (1 : Int32)) d_M_runs_547 (by decide +kernel)) .nil
theorem d_M_runs_548 : decode y_M_runs.2.1 548 = .ok (.goto (4), 3) := by decide +kernel
theorem d_M_runs_615 : decode y_M_runs.2.1 615 = .ok (.iload 10, 2) := by decide +kernel
theorem d_M_runs_617 : decode y_M_runs.2.1 617 = .ok (.istore 8, 2) := by decide +kernel
theorem s_M_runs_615 : aw_VS y_M_runs 615 [o_ild 10, o_ist 8] 619 := .cons (v_iload (i := 10) d_M_runs_615) (.cons (v_istore d_M_runs_617) .nil)
theorem d_M_runs_619 : decode y_M_runs.2.1 619 = .ok (.goto (44), 3) := by decide +kernel
theorem d_M_runs_622 : decode y_M_runs.2.1 622 = .ok (.aload_n 0, 1) := by decide +kernel
theorem d_M_runs_623 : decode y_M_runs.2.1 623 = .ok (.getfield 69, 3) := by decide +kernel
theorem d_M_runs_626 : decode y_M_runs.2.1 626 = .ok (.iload 6, 2) := by decide +kernel
theorem d_M_runs_628 : decode y_M_runs.2.1 628 = .ok (.iload 8, 2) := by decide +kernel
theorem s_M_runs_622 : aw_VS y_M_runs 622 [o_ald 0, o_getA 9 40, o_ild 6, o_ild 8] 630 := .cons (v_aload_n (i := 0) d_M_runs_622 rfl) (.cons (v_getA (k := 40) k_M (by decide) rfl (Or.inl w_1501) d_M_runs_623) (.cons (v_iload (i := 6) d_M_runs_626) (.cons (v_iload (i := 8) d_M_runs_628) .nil)))
theorem d_M_runs_630 : decode y_M_runs.2.1 630 = .ok (.iastore, 1) := by decide +kernel
theorem d_M_runs_631 : decode y_M_runs.2.1 631 = .ok (.iinc 6 (1), 3) := by decide +kernel
theorem d_M_runs_634 : decode y_M_runs.2.1 634 = .ok (.iload 10, 2) := by decide +kernel
theorem d_M_runs_636 : decode y_M_runs.2.1 636 = .ok (.istore 8, 2) := by decide +kernel
theorem s_M_runs_631 : aw_VS y_M_runs 631 [o_inc 6 (1 : Int32), o_ild 10, o_ist 8] 638 := .cons (v_iinc (k0 := (1 : Int32)) d_M_runs_631 (by decide +kernel)) (.cons (v_iload (i := 10) d_M_runs_634) (.cons (v_istore d_M_runs_636) .nil))
theorem d_M_runs_638 : decode y_M_runs.2.1 638 = .ok (.goto (25), 3) := by decide +kernel
theorem d_M_runs_641 : decode y_M_runs.2.1 641 = .ok (.iinc 6 (-1), 3) := by decide +kernel
theorem d_M_runs_644 : decode y_M_runs.2.1 644 = .ok (.aload_n 0, 1) := by decide +kernel
theorem d_M_runs_645 : decode y_M_runs.2.1 645 = .ok (.getfield 69, 3) := by decide +kernel
theorem d_M_runs_648 : decode y_M_runs.2.1 648 = .ok (.iload 6, 2) := by decide +kernel
theorem s_M_runs_641 : aw_VS y_M_runs 641 [o_inc 6 (-1 : Int32), o_ald 0, o_getA 9 40, o_ild 6] 650 := .cons (v_iinc (k0 := (-1 : Int32)) d_M_runs_641 (by decide +kernel)) (.cons (v_aload_n (i := 0) d_M_runs_644 rfl) (.cons (v_getA (k := 40) k_M (by decide) rfl (Or.inl w_1501) d_M_runs_645) (.cons (v_iload (i := 6) d_M_runs_648) .nil)))
theorem d_M_runs_650 : decode y_M_runs.2.1 650 = .ok (.iaload, 1) := by decide +kernel
theorem d_M_runs_651 : decode y_M_runs.2.1 651 = .ok (.istore 8, 2) := by decide +kernel
theorem s_M_runs_651 : aw_VS y_M_runs 651 [o_ist 8] 653 := .cons (v_istore d_M_runs_651) .nil
theorem d_M_runs_653 : decode y_M_runs.2.1 653 = .ok (.goto (10), 3) := by decide +kernel
theorem d_M_runs_656 : decode y_M_runs.2.1 656 = .ok (.aload_n 0, 1) := by decide +kernel
theorem d_M_runs_657 : decode y_M_runs.2.1 657 = .ok (.iconst 0, 1) := by decide +kernel
theorem d_M_runs_658 : decode y_M_runs.2.1 658 = .ok (.iconst (-1), 1) := by decide +kernel
theorem s_M_runs_656 : aw_VS y_M_runs 656 [o_ald 0, o_c (.int (0 : Int32)), o_c (.int (-1 : Int32))] 659 := .cons (v_aload_n (i := 0) d_M_runs_656 rfl) (.cons (v_iconst (v := (0 : Int32)) d_M_runs_657 (by decide +kernel)) (.cons (v_iconst (v := (-1 : Int32)) d_M_runs_658 (by decide +kernel)) .nil))
theorem d_M_runs_659 : decode y_M_runs.2.1 659 = .ok (.invokevirtual 402, 3) := by decide +kernel
theorem d_M_runs_137 : decode y_M_runs.2.1 137 = .ok (.aload_n 0, 1) := by decide +kernel
theorem d_M_runs_138 : decode y_M_runs.2.1 138 = .ok (.iload 11, 2) := by decide +kernel
theorem d_M_runs_140 : decode y_M_runs.2.1 140 = .ok (.iload 7, 2) := by decide +kernel
theorem s_M_runs_137 : aw_VS y_M_runs 137 [o_ald 0, o_ild 11, o_ild 7] 142 := .cons (v_aload_n (i := 0) d_M_runs_137 rfl) (.cons (v_iload (i := 11) d_M_runs_138) (.cons (v_iload (i := 7) d_M_runs_140) .nil))
theorem d_M_runs_142 : decode y_M_runs.2.1 142 = .ok (.invokevirtual 402, 3) := by decide +kernel
theorem d_M_runs_129 : decode y_M_runs.2.1 129 = .ok (.goto (-48), 3) := by decide +kernel
theorem b_M_runs_122 {X : aw_X} {d : Nat} {Q : Option Value → aw_H → Prop} {I : Nat → Nat → Int32} {L : Nat → Nat → Int64} {D : Nat → Nat} {v1 : Int32} {v2 : Int32} {v3 : Int32} {v4 : Int32} {v5 : Int32} {v6 : Int32} {v7 : Int32} {v8 : Int32} {v9 : Int32} {v10 : Int32} {s0 : Int32}
    (h1 : ¬ s0 = 0 → s0 ≤ 0 → v9 = (0 : Int32) → (I 69 48) ≤ 0 → aw_z X (d + 1) y_M_runs Q 304 [some (.ref 69), some (.int v1), some (.int v2), some (.int v3), some (.int v4), some (.int v5), some (.int v6), some (.int v10), some (.int v8), some (.int v9), none, none, none] [] (aw_s (aw_u I 69 44 ((I 69 44) + (1 : Int32))) (aw_u L 69 47 ((L 69 47) ||| ((1 : Int64) <<< (v10.toInt64 &&& 63)))) D))
    (h2 : ¬ s0 = 0 → s0 ≤ 0 → v9 = (0 : Int32) → ¬ (I 69 48) ≤ 0 → aw_m X d y_M_gather [.ref 69, .int v10] (aw_s (aw_u I 69 44 ((I 69 44) + (1 : Int32))) (aw_u L 69 47 ((L 69 47) ||| ((1 : Int64) <<< (v10.toInt64 &&& 63)))) D) (fun r A => aw_z X (d + 1) y_M_runs Q 304 [some (.ref 69), some (.int v1), some (.int v2), some (.int v3), some (.int v4), some (.int v5), some (.int v6), some (.int v10), some (.int v8), some (.int v9), none, none, none] (r.toList ++ []) A))
    (h3 : ¬ s0 = 0 → s0 ≤ 0 → ¬ v9 = (0 : Int32) → v9 = (1 : Int32) → (I 69 48) ≤ 0 → aw_z X (d + 1) y_M_runs Q 304 [some (.ref 69), some (.int v1), some (.int v2), some (.int v3), some (.int v4), some (.int v5), some (.int v6), some (.int v10), some (.int v8), some (.int v9), none, none, none] [] (aw_s (aw_u I 69 44 ((I 69 44) + (1 : Int32))) (aw_u L 69 47 ((L 69 47) ||| ((1 : Int64) <<< (v10.toInt64 &&& 63)))) D))
    (h4 : ¬ s0 = 0 → s0 ≤ 0 → ¬ v9 = (0 : Int32) → v9 = (1 : Int32) → ¬ (I 69 48) ≤ 0 → aw_m X d y_M_gather [.ref 69, .int v10] (aw_s (aw_u I 69 44 ((I 69 44) + (1 : Int32))) (aw_u L 69 47 ((L 69 47) ||| ((1 : Int64) <<< (v10.toInt64 &&& 63)))) D) (fun r A => aw_z X (d + 1) y_M_runs Q 304 [some (.ref 69), some (.int v1), some (.int v2), some (.int v3), some (.int v4), some (.int v5), some (.int v6), some (.int v10), some (.int v8), some (.int v9), none, none, none] (r.toList ++ []) A))
    (h5 : ¬ s0 = 0 → s0 ≤ 0 → ¬ v9 = (0 : Int32) → ¬ v9 = (1 : Int32) → v9 = (15 : Int32) → vp_in (I 69 25) 400)
    (h6 : ¬ s0 = 0 → s0 ≤ 0 → ¬ v9 = (0 : Int32) → ¬ v9 = (1 : Int32) → v9 = (15 : Int32) → vp_in v10 8)
    (h7 : ¬ s0 = 0 → s0 ≤ 0 → ¬ v9 = (0 : Int32) → ¬ v9 = (1 : Int32) → v9 = (15 : Int32) → aw_z X (d + 1) y_M_runs Q 81 [some (.ref 69), some (.int v1), some (.int v2), some (.int v3), some (.int v4), some (.int v5), some (.int v6), some (.int v7), some (.int v8), none, none, none, none] [] (aw_s (aw_u (aw_u I 84 v10.toNatClampNeg (I 86 ((I 69 25).toNatClampNeg))) 69 25 ((I 69 25) - (1 : Int32))) L D))
    (h8 : ¬ s0 = 0 → s0 ≤ 0 → ¬ v9 = (0 : Int32) → ¬ v9 = (1 : Int32) → ¬ v9 = (15 : Int32) → v9 = (16 : Int32) → vp_in ((I 69 25) - (1 : Int32)) 400)
    (h9 : ¬ s0 = 0 → s0 ≤ 0 → ¬ v9 = (0 : Int32) → ¬ v9 = (1 : Int32) → ¬ v9 = (15 : Int32) → v9 = (16 : Int32) → (I 86 (((I 69 25) - (1 : Int32)).toNatClampNeg)) ≤ (7 : Int32) → vp_in ((I 69 25) - (1 : Int32)) 400)
    (h10 : ¬ s0 = 0 → s0 ≤ 0 → ¬ v9 = (0 : Int32) → ¬ v9 = (1 : Int32) → ¬ v9 = (15 : Int32) → v9 = (16 : Int32) → (I 86 (((I 69 25) - (1 : Int32)).toNatClampNeg)) ≤ (7 : Int32) → vp_in (I 69 25) 400)
    (h11 : ¬ s0 = 0 → s0 ≤ 0 → ¬ v9 = (0 : Int32) → ¬ v9 = (1 : Int32) → ¬ v9 = (15 : Int32) → v9 = (16 : Int32) → (I 86 (((I 69 25) - (1 : Int32)).toNatClampNeg)) ≤ (7 : Int32) → vp_in (I 86 (((I 69 25) - (1 : Int32)).toNatClampNeg)) 8)
    (h12 : ¬ s0 = 0 → s0 ≤ 0 → ¬ v9 = (0 : Int32) → ¬ v9 = (1 : Int32) → ¬ v9 = (15 : Int32) → v9 = (16 : Int32) → (I 86 (((I 69 25) - (1 : Int32)).toNatClampNeg)) ≤ (7 : Int32) → aw_z X (d + 1) y_M_runs Q 81 [some (.ref 69), some (.int v1), some (.int v2), some (.int v3), some (.int v4), some (.int v5), some (.int v6), some (.int v7), some (.int v8), none, none, none, none] [] (aw_s (aw_u (aw_u I 85 ((I 86 (((I 69 25) - (1 : Int32)).toNatClampNeg)).toNatClampNeg) (I 86 ((I 69 25).toNatClampNeg))) 69 25 ((I 69 25) - (2 : Int32))) L D))
    (h13 : ¬ s0 = 0 → s0 ≤ 0 → ¬ v9 = (0 : Int32) → ¬ v9 = (1 : Int32) → ¬ v9 = (15 : Int32) → v9 = (16 : Int32) → ¬ (I 86 (((I 69 25) - (1 : Int32)).toNatClampNeg)) ≤ (7 : Int32) → aw_m X d y_M_ends [.ref 69, .int (3 : Int32), .int v7] (aw_s I L D) (fun r A => aw_z X (d + 1) y_M_runs Q 388 [none, none, none, none, none, none, none, none, none, none, none, none, none] (r.toList ++ []) A))
    (h14 : ¬ s0 = 0 → s0 ≤ 0 → ¬ v9 = (0 : Int32) → ¬ v9 = (1 : Int32) → ¬ v9 = (15 : Int32) → ¬ v9 = (16 : Int32) → v9 = (17 : Int32) → vp_in (I 69 25) 400)
    (h15 : ¬ s0 = 0 → s0 ≤ 0 → ¬ v9 = (0 : Int32) → ¬ v9 = (1 : Int32) → ¬ v9 = (15 : Int32) → ¬ v9 = (16 : Int32) → v9 = (17 : Int32) → ¬ (I 86 ((I 69 25).toNatClampNeg)) = 0 → aw_z X (d + 1) y_M_runs Q 81 [some (.ref 69), some (.int v1), some (.int v2), some (.int v3), some (.int v4), some (.int v5), some (.int v6), some (.int v7), some (.int v8), none, none, none, none] [] (aw_s (aw_u I 69 25 ((I 69 25) - (1 : Int32))) L D))
    (h16 : ¬ s0 = 0 → s0 ≤ 0 → ¬ v9 = (0 : Int32) → ¬ v9 = (1 : Int32) → ¬ v9 = (15 : Int32) → ¬ v9 = (16 : Int32) → v9 = (17 : Int32) → (I 86 ((I 69 25).toNatClampNeg)) = 0 → ¬ v9 = (17 : Int32) → aw_z X (d + 1) y_M_runs Q 452 [none, none, none, none, none, none, none, some (.int v7), none, none, none, none, none] [.int (4 : Int32), .ref 69] (aw_s I L D))
    (h17 : ¬ s0 = 0 → s0 ≤ 0 → ¬ v9 = (0 : Int32) → ¬ v9 = (1 : Int32) → ¬ v9 = (15 : Int32) → ¬ v9 = (16 : Int32) → v9 = (17 : Int32) → (I 86 ((I 69 25).toNatClampNeg)) = 0 → v9 = (17 : Int32) → aw_z X (d + 1) y_M_runs Q 452 [none, none, none, none, none, none, none, some (.int v7), none, none, none, none, none] [.int (1 : Int32), .ref 69] (aw_s I L D))
    (h18 : ¬ s0 = 0 → s0 ≤ 0 → ¬ v9 = (0 : Int32) → ¬ v9 = (1 : Int32) → ¬ v9 = (15 : Int32) → ¬ v9 = (16 : Int32) → ¬ v9 = (17 : Int32) → v9 = (18 : Int32) → vp_in (I 69 25) 400)
    (h19 : ¬ s0 = 0 → s0 ≤ 0 → ¬ v9 = (0 : Int32) → ¬ v9 = (1 : Int32) → ¬ v9 = (15 : Int32) → ¬ v9 = (16 : Int32) → ¬ v9 = (17 : Int32) → v9 = (18 : Int32) → ¬ (I 86 ((I 69 25).toNatClampNeg)) = 0 → aw_z X (d + 1) y_M_runs Q 81 [some (.ref 69), some (.int v1), some (.int v2), some (.int v3), some (.int v4), some (.int v5), some (.int v6), some (.int v7), some (.int v8), none, none, none, none] [] (aw_s (aw_u I 69 25 ((I 69 25) - (1 : Int32))) L D))
    (h20 : ¬ s0 = 0 → s0 ≤ 0 → ¬ v9 = (0 : Int32) → ¬ v9 = (1 : Int32) → ¬ v9 = (15 : Int32) → ¬ v9 = (16 : Int32) → ¬ v9 = (17 : Int32) → v9 = (18 : Int32) → (I 86 ((I 69 25).toNatClampNeg)) = 0 → ¬ v9 = (17 : Int32) → aw_z X (d + 1) y_M_runs Q 452 [none, none, none, none, none, none, none, some (.int v7), none, none, none, none, none] [.int (4 : Int32), .ref 69] (aw_s I L D))
    (h21 : ¬ s0 = 0 → s0 ≤ 0 → ¬ v9 = (0 : Int32) → ¬ v9 = (1 : Int32) → ¬ v9 = (15 : Int32) → ¬ v9 = (16 : Int32) → ¬ v9 = (17 : Int32) → v9 = (18 : Int32) → (I 86 ((I 69 25).toNatClampNeg)) = 0 → v9 = (17 : Int32) → aw_z X (d + 1) y_M_runs Q 452 [none, none, none, none, none, none, none, some (.int v7), none, none, none, none, none] [.int (1 : Int32), .ref 69] (aw_s I L D))
    (h22 : ¬ s0 = 0 → s0 ≤ 0 → ¬ v9 = (0 : Int32) → ¬ v9 = (1 : Int32) → ¬ v9 = (15 : Int32) → ¬ v9 = (16 : Int32) → ¬ v9 = (17 : Int32) → ¬ v9 = (18 : Int32) → v9 = (19 : Int32) → v4 < 0 → (I 69 35) ≤ v5 → aw_z X (d + 1) y_M_runs Q 519 [some (.ref 69), some (.int v1), some (.int v2), some (.int v3), some (.int v4), some (.int v5), some (.int v6), some (.int v7), some (.int v8), none, none, none, none] [.int (0 : Int32), .int v10, .ref 84] (aw_s I L D))
    (h23 : ¬ s0 = 0 → s0 ≤ 0 → ¬ v9 = (0 : Int32) → ¬ v9 = (1 : Int32) → ¬ v9 = (15 : Int32) → ¬ v9 = (16 : Int32) → ¬ v9 = (17 : Int32) → ¬ v9 = (18 : Int32) → v9 = (19 : Int32) → v4 < 0 → ¬ (I 69 35) ≤ v5 → aw_m X d y_M_mask [.ref 69] (aw_s I L D) (fun r A => aw_z X (d + 1) y_M_runs Q 514 [some (.ref 69), some (.int v1), some (.int v2), some (.int v3), some (.int v4), some (.int v5), some (.int v6), some (.int v7), some (.int v8), none, none, none, none] (r.toList ++ [.int (v2 >>> (((I 69 33) * ((I 69 34) + v5)) &&& 31)), .int v10, .ref 84]) A))
    (h24 : ¬ s0 = 0 → s0 ≤ 0 → ¬ v9 = (0 : Int32) → ¬ v9 = (1 : Int32) → ¬ v9 = (15 : Int32) → ¬ v9 = (16 : Int32) → ¬ v9 = (17 : Int32) → ¬ v9 = (18 : Int32) → v9 = (19 : Int32) → ¬ v4 < 0 → aw_z X (d + 1) y_M_runs Q 519 [some (.ref 69), some (.int v1), some (.int v2), some (.int v3), some (.int v4), some (.int v5), some (.int v6), some (.int v7), some (.int v8), none, none, none, none] [.int v4, .int v10, .ref 84] (aw_s I L D))
    (h25 : ¬ s0 = 0 → s0 ≤ 0 → ¬ v9 = (0 : Int32) → ¬ v9 = (1 : Int32) → ¬ v9 = (15 : Int32) → ¬ v9 = (16 : Int32) → ¬ v9 = (17 : Int32) → ¬ v9 = (18 : Int32) → ¬ v9 = (19 : Int32) → v9 = (20 : Int32) → aw_m X d y_M_ends [.ref 69, .int (0 : Int32), .int v7] (aw_s I L D) (fun r A => aw_z X (d + 1) y_M_runs Q 533 [none, none, none, none, none, none, none, none, none, none, none, none, none] (r.toList ++ []) A))
    (h26 : ¬ s0 = 0 → s0 ≤ 0 → ¬ v9 = (0 : Int32) → ¬ v9 = (1 : Int32) → ¬ v9 = (15 : Int32) → ¬ v9 = (16 : Int32) → ¬ v9 = (17 : Int32) → ¬ v9 = (18 : Int32) → ¬ v9 = (19 : Int32) → ¬ v9 = (20 : Int32) → v9 = (21 : Int32) → vp_in (I 69 25) 400)
    (h27 : ¬ s0 = 0 → s0 ≤ 0 → ¬ v9 = (0 : Int32) → ¬ v9 = (1 : Int32) → ¬ v9 = (15 : Int32) → ¬ v9 = (16 : Int32) → ¬ v9 = (17 : Int32) → ¬ v9 = (18 : Int32) → ¬ v9 = (19 : Int32) → ¬ v9 = (20 : Int32) → v9 = (21 : Int32) → ¬ (I 86 ((I 69 25).toNatClampNeg)) = (1 : Int32) → aw_z X (d + 1) y_M_runs Q 552 [some (.ref 69), some (.int v1), some (.int v2), some (.int v3), some (.int v4), some (.int v5), some (.int v6), some (.int v7), some (.int v8), none, some (.int v10), none, none] [.int (0 : Int32)] (aw_s I L D))
    (h28 : ¬ s0 = 0 → s0 ≤ 0 → ¬ v9 = (0 : Int32) → ¬ v9 = (1 : Int32) → ¬ v9 = (15 : Int32) → ¬ v9 = (16 : Int32) → ¬ v9 = (17 : Int32) → ¬ v9 = (18 : Int32) → ¬ v9 = (19 : Int32) → ¬ v9 = (20 : Int32) → v9 = (21 : Int32) → (I 86 ((I 69 25).toNatClampNeg)) = (1 : Int32) → aw_z X (d + 1) y_M_runs Q 552 [some (.ref 69), some (.int v1), some (.int v2), some (.int v3), some (.int v4), some (.int v5), some (.int v6), some (.int v7), some (.int v8), none, some (.int v10), none, none] [.int (1 : Int32)] (aw_s I L D))
    (h29 : ¬ s0 = 0 → s0 ≤ 0 → ¬ v9 = (0 : Int32) → ¬ v9 = (1 : Int32) → ¬ v9 = (15 : Int32) → ¬ v9 = (16 : Int32) → ¬ v9 = (17 : Int32) → ¬ v9 = (18 : Int32) → ¬ v9 = (19 : Int32) → ¬ v9 = (20 : Int32) → ¬ v9 = (21 : Int32) → v9 = (22 : Int32) → aw_z X (d + 1) y_M_runs Q 81 [some (.ref 69), some (.int v1), some (.int v2), some (.int v3), some (.int v4), some (.int v5), some (.int v6), some (.int v7), some (.int v10), none, none, none, none] [] (aw_s I L D))
    (h30 : ¬ s0 = 0 → s0 ≤ 0 → ¬ v9 = (0 : Int32) → ¬ v9 = (1 : Int32) → ¬ v9 = (15 : Int32) → ¬ v9 = (16 : Int32) → ¬ v9 = (17 : Int32) → ¬ v9 = (18 : Int32) → ¬ v9 = (19 : Int32) → ¬ v9 = (20 : Int32) → ¬ v9 = (21 : Int32) → ¬ v9 = (22 : Int32) → v9 = (23 : Int32) → vp_in v6 8)
    (h31 : ¬ s0 = 0 → s0 ≤ 0 → ¬ v9 = (0 : Int32) → ¬ v9 = (1 : Int32) → ¬ v9 = (15 : Int32) → ¬ v9 = (16 : Int32) → ¬ v9 = (17 : Int32) → ¬ v9 = (18 : Int32) → ¬ v9 = (19 : Int32) → ¬ v9 = (20 : Int32) → ¬ v9 = (21 : Int32) → ¬ v9 = (22 : Int32) → v9 = (23 : Int32) → aw_z X (d + 1) y_M_runs Q 81 [some (.ref 69), some (.int v1), some (.int v2), some (.int v3), some (.int v4), some (.int v5), some (.int (v6 + (1 : Int32))), some (.int v7), some (.int v10), none, none, none, none] [] (aw_s (aw_u I 87 v6.toNatClampNeg v8) L D))
    (h32 : ¬ s0 = 0 → s0 ≤ 0 → ¬ v9 = (0 : Int32) → ¬ v9 = (1 : Int32) → ¬ v9 = (15 : Int32) → ¬ v9 = (16 : Int32) → ¬ v9 = (17 : Int32) → ¬ v9 = (18 : Int32) → ¬ v9 = (19 : Int32) → ¬ v9 = (20 : Int32) → ¬ v9 = (21 : Int32) → ¬ v9 = (22 : Int32) → ¬ v9 = (23 : Int32) → v9 = (24 : Int32) → vp_in (v6 + (-1 : Int32)) 8)
    (h33 : ¬ s0 = 0 → s0 ≤ 0 → ¬ v9 = (0 : Int32) → ¬ v9 = (1 : Int32) → ¬ v9 = (15 : Int32) → ¬ v9 = (16 : Int32) → ¬ v9 = (17 : Int32) → ¬ v9 = (18 : Int32) → ¬ v9 = (19 : Int32) → ¬ v9 = (20 : Int32) → ¬ v9 = (21 : Int32) → ¬ v9 = (22 : Int32) → ¬ v9 = (23 : Int32) → v9 = (24 : Int32) → aw_z X (d + 1) y_M_runs Q 81 [some (.ref 69), some (.int v1), some (.int v2), some (.int v3), some (.int v4), some (.int v5), some (.int (v6 + (-1 : Int32))), some (.int v7), some (.int (I 87 ((v6 + (-1 : Int32)).toNatClampNeg))), none, none, none, none] [] (aw_s I L D))
    (h34 : ¬ s0 = 0 → s0 ≤ 0 → ¬ v9 = (0 : Int32) → ¬ v9 = (1 : Int32) → ¬ v9 = (15 : Int32) → ¬ v9 = (16 : Int32) → ¬ v9 = (17 : Int32) → ¬ v9 = (18 : Int32) → ¬ v9 = (19 : Int32) → ¬ v9 = (20 : Int32) → ¬ v9 = (21 : Int32) → ¬ v9 = (22 : Int32) → ¬ v9 = (23 : Int32) → ¬ v9 = (24 : Int32) → aw_m X d y_M_ends [.ref 69, .int (0 : Int32), .int (-1 : Int32)] (aw_s I L D) (fun r A => aw_z X (d + 1) y_M_runs Q 662 [none, none, none, none, none, none, none, none, none, none, none, none, none] (r.toList ++ []) A))
    (h35 : ¬ s0 = 0 → ¬ s0 ≤ 0 → aw_m X d y_M_ends [.ref 69, .int s0, .int v7] (aw_s I L D) (fun r A => aw_z X (d + 1) y_M_runs Q 145 [none, none, none, none, none, none, none, none, none, none, none, none, none] (r.toList ++ []) A))
    (h36 : s0 = 0 → aw_z X (d + 1) y_M_runs Q 81 [some (.ref 69), some (.int v1), some (.int v2), some (.int v3), some (.int v4), some (.int v5), some (.int v6), some (.int v7), some (.int v8), none, none, none, none] [] (aw_s I L D)) :
    aw_z X (d + 1) y_M_runs Q 122 [some (.ref 69), some (.int v1), some (.int v2), some (.int v3), some (.int v4), some (.int v5), some (.int v6), some (.int v7), some (.int v8), some (.int v9), some (.int v10), none, none] [.int s0] (aw_s I L D) :=
  (s_M_runs_122.go [some (.ref 69), some (.int v1), some (.int v2), some (.int v3), some (.int v4), some (.int v5), some (.int v6), some (.int v7), some (.int v8), some (.int v9), some (.int v10), some (.int s0), none] [.int s0] (aw_s I L D) rfl (z_if_ne (tgt := 132) d_M_runs_126 rfl (fun q1 => (s_M_runs_132.go [some (.ref 69), some (.int v1), some (.int v2), some (.int v3), some (.int v4), some (.int v5), some (.int v6), some (.int v7), some (.int v8), some (.int v9), some (.int v10), some (.int s0), none] [.int s0] (aw_s I L D) rfl (z_if_le (tgt := 146) d_M_runs_134 rfl (fun q3 => (s_M_runs_146.go [some (.ref 69), some (.int v1), some (.int v2), some (.int v3), some (.int v4), some (.int v5), some (.int v6), some (.int v7), some (.int v8), some (.int v9), some (.int v10), some (.int s0), none] [.int v9] (aw_s I L D) rfl (Decidable.byCases (fun q5 => z_tableIn (off := 116) (tgt := 264) d_M_runs_148 (by rw [q5]; decide +kernel) (by rw [q5]; decide +kernel) (by rw [q5]; decide +kernel) rfl (s_M_runs_264.go [some (.ref 69), some (.int v1), some (.int v2), some (.int v3), some (.int v4), some (.int v5), some (.int v6), some (.int v10), some (.int v8), some (.int v9), some (.int v10), some (.int s0), none] [.int (I 69 48)] (aw_s (aw_u I 69 44 ((I 69 44) + (1 : Int32))) (aw_u L 69 47 ((L 69 47) ||| ((1 : Int64) <<< (v10.toInt64 &&& 63)))) D) rfl (z_if_le (tgt := 304) d_M_runs_295 rfl (fun q6 => (aw_Z.weak (ls' := [some (.ref 69), some (.int v1), some (.int v2), some (.int v3), some (.int v4), some (.int v5), some (.int v6), some (.int v10), some (.int v8), some (.int v9), none, none, none]) (h1 q1 q3 q5 q6) (Nat.le_of_ble_eq_true rfl) ⟨Or.inr rfl, ⟨Or.inr rfl, ⟨Or.inr rfl, ⟨Or.inr rfl, ⟨Or.inr rfl, ⟨Or.inr rfl, ⟨Or.inr rfl, ⟨Or.inr rfl, ⟨Or.inr rfl, ⟨Or.inr rfl, ⟨Or.inl rfl, ⟨Or.inl rfl, ⟨Or.inl rfl, trivial⟩⟩⟩⟩⟩⟩⟩⟩⟩⟩⟩⟩⟩)) (fun q7 => (s_M_runs_298.go [some (.ref 69), some (.int v1), some (.int v2), some (.int v3), some (.int v4), some (.int v5), some (.int v6), some (.int v10), some (.int v8), some (.int v9), some (.int v10), some (.int s0), none] [.int v10, .ref 69] (aw_s (aw_u I 69 44 ((I 69 44) + (1 : Int32))) (aw_u L 69 47 ((L 69 47) ||| ((1 : Int64) <<< (v10.toInt64 &&& 63)))) D) rfl (z_callV (av := [.int v10]) (st := []) ok_M_gather (Or.inl w_1951) w_1953 w_114 k_M d_M_runs_301 rfl (aw_lt (o := 69) rfl) rfl rfl (Nat.le_of_ble_eq_true rfl) (Nat.le_refl _) (Nat.le_refl _) (aw_C.mono (h2 q1 q3 q5 q7) (fun _ _ zz => aw_Z.weak (ls' := [some (.ref 69), some (.int v1), some (.int v2), some (.int v3), some (.int v4), some (.int v5), some (.int v6), some (.int v10), some (.int v8), some (.int v9), none, none, none]) zz (Nat.le_of_ble_eq_true rfl) ⟨Or.inr rfl, ⟨Or.inr rfl, ⟨Or.inr rfl, ⟨Or.inr rfl, ⟨Or.inr rfl, ⟨Or.inr rfl, ⟨Or.inr rfl, ⟨Or.inr rfl, ⟨Or.inr rfl, ⟨Or.inr rfl, ⟨Or.inl rfl, ⟨Or.inl rfl, ⟨Or.inl rfl, trivial⟩⟩⟩⟩⟩⟩⟩⟩⟩⟩⟩⟩⟩)))))))) (fun q5n => (Decidable.byCases (fun q8 => z_tableIn (off := 116) (tgt := 264) d_M_runs_148 (by rw [q8]; decide +kernel) (by rw [q8]; decide +kernel) (by rw [q8]; decide +kernel) rfl (s_M_runs_264.go [some (.ref 69), some (.int v1), some (.int v2), some (.int v3), some (.int v4), some (.int v5), some (.int v6), some (.int v10), some (.int v8), some (.int v9), some (.int v10), some (.int s0), none] [.int (I 69 48)] (aw_s (aw_u I 69 44 ((I 69 44) + (1 : Int32))) (aw_u L 69 47 ((L 69 47) ||| ((1 : Int64) <<< (v10.toInt64 &&& 63)))) D) rfl (z_if_le (tgt := 304) d_M_runs_295 rfl (fun q9 => (aw_Z.weak (ls' := [some (.ref 69), some (.int v1), some (.int v2), some (.int v3), some (.int v4), some (.int v5), some (.int v6), some (.int v10), some (.int v8), some (.int v9), none, none, none]) (h3 q1 q3 q5n q8 q9) (Nat.le_of_ble_eq_true rfl) ⟨Or.inr rfl, ⟨Or.inr rfl, ⟨Or.inr rfl, ⟨Or.inr rfl, ⟨Or.inr rfl, ⟨Or.inr rfl, ⟨Or.inr rfl, ⟨Or.inr rfl, ⟨Or.inr rfl, ⟨Or.inr rfl, ⟨Or.inl rfl, ⟨Or.inl rfl, ⟨Or.inl rfl, trivial⟩⟩⟩⟩⟩⟩⟩⟩⟩⟩⟩⟩⟩)) (fun q10 => (s_M_runs_298.go [some (.ref 69), some (.int v1), some (.int v2), some (.int v3), some (.int v4), some (.int v5), some (.int v6), some (.int v10), some (.int v8), some (.int v9), some (.int v10), some (.int s0), none] [.int v10, .ref 69] (aw_s (aw_u I 69 44 ((I 69 44) + (1 : Int32))) (aw_u L 69 47 ((L 69 47) ||| ((1 : Int64) <<< (v10.toInt64 &&& 63)))) D) rfl (z_callV (av := [.int v10]) (st := []) ok_M_gather (Or.inl w_1951) w_1953 w_114 k_M d_M_runs_301 rfl (aw_lt (o := 69) rfl) rfl rfl (Nat.le_of_ble_eq_true rfl) (Nat.le_refl _) (Nat.le_refl _) (aw_C.mono (h4 q1 q3 q5n q8 q10) (fun _ _ zz => aw_Z.weak (ls' := [some (.ref 69), some (.int v1), some (.int v2), some (.int v3), some (.int v4), some (.int v5), some (.int v6), some (.int v10), some (.int v8), some (.int v9), none, none, none]) zz (Nat.le_of_ble_eq_true rfl) ⟨Or.inr rfl, ⟨Or.inr rfl, ⟨Or.inr rfl, ⟨Or.inr rfl, ⟨Or.inr rfl, ⟨Or.inr rfl, ⟨Or.inr rfl, ⟨Or.inr rfl, ⟨Or.inr rfl, ⟨Or.inr rfl, ⟨Or.inl rfl, ⟨Or.inl rfl, ⟨Or.inl rfl, trivial⟩⟩⟩⟩⟩⟩⟩⟩⟩⟩⟩⟩⟩)))))))) (fun q8n => (Decidable.byCases (fun q11 => z_tableIn (off := 188) (tgt := 336) d_M_runs_148 (by rw [q11]; decide +kernel) (by rw [q11]; decide +kernel) (by rw [q11]; decide +kernel) rfl (s_M_runs_336.go [some (.ref 69), some (.int v1), some (.int v2), some (.int v3), some (.int v4), some (.int v5), some (.int v6), some (.int v7), some (.int v8), some (.int v9), some (.int v10), some (.int s0), none] [.int (I 69 25), .ref 86, .int v10, .ref 84] (aw_s I L D) rfl (z_iald (n := 400) rfl (aw_lt (o := 86) rfl) (h5 q1 q3 q5n q8n q11) d_M_runs_350 (z_iast (n := 8) rfl (aw_lt (o := 84) rfl) (h6 q1 q3 q5n q8n q11) d_M_runs_351 (s_M_runs_352.go [some (.ref 69), some (.int v1), some (.int v2), some (.int v3), some (.int v4), some (.int v5), some (.int v6), some (.int v7), some (.int v8), some (.int v9), some (.int v10), some (.int s0), none] [] (aw_s (aw_u (aw_u I 84 v10.toNatClampNeg (I 86 ((I 69 25).toNatClampNeg))) 69 25 ((I 69 25) - (1 : Int32))) L D) rfl (z_goto (tgt := 663) d_M_runs_362 rfl (z_goto (tgt := 81) d_M_runs_663 rfl (aw_Z.weak (ls' := [some (.ref 69), some (.int v1), some (.int v2), some (.int v3), some (.int v4), some (.int v5), some (.int v6), some (.int v7), some (.int v8), none, none, none, none]) (h7 q1 q3 q5n q8n q11) (Nat.le_of_ble_eq_true rfl) ⟨Or.inr rfl, ⟨Or.inr rfl, ⟨Or.inr rfl, ⟨Or.inr rfl, ⟨Or.inr rfl, ⟨Or.inr rfl, ⟨Or.inr rfl, ⟨Or.inr rfl, ⟨Or.inr rfl, ⟨Or.inl rfl, ⟨Or.inl rfl, ⟨Or.inl rfl, ⟨Or.inl rfl, trivial⟩⟩⟩⟩⟩⟩⟩⟩⟩⟩⟩⟩⟩)))))))) (fun q11n => (Decidable.byCases (fun q12 => z_tableIn (off := 217) (tgt := 365) d_M_runs_148 (by rw [q12]; decide +kernel) (by rw [q12]; decide +kernel) (by rw [q12]; decide +kernel) rfl (s_M_runs_365.go [some (.ref 69), some (.int v1), some (.int v2), some (.int v3), some (.int v4), some (.int v5), some (.int v6), some (.int v7), some (.int v8), some (.int v9), some (.int v10), some (.int s0), none] [.int ((I 69 25) - (1 : Int32)), .ref 86] (aw_s I L D) rfl (z_iald (n := 400) rfl (aw_lt (o := 86) rfl) (h8 q1 q3 q5n q8n q11n q12) d_M_runs_375 (s_M_runs_376.go [some (.ref 69), some (.int v1), some (.int v2), some (.int v3), some (.int v4), some (.int v5), some (.int v6), some (.int v7), some (.int v8), some (.int v9), some (.int v10), some (.int s0), none] [.int (7 : Int32), .int (I 86 (((I 69 25) - (1 : Int32)).toNatClampNeg))] (aw_s I L D) rfl (z_icmp_le (tgt := 389) d_M_runs_378 rfl (fun q13 => (s_M_runs_389.go [some (.ref 69), some (.int v1), some (.int v2), some (.int v3), some (.int v4), some (.int v5), some (.int v6), some (.int v7), some (.int v8), some (.int v9), some (.int v10), some (.int s0), none] [.int ((I 69 25) - (1 : Int32)), .ref 86, .ref 85] (aw_s I L D) rfl (z_iald (n := 400) rfl (aw_lt (o := 86) rfl) (h9 q1 q3 q5n q8n q11n q12 q13) d_M_runs_403 (s_M_runs_404.go [some (.ref 69), some (.int v1), some (.int v2), some (.int v3), some (.int v4), some (.int v5), some (.int v6), some (.int v7), some (.int v8), some (.int v9), some (.int v10), some (.int s0), none] [.int (I 69 25), .ref 86, .int (I 86 (((I 69 25) - (1 : Int32)).toNatClampNeg)), .ref 85] (aw_s I L D) rfl (z_iald (n := 400) rfl (aw_lt (o := 86) rfl) (h10 q1 q3 q5n q8n q11n q12 q13) d_M_runs_412 (z_iast (n := 8) rfl (aw_lt (o := 85) rfl) (h11 q1 q3 q5n q8n q11n q12 q13) d_M_runs_413 (s_M_runs_414.go [some (.ref 69), some (.int v1), some (.int v2), some (.int v3), some (.int v4), some (.int v5), some (.int v6), some (.int v7), some (.int v8), some (.int v9), some (.int v10), some (.int s0), none] [] (aw_s (aw_u (aw_u I 85 ((I 86 (((I 69 25) - (1 : Int32)).toNatClampNeg)).toNatClampNeg) (I 86 ((I 69 25).toNatClampNeg))) 69 25 ((I 69 25) - (2 : Int32))) L D) rfl (z_goto (tgt := 663) d_M_runs_424 rfl (z_goto (tgt := 81) d_M_runs_663 rfl (aw_Z.weak (ls' := [some (.ref 69), some (.int v1), some (.int v2), some (.int v3), some (.int v4), some (.int v5), some (.int v6), some (.int v7), some (.int v8), none, none, none, none]) (h12 q1 q3 q5n q8n q11n q12 q13) (Nat.le_of_ble_eq_true rfl) ⟨Or.inr rfl, ⟨Or.inr rfl, ⟨Or.inr rfl, ⟨Or.inr rfl, ⟨Or.inr rfl, ⟨Or.inr rfl, ⟨Or.inr rfl, ⟨Or.inr rfl, ⟨Or.inr rfl, ⟨Or.inl rfl, ⟨Or.inl rfl, ⟨Or.inl rfl, ⟨Or.inl rfl, trivial⟩⟩⟩⟩⟩⟩⟩⟩⟩⟩⟩⟩⟩)))))))))) (fun q14 => (s_M_runs_381.go [some (.ref 69), some (.int v1), some (.int v2), some (.int v3), some (.int v4), some (.int v5), some (.int v6), some (.int v7), some (.int v8), some (.int v9), some (.int v10), some (.int s0), none] [.int v7, .int (3 : Int32), .ref 69] (aw_s I L D) rfl (z_callV (av := [.int (3 : Int32), .int v7]) (st := []) ok_M_ends (Or.inl w_1947) w_1949 w_113 k_M d_M_runs_385 rfl (aw_lt (o := 69) rfl) rfl rfl (Nat.le_of_ble_eq_true rfl) (Nat.le_refl _) (Nat.le_refl _) (aw_C.mono (h13 q1 q3 q5n q8n q11n q12 q14) (fun _ _ zz => aw_Z.weak (ls' := [none, none, none, none, none, none, none, none, none, none, none, none, none]) zz (Nat.le_of_ble_eq_true rfl) ⟨Or.inl rfl, ⟨Or.inl rfl, ⟨Or.inl rfl, ⟨Or.inl rfl, ⟨Or.inl rfl, ⟨Or.inl rfl, ⟨Or.inl rfl, ⟨Or.inl rfl, ⟨Or.inl rfl, ⟨Or.inl rfl, ⟨Or.inl rfl, ⟨Or.inl rfl, ⟨Or.inl rfl, trivial⟩⟩⟩⟩⟩⟩⟩⟩⟩⟩⟩⟩⟩)))))))))) (fun q12n => (Decidable.byCases (fun q15 => z_tableIn (off := 279) (tgt := 427) d_M_runs_148 (by rw [q15]; decide +kernel) (by rw [q15]; decide +kernel) (by rw [q15]; decide +kernel) rfl (s_M_runs_427.go [some (.ref 69), some (.int v1), some (.int v2), some (.int v3), some (.int v4), some (.int v5), some (.int v6), some (.int v7), some (.int v8), some (.int v9), some (.int v10), some (.int s0), none] [.int (I 69 25), .ref 86] (aw_s I L D) rfl (z_iald (n := 400) rfl (aw_lt (o := 86) rfl) (h14 q1 q3 q5n q8n q11n q12n q15) d_M_runs_435 (z_if_ne (tgt := 458) d_M_runs_436 rfl (fun q16 => (s_M_runs_458.go [some (.ref 69), some (.int v1), some (.int v2), some (.int v3), some (.int v4), some (.int v5), some (.int v6), some (.int v7), some (.int v8), some (.int v9), some (.int v10), some (.int s0), none] [] (aw_s (aw_u I 69 25 ((I 69 25) - (1 : Int32))) L D) rfl (z_goto (tgt := 663) d_M_runs_468 rfl (z_goto (tgt := 81) d_M_runs_663 rfl (aw_Z.weak (ls' := [some (.ref 69), some (.int v1), some (.int v2), some (.int v3), some (.int v4), some (.int v5), some (.int v6), some (.int v7), some (.int v8), none, none, none, none]) (h15 q1 q3 q5n q8n q11n q12n q15 q16) (Nat.le_of_ble_eq_true rfl) ⟨Or.inr rfl, ⟨Or.inr rfl, ⟨Or.inr rfl, ⟨Or.inr rfl, ⟨Or.inr rfl, ⟨Or.inr rfl, ⟨Or.inr rfl, ⟨Or.inr rfl, ⟨Or.inr rfl, ⟨Or.inl rfl, ⟨Or.inl rfl, ⟨Or.inl rfl, ⟨Or.inl rfl, trivial⟩⟩⟩⟩⟩⟩⟩⟩⟩⟩⟩⟩⟩))))) (fun q17 => (s_M_runs_439.go [some (.ref 69), some (.int v1), some (.int v2), some (.int v3), some (.int v4), some (.int v5), some (.int v6), some (.int v7), some (.int v8), some (.int v9), some (.int v10), some (.int s0), none] [.int (17 : Int32), .int v9, .ref 69] (aw_s I L D) rfl (z_icmp_ne (tgt := 451) d_M_runs_444 rfl (fun q18 => (s_M_runs_451.go [some (.ref 69), some (.int v1), some (.int v2), some (.int v3), some (.int v4), some (.int v5), some (.int v6), some (.int v7), some (.int v8), some (.int v9), some (.int v10), some (.int s0), none] [.int (4 : Int32), .ref 69] (aw_s I L D) rfl (aw_Z.weak (ls' := [none, none, none, none, none, none, none, some (.int v7), none, none, none, none, none]) (h16 q1 q3 q5n q8n q11n q12n q15 q17 q18) (Nat.le_of_ble_eq_true rfl) ⟨Or.inl rfl, ⟨Or.inl rfl, ⟨Or.inl rfl, ⟨Or.inl rfl, ⟨Or.inl rfl, ⟨Or.inl rfl, ⟨Or.inl rfl, ⟨Or.inr rfl, ⟨Or.inl rfl, ⟨Or.inl rfl, ⟨Or.inl rfl, ⟨Or.inl rfl, ⟨Or.inl rfl, trivial⟩⟩⟩⟩⟩⟩⟩⟩⟩⟩⟩⟩⟩))) (fun q19 => (s_M_runs_447.go [some (.ref 69), some (.int v1), some (.int v2), some (.int v3), some (.int v4), some (.int v5), some (.int v6), some (.int v7), some (.int v8), some (.int v9), some (.int v10), some (.int s0), none] [.int (1 : Int32), .ref 69] (aw_s I L D) rfl (z_goto (tgt := 452) d_M_runs_448 rfl (aw_Z.weak (ls' := [none, none, none, none, none, none, none, some (.int v7), none, none, none, none, none]) (h17 q1 q3 q5n q8n q11n q12n q15 q17 q19) (Nat.le_of_ble_eq_true rfl) ⟨Or.inl rfl, ⟨Or.inl rfl, ⟨Or.inl rfl, ⟨Or.inl rfl, ⟨Or.inl rfl, ⟨Or.inl rfl, ⟨Or.inl rfl, ⟨Or.inr rfl, ⟨Or.inl rfl, ⟨Or.inl rfl, ⟨Or.inl rfl, ⟨Or.inl rfl, ⟨Or.inl rfl, trivial⟩⟩⟩⟩⟩⟩⟩⟩⟩⟩⟩⟩⟩))))))))))) (fun q15n => (Decidable.byCases (fun q20 => z_tableIn (off := 279) (tgt := 427) d_M_runs_148 (by rw [q20]; decide +kernel) (by rw [q20]; decide +kernel) (by rw [q20]; decide +kernel) rfl (s_M_runs_427.go [some (.ref 69), some (.int v1), some (.int v2), some (.int v3), some (.int v4), some (.int v5), some (.int v6), some (.int v7), some (.int v8), some (.int v9), some (.int v10), some (.int s0), none] [.int (I 69 25), .ref 86] (aw_s I L D) rfl (z_iald (n := 400) rfl (aw_lt (o := 86) rfl) (h18 q1 q3 q5n q8n q11n q12n q15n q20) d_M_runs_435 (z_if_ne (tgt := 458) d_M_runs_436 rfl (fun q21 => (s_M_runs_458.go [some (.ref 69), some (.int v1), some (.int v2), some (.int v3), some (.int v4), some (.int v5), some (.int v6), some (.int v7), some (.int v8), some (.int v9), some (.int v10), some (.int s0), none] [] (aw_s (aw_u I 69 25 ((I 69 25) - (1 : Int32))) L D) rfl (z_goto (tgt := 663) d_M_runs_468 rfl (z_goto (tgt := 81) d_M_runs_663 rfl (aw_Z.weak (ls' := [some (.ref 69), some (.int v1), some (.int v2), some (.int v3), some (.int v4), some (.int v5), some (.int v6), some (.int v7), some (.int v8), none, none, none, none]) (h19 q1 q3 q5n q8n q11n q12n q15n q20 q21) (Nat.le_of_ble_eq_true rfl) ⟨Or.inr rfl, ⟨Or.inr rfl, ⟨Or.inr rfl, ⟨Or.inr rfl, ⟨Or.inr rfl, ⟨Or.inr rfl, ⟨Or.inr rfl, ⟨Or.inr rfl, ⟨Or.inr rfl, ⟨Or.inl rfl, ⟨Or.inl rfl, ⟨Or.inl rfl, ⟨Or.inl rfl, trivial⟩⟩⟩⟩⟩⟩⟩⟩⟩⟩⟩⟩⟩))))) (fun q22 => (s_M_runs_439.go [some (.ref 69), some (.int v1), some (.int v2), some (.int v3), some (.int v4), some (.int v5), some (.int v6), some (.int v7), some (.int v8), some (.int v9), some (.int v10), some (.int s0), none] [.int (17 : Int32), .int v9, .ref 69] (aw_s I L D) rfl (z_icmp_ne (tgt := 451) d_M_runs_444 rfl (fun q23 => (s_M_runs_451.go [some (.ref 69), some (.int v1), some (.int v2), some (.int v3), some (.int v4), some (.int v5), some (.int v6), some (.int v7), some (.int v8), some (.int v9), some (.int v10), some (.int s0), none] [.int (4 : Int32), .ref 69] (aw_s I L D) rfl (aw_Z.weak (ls' := [none, none, none, none, none, none, none, some (.int v7), none, none, none, none, none]) (h20 q1 q3 q5n q8n q11n q12n q15n q20 q22 q23) (Nat.le_of_ble_eq_true rfl) ⟨Or.inl rfl, ⟨Or.inl rfl, ⟨Or.inl rfl, ⟨Or.inl rfl, ⟨Or.inl rfl, ⟨Or.inl rfl, ⟨Or.inl rfl, ⟨Or.inr rfl, ⟨Or.inl rfl, ⟨Or.inl rfl, ⟨Or.inl rfl, ⟨Or.inl rfl, ⟨Or.inl rfl, trivial⟩⟩⟩⟩⟩⟩⟩⟩⟩⟩⟩⟩⟩))) (fun q24 => (s_M_runs_447.go [some (.ref 69), some (.int v1), some (.int v2), some (.int v3), some (.int v4), some (.int v5), some (.int v6), some (.int v7), some (.int v8), some (.int v9), some (.int v10), some (.int s0), none] [.int (1 : Int32), .ref 69] (aw_s I L D) rfl (z_goto (tgt := 452) d_M_runs_448 rfl (aw_Z.weak (ls' := [none, none, none, none, none, none, none, some (.int v7), none, none, none, none, none]) (h21 q1 q3 q5n q8n q11n q12n q15n q20 q22 q24) (Nat.le_of_ble_eq_true rfl) ⟨Or.inl rfl, ⟨Or.inl rfl, ⟨Or.inl rfl, ⟨Or.inl rfl, ⟨Or.inl rfl, ⟨Or.inl rfl, ⟨Or.inl rfl, ⟨Or.inr rfl, ⟨Or.inl rfl, ⟨Or.inl rfl, ⟨Or.inl rfl, ⟨Or.inl rfl, ⟨Or.inl rfl, trivial⟩⟩⟩⟩⟩⟩⟩⟩⟩⟩⟩⟩⟩))))))))))) (fun q20n => (Decidable.byCases (fun q25 => z_tableIn (off := 323) (tgt := 471) d_M_runs_148 (by rw [q25]; decide +kernel) (by rw [q25]; decide +kernel) (by rw [q25]; decide +kernel) rfl (s_M_runs_471.go [some (.ref 69), some (.int v1), some (.int v2), some (.int v3), some (.int v4), some (.int v5), some (.int v6), some (.int v7), some (.int v8), some (.int v9), some (.int v10), some (.int s0), none] [.int v4, .int v10, .ref 84] (aw_s I L D) rfl (z_if_lt (tgt := 487) d_M_runs_479 rfl (fun q26 => (s_M_runs_487.go [some (.ref 69), some (.int v1), some (.int v2), some (.int v3), some (.int v4), some (.int v5), some (.int v6), some (.int v7), some (.int v8), some (.int v9), some (.int v10), some (.int s0), none] [.int (I 69 35), .int v5, .int v10, .ref 84] (aw_s I L D) rfl (z_icmp_ge (tgt := 518) d_M_runs_493 rfl (fun q28 => (s_M_runs_518.go [some (.ref 69), some (.int v1), some (.int v2), some (.int v3), some (.int v4), some (.int v5), some (.int v6), some (.int v7), some (.int v8), some (.int v9), some (.int v10), some (.int s0), none] [.int (0 : Int32), .int v10, .ref 84] (aw_s I L D) rfl (aw_Z.weak (ls' := [some (.ref 69), some (.int v1), some (.int v2), some (.int v3), some (.int v4), some (.int v5), some (.int v6), some (.int v7), some (.int v8), none, none, none, none]) (h22 q1 q3 q5n q8n q11n q12n q15n q20n q25 q26 q28) (Nat.le_of_ble_eq_true rfl) ⟨Or.inr rfl, ⟨Or.inr rfl, ⟨Or.inr rfl, ⟨Or.inr rfl, ⟨Or.inr rfl, ⟨Or.inr rfl, ⟨Or.inr rfl, ⟨Or.inr rfl, ⟨Or.inr rfl, ⟨Or.inl rfl, ⟨Or.inl rfl, ⟨Or.inl rfl, ⟨Or.inl rfl, trivial⟩⟩⟩⟩⟩⟩⟩⟩⟩⟩⟩⟩⟩))) (fun q29 => (s_M_runs_496.go [some (.ref 69), some (.int v1), some (.int v2), some (.int v3), some (.int v4), some (.int v5), some (.int v6), some (.int v7), some (.int v8), some (.int v9), some (.int v10), some (.int s0), none] [.ref 69, .int (v2 >>> (((I 69 33) * ((I 69 34) + v5)) &&& 31)), .int v10, .ref 84] (aw_s I L D) rfl (z_callV (av := []) (st := [.int (v2 >>> (((I 69 33) * ((I 69 34) + v5)) &&& 31)), .int v10, .ref 84]) ok_M_mask (Or.inl w_1931) w_1933 w_109 k_M d_M_runs_511 rfl (aw_lt (o := 69) rfl) rfl rfl (Nat.le_of_ble_eq_true rfl) (Nat.le_refl _) (Nat.le_refl _) (aw_C.mono (h23 q1 q3 q5n q8n q11n q12n q15n q20n q25 q26 q29) (fun _ _ zz => aw_Z.weak (ls' := [some (.ref 69), some (.int v1), some (.int v2), some (.int v3), some (.int v4), some (.int v5), some (.int v6), some (.int v7), some (.int v8), none, none, none, none]) zz (Nat.le_of_ble_eq_true rfl) ⟨Or.inr rfl, ⟨Or.inr rfl, ⟨Or.inr rfl, ⟨Or.inr rfl, ⟨Or.inr rfl, ⟨Or.inr rfl, ⟨Or.inr rfl, ⟨Or.inr rfl, ⟨Or.inr rfl, ⟨Or.inl rfl, ⟨Or.inl rfl, ⟨Or.inl rfl, ⟨Or.inl rfl, trivial⟩⟩⟩⟩⟩⟩⟩⟩⟩⟩⟩⟩⟩)))))))) (fun q27 => (s_M_runs_482.go [some (.ref 69), some (.int v1), some (.int v2), some (.int v3), some (.int v4), some (.int v5), some (.int v6), some (.int v7), some (.int v8), some (.int v9), some (.int v10), some (.int s0), none] [.int v4, .int v10, .ref 84] (aw_s I L D) rfl (z_goto (tgt := 519) d_M_runs_484 rfl (aw_Z.weak (ls' := [some (.ref 69), some (.int v1), some (.int v2), some (.int v3), some (.int v4), some (.int v5), some (.int v6), some (.int v7), some (.int v8), none, none, none, none]) (h24 q1 q3 q5n q8n q11n q12n q15n q20n q25 q27) (Nat.le_of_ble_eq_true rfl) ⟨Or.inr rfl, ⟨Or.inr rfl, ⟨Or.inr rfl, ⟨Or.inr rfl, ⟨Or.inr rfl, ⟨Or.inr rfl, ⟨Or.inr rfl, ⟨Or.inr rfl, ⟨Or.inr rfl, ⟨Or.inl rfl, ⟨Or.inl rfl, ⟨Or.inl rfl, ⟨Or.inl rfl, trivial⟩⟩⟩⟩⟩⟩⟩⟩⟩⟩⟩⟩⟩))))))) (fun q25n => (Decidable.byCases (fun q30 => z_tableIn (off := 378) (tgt := 526) d_M_runs_148 (by rw [q30]; decide +kernel) (by rw [q30]; decide +kernel) (by rw [q30]; decide +kernel) rfl (s_M_runs_526.go [some (.ref 69), some (.int v1), some (.int v2), some (.int v3), some (.int v4), some (.int v5), some (.int v6), some (.int v7), some (.int v8), some (.int v9), some (.int v10), some (.int s0), none] [.int v7, .int (0 : Int32), .ref 69] (aw_s I L D) rfl (z_callV (av := [.int (0 : Int32), .int v7]) (st := []) ok_M_ends (Or.inl w_1947) w_1949 w_113 k_M d_M_runs_530 rfl (aw_lt (o := 69) rfl) rfl rfl (Nat.le_of_ble_eq_true rfl) (Nat.le_refl _) (Nat.le_refl _) (aw_C.mono (h25 q1 q3 q5n q8n q11n q12n q15n q20n q25n q30) (fun _ _ zz => aw_Z.weak (ls' := [none, none, none, none, none, none, none, none, none, none, none, none, none]) zz (Nat.le_of_ble_eq_true rfl) ⟨Or.inl rfl, ⟨Or.inl rfl, ⟨Or.inl rfl, ⟨Or.inl rfl, ⟨Or.inl rfl, ⟨Or.inl rfl, ⟨Or.inl rfl, ⟨Or.inl rfl, ⟨Or.inl rfl, ⟨Or.inl rfl, ⟨Or.inl rfl, ⟨Or.inl rfl, ⟨Or.inl rfl, trivial⟩⟩⟩⟩⟩⟩⟩⟩⟩⟩⟩⟩⟩))))) (fun q30n => (Decidable.byCases (fun q31 => z_tableIn (off := 386) (tgt := 534) d_M_runs_148 (by rw [q31]; decide +kernel) (by rw [q31]; decide +kernel) (by rw [q31]; decide +kernel) rfl (s_M_runs_534.go [some (.ref 69), some (.int v1), some (.int v2), some (.int v3), some (.int v4), some (.int v5), some (.int v6), some (.int v7), some (.int v8), some (.int v9), some (.int v10), some (.int s0), none] [.int (I 69 25), .ref 86] (aw_s I L D) rfl (z_iald (n := 400) rfl (aw_lt (o := 86) rfl) (h26 q1 q3 q5n q8n q11n q12n q15n q20n q25n q30n q31) d_M_runs_542 (s_M_runs_543.go [some (.ref 69), some (.int v1), some (.int v2), some (.int v3), some (.int v4), some (.int v5), some (.int v6), some (.int v7), some (.int v8), some (.int v9), some (.int v10), some (.int s0), none] [.int (1 : Int32), .int (I 86 ((I 69 25).toNatClampNeg))] (aw_s I L D) rfl (z_icmp_ne (tgt := 551) d_M_runs_544 rfl (fun q32 => (s_M_runs_551.go [some (.ref 69), some (.int v1), some (.int v2), some (.int v3), some (.int v4), some (.int v5), some (.int v6), some (.int v7), some (.int v8), some (.int v9), some (.int v10), some (.int s0), none] [.int (0 : Int32)] (aw_s I L D) rfl (aw_Z.weak (ls' := [some (.ref 69), some (.int v1), some (.int v2), some (.int v3), some (.int v4), some (.int v5), some (.int v6), some (.int v7), some (.int v8), none, some (.int v10), none, none]) (h27 q1 q3 q5n q8n q11n q12n q15n q20n q25n q30n q31 q32) (Nat.le_of_ble_eq_true rfl) ⟨Or.inr rfl, ⟨Or.inr rfl, ⟨Or.inr rfl, ⟨Or.inr rfl, ⟨Or.inr rfl, ⟨Or.inr rfl, ⟨Or.inr rfl, ⟨Or.inr rfl, ⟨Or.inr rfl, ⟨Or.inl rfl, ⟨Or.inr rfl, ⟨Or.inl rfl, ⟨Or.inl rfl, trivial⟩⟩⟩⟩⟩⟩⟩⟩⟩⟩⟩⟩⟩))) (fun q33 => (s_M_runs_547.go [some (.ref 69), some (.int v1), some (.int v2), some (.int v3), some (.int v4), some (.int v5), some (.int v6), some (.int v7), some (.int v8), some (.int v9), some (.int v10), some (.int s0), none] [.int (1 : Int32)] (aw_s I L D) rfl (z_goto (tgt := 552) d_M_runs_548 rfl (aw_Z.weak (ls' := [some (.ref 69), some (.int v1), some (.int v2), some (.int v3), some (.int v4), some (.int v5), some (.int v6), some (.int v7), some (.int v8), none, some (.int v10), none, none]) (h28 q1 q3 q5n q8n q11n q12n q15n q20n q25n q30n q31 q33) (Nat.le_of_ble_eq_true rfl) ⟨Or.inr rfl, ⟨Or.inr rfl, ⟨Or.inr rfl, ⟨Or.inr rfl, ⟨Or.inr rfl, ⟨Or.inr rfl, ⟨Or.inr rfl, ⟨Or.inr rfl, ⟨Or.inr rfl, ⟨Or.inl rfl, ⟨Or.inr rfl, ⟨Or.inl rfl, ⟨Or.inl rfl, trivial⟩⟩⟩⟩⟩⟩⟩⟩⟩⟩⟩⟩⟩))))))))) (fun q31n => (Decidable.byCases (fun q34 => z_tableIn (off := 467) (tgt := 615) d_M_runs_148 (by rw [q34]; decide +kernel) (by rw [q34]; decide +kernel) (by rw [q34]; decide +kernel) rfl (s_M_runs_615.go [some (.ref 69), some (.int v1), some (.int v2), some (.int v3), some (.int v4), some (.int v5), some (.int v6), some (.int v7), some (.int v10), some (.int v9), some (.int v10), some (.int s0), none] [] (aw_s I L D) rfl (z_goto (tgt := 663) d_M_runs_619 rfl (z_goto (tgt := 81) d_M_runs_663 rfl (aw_Z.weak (ls' := [some (.ref 69), some (.int v1), some (.int v2), some (.int v3), some (.int v4), some (.int v5), some (.int v6), some (.int v7), some (.int v10), none, none, none, none]) (h29 q1 q3 q5n q8n q11n q12n q15n q20n q25n q30n q31n q34) (Nat.le_of_ble_eq_true rfl) ⟨Or.inr rfl, ⟨Or.inr rfl, ⟨Or.inr rfl, ⟨Or.inr rfl, ⟨Or.inr rfl, ⟨Or.inr rfl, ⟨Or.inr rfl, ⟨Or.inr rfl, ⟨Or.inr rfl, ⟨Or.inl rfl, ⟨Or.inl rfl, ⟨Or.inl rfl, ⟨Or.inl rfl, trivial⟩⟩⟩⟩⟩⟩⟩⟩⟩⟩⟩⟩⟩))))) (fun q34n => (Decidable.byCases (fun q35 => z_tableIn (off := 474) (tgt := 622) d_M_runs_148 (by rw [q35]; decide +kernel) (by rw [q35]; decide +kernel) (by rw [q35]; decide +kernel) rfl (s_M_runs_622.go [some (.ref 69), some (.int v1), some (.int v2), some (.int v3), some (.int v4), some (.int v5), some (.int v6), some (.int v7), some (.int v8), some (.int v9), some (.int v10), some (.int s0), none] [.int v8, .int v6, .ref 87] (aw_s I L D) rfl (z_iast (n := 8) rfl (aw_lt (o := 87) rfl) (h30 q1 q3 q5n q8n q11n q12n q15n q20n q25n q30n q31n q34n q35) d_M_runs_630 (s_M_runs_631.go [some (.ref 69), some (.int v1), some (.int v2), some (.int v3), some (.int v4), some (.int v5), some (.int (v6 + (1 : Int32))), some (.int v7), some (.int v10), some (.int v9), some (.int v10), some (.int s0), none] [] (aw_s (aw_u I 87 v6.toNatClampNeg v8) L D) rfl (z_goto (tgt := 663) d_M_runs_638 rfl (z_goto (tgt := 81) d_M_runs_663 rfl (aw_Z.weak (ls' := [some (.ref 69), some (.int v1), some (.int v2), some (.int v3), some (.int v4), some (.int v5), some (.int (v6 + (1 : Int32))), some (.int v7), some (.int v10), none, none, none, none]) (h31 q1 q3 q5n q8n q11n q12n q15n q20n q25n q30n q31n q34n q35) (Nat.le_of_ble_eq_true rfl) ⟨Or.inr rfl, ⟨Or.inr rfl, ⟨Or.inr rfl, ⟨Or.inr rfl, ⟨Or.inr rfl, ⟨Or.inr rfl, ⟨Or.inr rfl, ⟨Or.inr rfl, ⟨Or.inr rfl, ⟨Or.inl rfl, ⟨Or.inl rfl, ⟨Or.inl rfl, ⟨Or.inl rfl, trivial⟩⟩⟩⟩⟩⟩⟩⟩⟩⟩⟩⟩⟩))))))) (fun q35n => (Decidable.byCases (fun q36 => z_tableIn (off := 493) (tgt := 641) d_M_runs_148 (by rw [q36]; decide +kernel) (by rw [q36]; decide +kernel) (by rw [q36]; decide +kernel) rfl (s_M_runs_641.go [some (.ref 69), some (.int v1), some (.int v2), some (.int v3), some (.int v4), some (.int v5), some (.int (v6 + (-1 : Int32))), some (.int v7), some (.int v8), some (.int v9), some (.int v10), some (.int s0), none] [.int (v6 + (-1 : Int32)), .ref 87] (aw_s I L D) rfl (z_iald (n := 8) rfl (aw_lt (o := 87) rfl) (h32 q1 q3 q5n q8n q11n q12n q15n q20n q25n q30n q31n q34n q35n q36) d_M_runs_650 (s_M_runs_651.go [some (.ref 69), some (.int v1), some (.int v2), some (.int v3), some (.int v4), some (.int v5), some (.int (v6 + (-1 : Int32))), some (.int v7), some (.int (I 87 ((v6 + (-1 : Int32)).toNatClampNeg))), some (.int v9), some (.int v10), some (.int s0), none] [] (aw_s I L D) rfl (z_goto (tgt := 663) d_M_runs_653 rfl (z_goto (tgt := 81) d_M_runs_663 rfl (aw_Z.weak (ls' := [some (.ref 69), some (.int v1), some (.int v2), some (.int v3), some (.int v4), some (.int v5), some (.int (v6 + (-1 : Int32))), some (.int v7), some (.int (I 87 ((v6 + (-1 : Int32)).toNatClampNeg))), none, none, none, none]) (h33 q1 q3 q5n q8n q11n q12n q15n q20n q25n q30n q31n q34n q35n q36) (Nat.le_of_ble_eq_true rfl) ⟨Or.inr rfl, ⟨Or.inr rfl, ⟨Or.inr rfl, ⟨Or.inr rfl, ⟨Or.inr rfl, ⟨Or.inr rfl, ⟨Or.inr rfl, ⟨Or.inr rfl, ⟨Or.inr rfl, ⟨Or.inl rfl, ⟨Or.inl rfl, ⟨Or.inl rfl, ⟨Or.inl rfl, trivial⟩⟩⟩⟩⟩⟩⟩⟩⟩⟩⟩⟩⟩))))))) (fun q36n => z_tableD (tgt := 656) d_M_runs_148 (if g1 : v9.toInt < 0 then Or.inl (Or.inl g1) else if g2 : 24 < v9.toInt then Or.inl (Or.inr g2) else Or.inr ⟨g1, g2, by have := aw_swout q5n (a := 0) rfl; have := aw_swout q8n (a := 1) rfl; have := aw_swout q11n (a := 15) rfl; have := aw_swout q12n (a := 16) rfl; have := aw_swout q15n (a := 17) rfl; have := aw_swout q20n (a := 18) rfl; have := aw_swout q25n (a := 19) rfl; have := aw_swout q30n (a := 20) rfl; have := aw_swout q31n (a := 21) rfl; have := aw_swout q34n (a := 22) rfl; have := aw_swout q35n (a := 23) rfl; have := aw_swout q36n (a := 24) rfl; have h9 : v9.toInt = 2 ∨ v9.toInt = 3 ∨ v9.toInt = 4 ∨ v9.toInt = 5 ∨ v9.toInt = 6 ∨ v9.toInt = 7 ∨ v9.toInt = 8 ∨ v9.toInt = 9 ∨ v9.toInt = 10 ∨ v9.toInt = 11 ∨ v9.toInt = 12 ∨ v9.toInt = 13 ∨ v9.toInt = 14 := (by omega); rcases h9 with h | h | h | h | h | h | h | h | h | h | h | h | h <;> (rw [h]; try rfl)⟩) rfl (s_M_runs_656.go [some (.ref 69), some (.int v1), some (.int v2), some (.int v3), some (.int v4), some (.int v5), some (.int v6), some (.int v7), some (.int v8), some (.int v9), some (.int v10), some (.int s0), none] [.int (-1 : Int32), .int (0 : Int32), .ref 69] (aw_s I L D) rfl (z_callV (av := [.int (0 : Int32), .int (-1 : Int32)]) (st := []) ok_M_ends (Or.inl w_1947) w_1949 w_113 k_M d_M_runs_659 rfl (aw_lt (o := 69) rfl) rfl rfl (Nat.le_of_ble_eq_true rfl) (Nat.le_refl _) (Nat.le_refl _) (aw_C.mono (h34 q1 q3 q5n q8n q11n q12n q15n q20n q25n q30n q31n q34n q35n q36n) (fun _ _ zz => aw_Z.weak (ls' := [none, none, none, none, none, none, none, none, none, none, none, none, none]) zz (Nat.le_of_ble_eq_true rfl) ⟨Or.inl rfl, ⟨Or.inl rfl, ⟨Or.inl rfl, ⟨Or.inl rfl, ⟨Or.inl rfl, ⟨Or.inl rfl, ⟨Or.inl rfl, ⟨Or.inl rfl, ⟨Or.inl rfl, ⟨Or.inl rfl, ⟨Or.inl rfl, ⟨Or.inl rfl, ⟨Or.inl rfl, trivial⟩⟩⟩⟩⟩⟩⟩⟩⟩⟩⟩⟩⟩)))))))))))))))))))))))))))))) (fun q4 => (s_M_runs_137.go [some (.ref 69), some (.int v1), some (.int v2), some (.int v3), some (.int v4), some (.int v5), some (.int v6), some (.int v7), some (.int v8), some (.int v9), some (.int v10), some (.int s0), none] [.int v7, .int s0, .ref 69] (aw_s I L D) rfl (z_callV (av := [.int s0, .int v7]) (st := []) ok_M_ends (Or.inl w_1947) w_1949 w_113 k_M d_M_runs_142 rfl (aw_lt (o := 69) rfl) rfl rfl (Nat.le_of_ble_eq_true rfl) (Nat.le_refl _) (Nat.le_refl _) (aw_C.mono (h35 q1 q4) (fun _ _ zz => aw_Z.weak (ls' := [none, none, none, none, none, none, none, none, none, none, none, none, none]) zz (Nat.le_of_ble_eq_true rfl) ⟨Or.inl rfl, ⟨Or.inl rfl, ⟨Or.inl rfl, ⟨Or.inl rfl, ⟨Or.inl rfl, ⟨Or.inl rfl, ⟨Or.inl rfl, ⟨Or.inl rfl, ⟨Or.inl rfl, ⟨Or.inl rfl, ⟨Or.inl rfl, ⟨Or.inl rfl, ⟨Or.inl rfl, trivial⟩⟩⟩⟩⟩⟩⟩⟩⟩⟩⟩⟩⟩)))))))) (fun q2 => (z_goto (tgt := 81) d_M_runs_129 rfl (aw_Z.weak (ls' := [some (.ref 69), some (.int v1), some (.int v2), some (.int v3), some (.int v4), some (.int v5), some (.int v6), some (.int v7), some (.int v8), none, none, none, none]) (h36 q2) (Nat.le_of_ble_eq_true rfl) ⟨Or.inr rfl, ⟨Or.inr rfl, ⟨Or.inr rfl, ⟨Or.inr rfl, ⟨Or.inr rfl, ⟨Or.inr rfl, ⟨Or.inr rfl, ⟨Or.inr rfl, ⟨Or.inr rfl, ⟨Or.inl rfl, ⟨Or.inl rfl, ⟨Or.inl rfl, ⟨Or.inl rfl, trivial⟩⟩⟩⟩⟩⟩⟩⟩⟩⟩⟩⟩⟩)))))
theorem d_M_runs_304 : decode y_M_runs.2.1 304 = .ok (.aload_n 0, 1) := by decide +kernel
theorem d_M_runs_305 : decode y_M_runs.2.1 305 = .ok (.getfield 381, 3) := by decide +kernel
theorem d_M_runs_308 : decode y_M_runs.2.1 308 = .ok (.sipush 1000, 3) := by decide +kernel
theorem s_M_runs_304 : aw_VS y_M_runs 304 [o_ald 0, o_getI 9 44, o_c (.int (1000 : Int32))] 311 := .cons (v_aload_n (i := 0) d_M_runs_304 rfl) (.cons (v_getI (k := 44) k_M (by decide) (Or.inl rfl) (Or.inl w_1505) d_M_runs_305) (.cons (v_sipush (v := (1000 : Int32)) d_M_runs_308 (by decide +kernel)) .nil))
theorem d_M_runs_311 : decode y_M_runs.2.1 311 = .ok (.if_icmp .gt (17), 3) := by decide +kernel
theorem d_M_runs_314 : decode y_M_runs.2.1 314 = .ok (.iload 9, 2) := by decide +kernel
theorem d_M_runs_316 : decode y_M_runs.2.1 316 = .ok (.iconst 1, 1) := by decide +kernel
theorem s_M_runs_314 : aw_VS y_M_runs 314 [o_ild 9, o_c (.int (1 : Int32))] 317 := .cons (v_iload (i := 9) d_M_runs_314) (.cons (v_iconst (v := (1 : Int32)) d_M_runs_316 (by decide +kernel)) .nil)
theorem d_M_runs_317 : decode y_M_runs.2.1 317 = .ok (.if_icmp .ne (346), 3) := by decide +kernel
theorem d_M_runs_320 : decode y_M_runs.2.1 320 = .ok (.aload_n 0, 1) := by decide +kernel
theorem d_M_runs_321 : decode y_M_runs.2.1 321 = .ok (.getfield 384, 3) := by decide +kernel
theorem d_M_runs_324 : decode y_M_runs.2.1 324 = .ok (.iload_n 3, 1) := by decide +kernel
theorem s_M_runs_320 : aw_VS y_M_runs 320 [o_ald 0, o_getI 9 45, o_ild 3] 325 := .cons (v_aload_n (i := 0) d_M_runs_320 rfl) (.cons (v_getI (k := 45) k_M (by decide) (Or.inl rfl) (Or.inl w_1506) d_M_runs_321) (.cons (v_iload_n (i := 3) d_M_runs_324 rfl) .nil))
theorem d_M_runs_325 : decode y_M_runs.2.1 325 = .ok (.if_icmp .ne (338), 3) := by decide +kernel
theorem b_M_runs_304 {X : aw_X} {d : Nat} {Q : Option Value → aw_H → Prop} {I : Nat → Nat → Int32} {L : Nat → Nat → Int64} {D : Nat → Nat} {v1 : Int32} {v2 : Int32} {v3 : Int32} {v4 : Int32} {v5 : Int32} {v6 : Int32} {v7 : Int32} {v8 : Int32} {v9 : Int32}
    (h1 : (1000 : Int32) < (I 69 44) → aw_z X (d + 1) y_M_runs Q 328 [some (.ref 69), none, none, none, none, none, none, some (.int v7), none, none, none, none, none] [] (aw_s I L D))
    (h2 : ¬ (1000 : Int32) < (I 69 44) → ¬ v9 = (1 : Int32) → aw_z X (d + 1) y_M_runs Q 81 [some (.ref 69), some (.int v1), some (.int v2), some (.int v3), some (.int v4), some (.int v5), some (.int v6), some (.int v7), some (.int v8), none, none, none, none] [] (aw_s I L D))
    (h3 : ¬ (1000 : Int32) < (I 69 44) → v9 = (1 : Int32) → ¬ (I 69 45) = v3 → aw_z X (d + 1) y_M_runs Q 81 [some (.ref 69), some (.int v1), some (.int v2), some (.int v3), some (.int v4), some (.int v5), some (.int v6), some (.int v7), some (.int v8), none, none, none, none] [] (aw_s I L D))
    (h4 : ¬ (1000 : Int32) < (I 69 44) → v9 = (1 : Int32) → (I 69 45) = v3 → aw_z X (d + 1) y_M_runs Q 328 [some (.ref 69), none, none, none, none, none, none, some (.int v7), none, none, none, none, none] [] (aw_s I L D)) :
    aw_z X (d + 1) y_M_runs Q 304 [some (.ref 69), some (.int v1), some (.int v2), some (.int v3), some (.int v4), some (.int v5), some (.int v6), some (.int v7), some (.int v8), some (.int v9), none, none, none] [] (aw_s I L D) :=
  (s_M_runs_304.go [some (.ref 69), some (.int v1), some (.int v2), some (.int v3), some (.int v4), some (.int v5), some (.int v6), some (.int v7), some (.int v8), some (.int v9), none, none, none] [.int (1000 : Int32), .int (I 69 44)] (aw_s I L D) rfl (z_icmp_gt (tgt := 328) d_M_runs_311 rfl (fun q1 => (aw_Z.weak (ls' := [some (.ref 69), none, none, none, none, none, none, some (.int v7), none, none, none, none, none]) (h1 q1) (Nat.le_of_ble_eq_true rfl) ⟨Or.inr rfl, ⟨Or.inl rfl, ⟨Or.inl rfl, ⟨Or.inl rfl, ⟨Or.inl rfl, ⟨Or.inl rfl, ⟨Or.inl rfl, ⟨Or.inr rfl, ⟨Or.inl rfl, ⟨Or.inl rfl, ⟨Or.inl rfl, ⟨Or.inl rfl, ⟨Or.inl rfl, trivial⟩⟩⟩⟩⟩⟩⟩⟩⟩⟩⟩⟩⟩)) (fun q2 => (s_M_runs_314.go [some (.ref 69), some (.int v1), some (.int v2), some (.int v3), some (.int v4), some (.int v5), some (.int v6), some (.int v7), some (.int v8), some (.int v9), none, none, none] [.int (1 : Int32), .int v9] (aw_s I L D) rfl (z_icmp_ne (tgt := 663) d_M_runs_317 rfl (fun q3 => (z_goto (tgt := 81) d_M_runs_663 rfl (aw_Z.weak (ls' := [some (.ref 69), some (.int v1), some (.int v2), some (.int v3), some (.int v4), some (.int v5), some (.int v6), some (.int v7), some (.int v8), none, none, none, none]) (h2 q2 q3) (Nat.le_of_ble_eq_true rfl) ⟨Or.inr rfl, ⟨Or.inr rfl, ⟨Or.inr rfl, ⟨Or.inr rfl, ⟨Or.inr rfl, ⟨Or.inr rfl, ⟨Or.inr rfl, ⟨Or.inr rfl, ⟨Or.inr rfl, ⟨Or.inl rfl, ⟨Or.inl rfl, ⟨Or.inl rfl, ⟨Or.inl rfl, trivial⟩⟩⟩⟩⟩⟩⟩⟩⟩⟩⟩⟩⟩))) (fun q4 => (s_M_runs_320.go [some (.ref 69), some (.int v1), some (.int v2), some (.int v3), some (.int v4), some (.int v5), some (.int v6), some (.int v7), some (.int v8), some (.int v9), none, none, none] [.int v3, .int (I 69 45)] (aw_s I L D) rfl (z_icmp_ne (tgt := 663) d_M_runs_325 rfl (fun q5 => (z_goto (tgt := 81) d_M_runs_663 rfl (aw_Z.weak (ls' := [some (.ref 69), some (.int v1), some (.int v2), some (.int v3), some (.int v4), some (.int v5), some (.int v6), some (.int v7), some (.int v8), none, none, none, none]) (h3 q2 q4 q5) (Nat.le_of_ble_eq_true rfl) ⟨Or.inr rfl, ⟨Or.inr rfl, ⟨Or.inr rfl, ⟨Or.inr rfl, ⟨Or.inr rfl, ⟨Or.inr rfl, ⟨Or.inr rfl, ⟨Or.inr rfl, ⟨Or.inr rfl, ⟨Or.inl rfl, ⟨Or.inl rfl, ⟨Or.inl rfl, ⟨Or.inl rfl, trivial⟩⟩⟩⟩⟩⟩⟩⟩⟩⟩⟩⟩⟩))) (fun q6 => (aw_Z.weak (ls' := [some (.ref 69), none, none, none, none, none, none, some (.int v7), none, none, none, none, none]) (h4 q2 q4 q6) (Nat.le_of_ble_eq_true rfl) ⟨Or.inr rfl, ⟨Or.inl rfl, ⟨Or.inl rfl, ⟨Or.inl rfl, ⟨Or.inl rfl, ⟨Or.inl rfl, ⟨Or.inl rfl, ⟨Or.inr rfl, ⟨Or.inl rfl, ⟨Or.inl rfl, ⟨Or.inl rfl, ⟨Or.inl rfl, ⟨Or.inl rfl, trivial⟩⟩⟩⟩⟩⟩⟩⟩⟩⟩⟩⟩⟩))))))))))
theorem d_M_runs_388 : decode y_M_runs.2.1 388 = .ok (.ireturn, 1) := by decide +kernel
theorem b_M_runs_388 {X : aw_X} {d : Nat} {Q : Option Value → aw_H → Prop} {I : Nat → Nat → Int32} {L : Nat → Nat → Int64} {D : Nat → Nat} {s0 : Int32}
    (h1 : Q (some (.int s0)) (aw_s I L D)) :
    aw_z X (d + 1) y_M_runs Q 388 [none, none, none, none, none, none, none, none, none, none, none, none, none] [.int s0] (aw_s I L D) :=
  (z_iret d_M_runs_388 rfl rfl (h1))
theorem d_M_runs_452 : decode y_M_runs.2.1 452 = .ok (.iload 7, 2) := by decide +kernel
theorem s_M_runs_452 : aw_VS y_M_runs 452 [o_ild 7] 454 := .cons (v_iload (i := 7) d_M_runs_452) .nil
theorem d_M_runs_454 : decode y_M_runs.2.1 454 = .ok (.invokevirtual 402, 3) := by decide +kernel
theorem b_M_runs_452 {X : aw_X} {d : Nat} {Q : Option Value → aw_H → Prop} {I : Nat → Nat → Int32} {L : Nat → Nat → Int64} {D : Nat → Nat} {v7 : Int32} {s1 : Int32}
    (h1 : aw_m X d y_M_ends [.ref 69, .int s1, .int v7] (aw_s I L D) (fun r A => aw_z X (d + 1) y_M_runs Q 457 [none, none, none, none, none, none, none, none, none, none, none, none, none] (r.toList ++ []) A)) :
    aw_z X (d + 1) y_M_runs Q 452 [none, none, none, none, none, none, none, some (.int v7), none, none, none, none, none] [.int s1, .ref 69] (aw_s I L D) :=
  (s_M_runs_452.go [none, none, none, none, none, none, none, some (.int v7), none, none, none, none, none] [.int v7, .int s1, .ref 69] (aw_s I L D) rfl (z_callV (av := [.int s1, .int v7]) (st := []) ok_M_ends (Or.inl w_1947) w_1949 w_113 k_M d_M_runs_454 rfl (aw_lt (o := 69) rfl) rfl rfl (Nat.le_of_ble_eq_true rfl) (Nat.le_refl _) (Nat.le_refl _) (aw_C.mono (h1) (fun _ _ zz => aw_Z.weak (ls' := [none, none, none, none, none, none, none, none, none, none, none, none, none]) zz (Nat.le_of_ble_eq_true rfl) ⟨Or.inl rfl, ⟨Or.inl rfl, ⟨Or.inl rfl, ⟨Or.inl rfl, ⟨Or.inl rfl, ⟨Or.inl rfl, ⟨Or.inl rfl, ⟨Or.inl rfl, ⟨Or.inl rfl, ⟨Or.inl rfl, ⟨Or.inl rfl, ⟨Or.inl rfl, ⟨Or.inl rfl, trivial⟩⟩⟩⟩⟩⟩⟩⟩⟩⟩⟩⟩⟩))))
theorem d_M_runs_519 : decode y_M_runs.2.1 519 = .ok (.iastore, 1) := by decide +kernel
theorem d_M_runs_520 : decode y_M_runs.2.1 520 = .ok (.iinc 5 (1), 3) := by decide +kernel
theorem s_M_runs_520 : aw_VS y_M_runs 520 [o_inc 5 (1 : Int32)] 523 := .cons (v_iinc (k0 := (1 : Int32)) d_M_runs_520 (by decide +kernel)) .nil
theorem d_M_runs_523 : decode y_M_runs.2.1 523 = .ok (.goto (140), 3) := by decide +kernel
theorem b_M_runs_519 {X : aw_X} {d : Nat} {Q : Option Value → aw_H → Prop} {I : Nat → Nat → Int32} {L : Nat → Nat → Int64} {D : Nat → Nat} {v1 : Int32} {v2 : Int32} {v3 : Int32} {v4 : Int32} {v5 : Int32} {v6 : Int32} {v7 : Int32} {v8 : Int32} {s2 : Int32} {s1 : Int32}
    (h1 : vp_in s1 8)
    (h2 : aw_z X (d + 1) y_M_runs Q 81 [some (.ref 69), some (.int v1), some (.int v2), some (.int v3), some (.int v4), some (.int (v5 + (1 : Int32))), some (.int v6), some (.int v7), some (.int v8), none, none, none, none] [] (aw_s (aw_u I 84 s1.toNatClampNeg s2) L D)) :
    aw_z X (d + 1) y_M_runs Q 519 [some (.ref 69), some (.int v1), some (.int v2), some (.int v3), some (.int v4), some (.int v5), some (.int v6), some (.int v7), some (.int v8), none, none, none, none] [.int s2, .int s1, .ref 84] (aw_s I L D) :=
  (z_iast (n := 8) rfl (aw_lt (o := 84) rfl) (h1) d_M_runs_519 (s_M_runs_520.go [some (.ref 69), some (.int v1), some (.int v2), some (.int v3), some (.int v4), some (.int (v5 + (1 : Int32))), some (.int v6), some (.int v7), some (.int v8), none, none, none, none] [] (aw_s (aw_u I 84 s1.toNatClampNeg s2) L D) rfl (z_goto (tgt := 663) d_M_runs_523 rfl (z_goto (tgt := 81) d_M_runs_663 rfl (h2)))))
theorem d_M_runs_514 : decode y_M_runs.2.1 514 = .ok (.iand, 1) := by decide +kernel
theorem s_M_runs_514 : aw_VS y_M_runs 514 [o_i2 (fun x z => x &&& z)] 515 := .cons (v_iand d_M_runs_514) .nil
theorem d_M_runs_515 : decode y_M_runs.2.1 515 = .ok (.goto (4), 3) := by decide +kernel
theorem b_M_runs_514 {X : aw_X} {d : Nat} {Q : Option Value → aw_H → Prop} {I : Nat → Nat → Int32} {L : Nat → Nat → Int64} {D : Nat → Nat} {v1 : Int32} {v2 : Int32} {v3 : Int32} {v4 : Int32} {v5 : Int32} {v6 : Int32} {v7 : Int32} {v8 : Int32} {s3 : Int32} {s2 : Int32} {s1 : Int32}
    (h1 : aw_z X (d + 1) y_M_runs Q 519 [some (.ref 69), some (.int v1), some (.int v2), some (.int v3), some (.int v4), some (.int v5), some (.int v6), some (.int v7), some (.int v8), none, none, none, none] [.int (s2 &&& s3), .int s1, .ref 84] (aw_s I L D)) :
    aw_z X (d + 1) y_M_runs Q 514 [some (.ref 69), some (.int v1), some (.int v2), some (.int v3), some (.int v4), some (.int v5), some (.int v6), some (.int v7), some (.int v8), none, none, none, none] [.int s3, .int s2, .int s1, .ref 84] (aw_s I L D) :=
  (s_M_runs_514.go [some (.ref 69), some (.int v1), some (.int v2), some (.int v3), some (.int v4), some (.int v5), some (.int v6), some (.int v7), some (.int v8), none, none, none, none] [.int (s2 &&& s3), .int s1, .ref 84] (aw_s I L D) rfl (z_goto (tgt := 519) d_M_runs_515 rfl (h1)))
theorem d_M_runs_533 : decode y_M_runs.2.1 533 = .ok (.ireturn, 1) := by decide +kernel
theorem b_M_runs_533 {X : aw_X} {d : Nat} {Q : Option Value → aw_H → Prop} {I : Nat → Nat → Int32} {L : Nat → Nat → Int64} {D : Nat → Nat} {s0 : Int32}
    (h1 : Q (some (.int s0)) (aw_s I L D)) :
    aw_z X (d + 1) y_M_runs Q 533 [none, none, none, none, none, none, none, none, none, none, none, none, none] [.int s0] (aw_s I L D) :=
  (z_iret d_M_runs_533 rfl rfl (h1))
theorem d_M_runs_552 : decode y_M_runs.2.1 552 = .ok (.istore 12, 2) := by decide +kernel
theorem d_M_runs_554 : decode y_M_runs.2.1 554 = .ok (.aload_n 0, 1) := by decide +kernel
theorem d_M_runs_555 : decode y_M_runs.2.1 555 = .ok (.dup, 1) := by decide +kernel
theorem d_M_runs_556 : decode y_M_runs.2.1 556 = .ok (.getfield 231, 3) := by decide +kernel
theorem d_M_runs_559 : decode y_M_runs.2.1 559 = .ok (.iconst 1, 1) := by decide +kernel
theorem d_M_runs_560 : decode y_M_runs.2.1 560 = .ok (.isub, 1) := by decide +kernel
theorem d_M_runs_561 : decode y_M_runs.2.1 561 = .ok (.putfield 231, 3) := by decide +kernel
theorem d_M_runs_564 : decode y_M_runs.2.1 564 = .ok (.iload 12, 2) := by decide +kernel
theorem s_M_runs_552 : aw_VS y_M_runs 552 [o_ist 12, o_ald 0, o_dup, o_getI 9 25, o_c (.int (1 : Int32)), o_i2 (fun x z => x - z), o_putI 9 25, o_ild 12] 566 := .cons (v_istore d_M_runs_552) (.cons (v_aload_n (i := 0) d_M_runs_554 rfl) (.cons (v_dup d_M_runs_555) (.cons (v_getI (k := 25) k_M (by decide) (Or.inl rfl) (Or.inl w_1486) d_M_runs_556) (.cons (v_iconst (v := (1 : Int32)) d_M_runs_559 (by decide +kernel)) (.cons (v_isub d_M_runs_560) (.cons (v_putI (k := 25) k_M (by decide) rfl (Or.inl ⟨rfl, Or.inl w_1486⟩) d_M_runs_561) (.cons (v_iload (i := 12) d_M_runs_564) .nil)))))))
theorem d_M_runs_566 : decode y_M_runs.2.1 566 = .ok (.ifCond .eq (32), 3) := by decide +kernel
theorem d_M_runs_598 : decode y_M_runs.2.1 598 = .ok (.iload 10, 2) := by decide +kernel
theorem d_M_runs_600 : decode y_M_runs.2.1 600 = .ok (.istore 8, 2) := by decide +kernel
theorem s_M_runs_598 : aw_VS y_M_runs 598 [o_ild 10, o_ist 8] 602 := .cons (v_iload (i := 10) d_M_runs_598) (.cons (v_istore d_M_runs_600) .nil)
theorem d_M_runs_569 : decode y_M_runs.2.1 569 = .ok (.aload_n 0, 1) := by decide +kernel
theorem d_M_runs_570 : decode y_M_runs.2.1 570 = .ok (.dup, 1) := by decide +kernel
theorem d_M_runs_571 : decode y_M_runs.2.1 571 = .ok (.getfield 387, 3) := by decide +kernel
theorem d_M_runs_574 : decode y_M_runs.2.1 574 = .ok (.lconst 1, 1) := by decide +kernel
theorem d_M_runs_575 : decode y_M_runs.2.1 575 = .ok (.aload_n 0, 1) := by decide +kernel
theorem d_M_runs_576 : decode y_M_runs.2.1 576 = .ok (.getfield 384, 3) := by decide +kernel
theorem d_M_runs_579 : decode y_M_runs.2.1 579 = .ok (.lshl, 1) := by decide +kernel
theorem d_M_runs_580 : decode y_M_runs.2.1 580 = .ok (.lor, 1) := by decide +kernel
theorem d_M_runs_581 : decode y_M_runs.2.1 581 = .ok (.putfield 387, 3) := by decide +kernel
theorem d_M_runs_584 : decode y_M_runs.2.1 584 = .ok (.aload_n 0, 1) := by decide +kernel
theorem d_M_runs_585 : decode y_M_runs.2.1 585 = .ok (.getfield 72, 3) := by decide +kernel
theorem d_M_runs_588 : decode y_M_runs.2.1 588 = .ok (.iload 7, 2) := by decide +kernel
theorem d_M_runs_590 : decode y_M_runs.2.1 590 = .ok (.dup2, 1) := by decide +kernel
theorem s_M_runs_569 : aw_VS y_M_runs 569 [o_ald 0, o_dup, o_getJ 9 46, o_c (.long (1 : Int64)), o_ald 0, o_getI 9 45, o_ls (fun x z => x <<< (z.toInt64 &&& 63)), o_l2 (fun x z => x ||| z), o_putJ 9 46, o_ald 0, o_getA 9 41, o_ild 7, o_dup2] 591 := .cons (v_aload_n (i := 0) d_M_runs_569 rfl) (.cons (v_dup d_M_runs_570) (.cons (v_getJ (k := 46) k_M (by decide) rfl (Or.inl w_1507) d_M_runs_571) (.cons (v_lconst (v := (1 : Int64)) d_M_runs_574 (by decide +kernel)) (.cons (v_aload_n (i := 0) d_M_runs_575 rfl) (.cons (v_getI (k := 45) k_M (by decide) (Or.inl rfl) (Or.inl w_1506) d_M_runs_576) (.cons (v_lshl d_M_runs_579) (.cons (v_lor d_M_runs_580) (.cons (v_putJ (k := 46) k_M (by decide) rfl (Or.inl ⟨rfl, Or.inl w_1507⟩) d_M_runs_581) (.cons (v_aload_n (i := 0) d_M_runs_584 rfl) (.cons (v_getA (k := 41) k_M (by decide) rfl (Or.inl w_1502) d_M_runs_585) (.cons (v_iload (i := 7) d_M_runs_588) (.cons (v_dup2 d_M_runs_590) .nil))))))))))))
theorem d_M_runs_591 : decode y_M_runs.2.1 591 = .ok (.iaload, 1) := by decide +kernel
theorem d_M_runs_592 : decode y_M_runs.2.1 592 = .ok (.iconst 1, 1) := by decide +kernel
theorem d_M_runs_593 : decode y_M_runs.2.1 593 = .ok (.iadd, 1) := by decide +kernel
theorem s_M_runs_592 : aw_VS y_M_runs 592 [o_c (.int (1 : Int32)), o_i2 (fun x z => x + z)] 594 := .cons (v_iconst (v := (1 : Int32)) d_M_runs_592 (by decide +kernel)) (.cons (v_iadd d_M_runs_593) .nil)
theorem d_M_runs_594 : decode y_M_runs.2.1 594 = .ok (.iastore, 1) := by decide +kernel
theorem d_M_runs_595 : decode y_M_runs.2.1 595 = .ok (.goto (7), 3) := by decide +kernel
theorem b_M_runs_552 {X : aw_X} {d : Nat} {Q : Option Value → aw_H → Prop} {I : Nat → Nat → Int32} {L : Nat → Nat → Int64} {D : Nat → Nat} {v1 : Int32} {v2 : Int32} {v3 : Int32} {v4 : Int32} {v5 : Int32} {v6 : Int32} {v7 : Int32} {v8 : Int32} {v10 : Int32} {s0 : Int32}
    (h1 : s0 = 0 → aw_z X (d + 1) y_M_runs Q 602 [some (.ref 69), some (.int v1), some (.int v2), some (.int v3), some (.int v4), some (.int v5), some (.int v6), some (.int v7), some (.int v10), none, none, none, none] [] (aw_s (aw_u I 69 25 ((I 69 25) - (1 : Int32))) L D))
    (h2 : ¬ s0 = 0 → vp_in v7 60)
    (h3 : ¬ s0 = 0 → vp_in v7 60)
    (h4 : ¬ s0 = 0 → aw_z X (d + 1) y_M_runs Q 602 [some (.ref 69), some (.int v1), some (.int v2), some (.int v3), some (.int v4), some (.int v5), some (.int v6), some (.int v7), some (.int v8), none, none, none, none] [] (aw_s (aw_u (aw_u I 69 25 ((I 69 25) - (1 : Int32))) 88 v7.toNatClampNeg ((I 88 v7.toNatClampNeg) + (1 : Int32))) (aw_u L 69 46 ((L 69 46) ||| ((1 : Int64) <<< ((I 69 45).toInt64 &&& 63)))) D)) :
    aw_z X (d + 1) y_M_runs Q 552 [some (.ref 69), some (.int v1), some (.int v2), some (.int v3), some (.int v4), some (.int v5), some (.int v6), some (.int v7), some (.int v8), none, some (.int v10), none, none] [.int s0] (aw_s I L D) :=
  (s_M_runs_552.go [some (.ref 69), some (.int v1), some (.int v2), some (.int v3), some (.int v4), some (.int v5), some (.int v6), some (.int v7), some (.int v8), none, some (.int v10), none, some (.int s0)] [.int s0] (aw_s (aw_u I 69 25 ((I 69 25) - (1 : Int32))) L D) rfl (z_if_eq (tgt := 598) d_M_runs_566 rfl (fun q1 => (s_M_runs_598.go [some (.ref 69), some (.int v1), some (.int v2), some (.int v3), some (.int v4), some (.int v5), some (.int v6), some (.int v7), some (.int v10), none, some (.int v10), none, some (.int s0)] [] (aw_s (aw_u I 69 25 ((I 69 25) - (1 : Int32))) L D) rfl (aw_Z.weak (ls' := [some (.ref 69), some (.int v1), some (.int v2), some (.int v3), some (.int v4), some (.int v5), some (.int v6), some (.int v7), some (.int v10), none, none, none, none]) (h1 q1) (Nat.le_of_ble_eq_true rfl) ⟨Or.inr rfl, ⟨Or.inr rfl, ⟨Or.inr rfl, ⟨Or.inr rfl, ⟨Or.inr rfl, ⟨Or.inr rfl, ⟨Or.inr rfl, ⟨Or.inr rfl, ⟨Or.inr rfl, ⟨Or.inl rfl, ⟨Or.inl rfl, ⟨Or.inl rfl, ⟨Or.inl rfl, trivial⟩⟩⟩⟩⟩⟩⟩⟩⟩⟩⟩⟩⟩))) (fun q2 => (s_M_runs_569.go [some (.ref 69), some (.int v1), some (.int v2), some (.int v3), some (.int v4), some (.int v5), some (.int v6), some (.int v7), some (.int v8), none, some (.int v10), none, some (.int s0)] [.int v7, .ref 88, .int v7, .ref 88] (aw_s (aw_u I 69 25 ((I 69 25) - (1 : Int32))) (aw_u L 69 46 ((L 69 46) ||| ((1 : Int64) <<< ((I 69 45).toInt64 &&& 63)))) D) rfl (z_iald (n := 60) rfl (aw_lt (o := 88) rfl) (h2 q2) d_M_runs_591 (s_M_runs_592.go [some (.ref 69), some (.int v1), some (.int v2), some (.int v3), some (.int v4), some (.int v5), some (.int v6), some (.int v7), some (.int v8), none, some (.int v10), none, some (.int s0)] [.int ((I 88 v7.toNatClampNeg) + (1 : Int32)), .int v7, .ref 88] (aw_s (aw_u I 69 25 ((I 69 25) - (1 : Int32))) (aw_u L 69 46 ((L 69 46) ||| ((1 : Int64) <<< ((I 69 45).toInt64 &&& 63)))) D) rfl (z_iast (n := 60) rfl (aw_lt (o := 88) rfl) (h3 q2) d_M_runs_594 (z_goto (tgt := 602) d_M_runs_595 rfl (aw_Z.weak (ls' := [some (.ref 69), some (.int v1), some (.int v2), some (.int v3), some (.int v4), some (.int v5), some (.int v6), some (.int v7), some (.int v8), none, none, none, none]) (h4 q2) (Nat.le_of_ble_eq_true rfl) ⟨Or.inr rfl, ⟨Or.inr rfl, ⟨Or.inr rfl, ⟨Or.inr rfl, ⟨Or.inr rfl, ⟨Or.inr rfl, ⟨Or.inr rfl, ⟨Or.inr rfl, ⟨Or.inr rfl, ⟨Or.inl rfl, ⟨Or.inl rfl, ⟨Or.inl rfl, ⟨Or.inl rfl, trivial⟩⟩⟩⟩⟩⟩⟩⟩⟩⟩⟩⟩⟩)))))))))
theorem d_M_runs_662 : decode y_M_runs.2.1 662 = .ok (.ireturn, 1) := by decide +kernel
theorem b_M_runs_662 {X : aw_X} {d : Nat} {Q : Option Value → aw_H → Prop} {I : Nat → Nat → Int32} {L : Nat → Nat → Int64} {D : Nat → Nat} {s0 : Int32}
    (h1 : Q (some (.int s0)) (aw_s I L D)) :
    aw_z X (d + 1) y_M_runs Q 662 [none, none, none, none, none, none, none, none, none, none, none, none, none] [.int s0] (aw_s I L D) :=
  (z_iret d_M_runs_662 rfl rfl (h1))
theorem d_M_runs_145 : decode y_M_runs.2.1 145 = .ok (.ireturn, 1) := by decide +kernel
theorem b_M_runs_145 {X : aw_X} {d : Nat} {Q : Option Value → aw_H → Prop} {I : Nat → Nat → Int32} {L : Nat → Nat → Int64} {D : Nat → Nat} {s0 : Int32}
    (h1 : Q (some (.int s0)) (aw_s I L D)) :
    aw_z X (d + 1) y_M_runs Q 145 [none, none, none, none, none, none, none, none, none, none, none, none, none] [.int s0] (aw_s I L D) :=
  (z_iret d_M_runs_145 rfl rfl (h1))
theorem d_M_runs_328 : decode y_M_runs.2.1 328 = .ok (.aload_n 0, 1) := by decide +kernel
theorem d_M_runs_329 : decode y_M_runs.2.1 329 = .ok (.iconst 5, 1) := by decide +kernel
theorem d_M_runs_330 : decode y_M_runs.2.1 330 = .ok (.iload 7, 2) := by decide +kernel
theorem s_M_runs_328 : aw_VS y_M_runs 328 [o_ald 0, o_c (.int (5 : Int32)), o_ild 7] 332 := .cons (v_aload_n (i := 0) d_M_runs_328 rfl) (.cons (v_iconst (v := (5 : Int32)) d_M_runs_329 (by decide +kernel)) (.cons (v_iload (i := 7) d_M_runs_330) .nil))
theorem d_M_runs_332 : decode y_M_runs.2.1 332 = .ok (.invokevirtual 402, 3) := by decide +kernel
theorem b_M_runs_328 {X : aw_X} {d : Nat} {Q : Option Value → aw_H → Prop} {I : Nat → Nat → Int32} {L : Nat → Nat → Int64} {D : Nat → Nat} {v7 : Int32}
    (h1 : aw_m X d y_M_ends [.ref 69, .int (5 : Int32), .int v7] (aw_s I L D) (fun r A => aw_z X (d + 1) y_M_runs Q 335 [none, none, none, none, none, none, none, none, none, none, none, none, none] (r.toList ++ []) A)) :
    aw_z X (d + 1) y_M_runs Q 328 [some (.ref 69), none, none, none, none, none, none, some (.int v7), none, none, none, none, none] [] (aw_s I L D) :=
  (s_M_runs_328.go [some (.ref 69), none, none, none, none, none, none, some (.int v7), none, none, none, none, none] [.int v7, .int (5 : Int32), .ref 69] (aw_s I L D) rfl (z_callV (av := [.int (5 : Int32), .int v7]) (st := []) ok_M_ends (Or.inl w_1947) w_1949 w_113 k_M d_M_runs_332 rfl (aw_lt (o := 69) rfl) rfl rfl (Nat.le_of_ble_eq_true rfl) (Nat.le_refl _) (Nat.le_refl _) (aw_C.mono (h1) (fun _ _ zz => aw_Z.weak (ls' := [none, none, none, none, none, none, none, none, none, none, none, none, none]) zz (Nat.le_of_ble_eq_true rfl) ⟨Or.inl rfl, ⟨Or.inl rfl, ⟨Or.inl rfl, ⟨Or.inl rfl, ⟨Or.inl rfl, ⟨Or.inl rfl, ⟨Or.inl rfl, ⟨Or.inl rfl, ⟨Or.inl rfl, ⟨Or.inl rfl, ⟨Or.inl rfl, ⟨Or.inl rfl, ⟨Or.inl rfl, trivial⟩⟩⟩⟩⟩⟩⟩⟩⟩⟩⟩⟩⟩))))
theorem d_M_runs_457 : decode y_M_runs.2.1 457 = .ok (.ireturn, 1) := by decide +kernel
theorem b_M_runs_457 {X : aw_X} {d : Nat} {Q : Option Value → aw_H → Prop} {I : Nat → Nat → Int32} {L : Nat → Nat → Int64} {D : Nat → Nat} {s0 : Int32}
    (h1 : Q (some (.int s0)) (aw_s I L D)) :
    aw_z X (d + 1) y_M_runs Q 457 [none, none, none, none, none, none, none, none, none, none, none, none, none] [.int s0] (aw_s I L D) :=
  (z_iret d_M_runs_457 rfl rfl (h1))
theorem d_M_runs_602 : decode y_M_runs.2.1 602 = .ok (.aload_n 0, 1) := by decide +kernel
theorem d_M_runs_603 : decode y_M_runs.2.1 603 = .ok (.dup, 1) := by decide +kernel
theorem d_M_runs_604 : decode y_M_runs.2.1 604 = .ok (.getfield 384, 3) := by decide +kernel
theorem d_M_runs_607 : decode y_M_runs.2.1 607 = .ok (.iconst 1, 1) := by decide +kernel
theorem d_M_runs_608 : decode y_M_runs.2.1 608 = .ok (.iadd, 1) := by decide +kernel
theorem d_M_runs_609 : decode y_M_runs.2.1 609 = .ok (.putfield 384, 3) := by decide +kernel
theorem s_M_runs_602 : aw_VS y_M_runs 602 [o_ald 0, o_dup, o_getI 9 45, o_c (.int (1 : Int32)), o_i2 (fun x z => x + z), o_putI 9 45] 612 := .cons (v_aload_n (i := 0) d_M_runs_602 rfl) (.cons (v_dup d_M_runs_603) (.cons (v_getI (k := 45) k_M (by decide) (Or.inl rfl) (Or.inl w_1506) d_M_runs_604) (.cons (v_iconst (v := (1 : Int32)) d_M_runs_607 (by decide +kernel)) (.cons (v_iadd d_M_runs_608) (.cons (v_putI (k := 45) k_M (by decide) rfl (Or.inl ⟨rfl, Or.inl w_1506⟩) d_M_runs_609) .nil)))))
theorem d_M_runs_612 : decode y_M_runs.2.1 612 = .ok (.goto (51), 3) := by decide +kernel
theorem b_M_runs_602 {X : aw_X} {d : Nat} {Q : Option Value → aw_H → Prop} {I : Nat → Nat → Int32} {L : Nat → Nat → Int64} {D : Nat → Nat} {v1 : Int32} {v2 : Int32} {v3 : Int32} {v4 : Int32} {v5 : Int32} {v6 : Int32} {v7 : Int32} {v8 : Int32}
    (h1 : aw_z X (d + 1) y_M_runs Q 81 [some (.ref 69), some (.int v1), some (.int v2), some (.int v3), some (.int v4), some (.int v5), some (.int v6), some (.int v7), some (.int v8), none, none, none, none] [] (aw_s (aw_u I 69 45 ((I 69 45) + (1 : Int32))) L D)) :
    aw_z X (d + 1) y_M_runs Q 602 [some (.ref 69), some (.int v1), some (.int v2), some (.int v3), some (.int v4), some (.int v5), some (.int v6), some (.int v7), some (.int v8), none, none, none, none] [] (aw_s I L D) :=
  (s_M_runs_602.go [some (.ref 69), some (.int v1), some (.int v2), some (.int v3), some (.int v4), some (.int v5), some (.int v6), some (.int v7), some (.int v8), none, none, none, none] [] (aw_s (aw_u I 69 45 ((I 69 45) + (1 : Int32))) L D) rfl (z_goto (tgt := 663) d_M_runs_612 rfl (z_goto (tgt := 81) d_M_runs_663 rfl (h1))))
theorem d_M_runs_335 : decode y_M_runs.2.1 335 = .ok (.ireturn, 1) := by decide +kernel
theorem b_M_runs_335 {X : aw_X} {d : Nat} {Q : Option Value → aw_H → Prop} {I : Nat → Nat → Int32} {L : Nat → Nat → Int64} {D : Nat → Nat} {s0 : Int32}
    (h1 : Q (some (.int s0)) (aw_s I L D)) :
    aw_z X (d + 1) y_M_runs Q 335 [none, none, none, none, none, none, none, none, none, none, none, none, none] [.int s0] (aw_s I L D) :=
  (z_iret d_M_runs_335 rfl rfl (h1))
/-! M_layRow -/
theorem d_M_layRow_0 : decode y_M_layRow.2.1 0 = .ok (.iconst 0, 1) := by decide +kernel
theorem d_M_layRow_1 : decode y_M_layRow.2.1 1 = .ok (.istore_n 2, 1) := by decide +kernel
theorem s_M_layRow_0 : aw_VS y_M_layRow 0 [o_c (.int (0 : Int32)), o_ist 2] 2 := .cons (v_iconst (v := (0 : Int32)) d_M_layRow_0 (by decide +kernel)) (.cons (v_istore_n d_M_layRow_1) .nil)
theorem b_M_layRow_0 {X : aw_X} {d : Nat} {Q : Option Value → aw_H → Prop} {I : Nat → Nat → Int32} {L : Nat → Nat → Int64} {D : Nat → Nat} {v1 : Int32}
    (h1 : aw_z X (d + 1) y_M_layRow Q 2 [some (.ref 69), some (.int v1), some (.int (0 : Int32))] [] (aw_s I L D)) :
    aw_z X (d + 1) y_M_layRow Q 0 [some (.ref 69), some (.int v1), none] [] (aw_s I L D) :=
  (s_M_layRow_0.go [some (.ref 69), some (.int v1), some (.int (0 : Int32))] [] (aw_s I L D) rfl (h1))
theorem d_M_layRow_2 : decode y_M_layRow.2.1 2 = .ok (.iload_n 2, 1) := by decide +kernel
theorem d_M_layRow_3 : decode y_M_layRow.2.1 3 = .ok (.bipush 8, 2) := by decide +kernel
theorem s_M_layRow_2 : aw_VS y_M_layRow 2 [o_ild 2, o_c (.int (8 : Int32))] 5 := .cons (v_iload_n (i := 2) d_M_layRow_2 rfl) (.cons (v_bipush (v := (8 : Int32)) d_M_layRow_3 (by decide +kernel)) .nil)
theorem d_M_layRow_5 : decode y_M_layRow.2.1 5 = .ok (.if_icmp .ge (47), 3) := by decide +kernel
theorem d_M_layRow_52 : decode y_M_layRow.2.1 52 = .ok (.return_, 1) := by decide +kernel
theorem d_M_layRow_8 : decode y_M_layRow.2.1 8 = .ok (.aload_n 0, 1) := by decide +kernel
theorem d_M_layRow_9 : decode y_M_layRow.2.1 9 = .ok (.getfield 60, 3) := by decide +kernel
theorem d_M_layRow_12 : decode y_M_layRow.2.1 12 = .ok (.iload_n 2, 1) := by decide +kernel
theorem d_M_layRow_13 : decode y_M_layRow.2.1 13 = .ok (.iload_n 2, 1) := by decide +kernel
theorem d_M_layRow_14 : decode y_M_layRow.2.1 14 = .ok (.aload_n 0, 1) := by decide +kernel
theorem d_M_layRow_15 : decode y_M_layRow.2.1 15 = .ok (.getfield 57, 3) := by decide +kernel
theorem s_M_layRow_8 : aw_VS y_M_layRow 8 [o_ald 0, o_getA 9 37, o_ild 2, o_ild 2, o_ald 0, o_getI 9 34] 18 := .cons (v_aload_n (i := 0) d_M_layRow_8 rfl) (.cons (v_getA (k := 37) k_M (by decide) rfl (Or.inl w_1498) d_M_layRow_9) (.cons (v_iload_n (i := 2) d_M_layRow_12 rfl) (.cons (v_iload_n (i := 2) d_M_layRow_13 rfl) (.cons (v_aload_n (i := 0) d_M_layRow_14 rfl) (.cons (v_getI (k := 34) k_M (by decide) (Or.inl rfl) (Or.inl w_1495) d_M_layRow_15) .nil)))))
theorem d_M_layRow_18 : decode y_M_layRow.2.1 18 = .ok (.if_icmp .ge (19), 3) := by decide +kernel
theorem d_M_layRow_37 : decode y_M_layRow.2.1 37 = .ok (.iconst 0, 1) := by decide +kernel
theorem s_M_layRow_37 : aw_VS y_M_layRow 37 [o_c (.int (0 : Int32))] 38 := .cons (v_iconst (v := (0 : Int32)) d_M_layRow_37 (by decide +kernel)) .nil
theorem d_M_layRow_21 : decode y_M_layRow.2.1 21 = .ok (.iload_n 1, 1) := by decide +kernel
theorem d_M_layRow_22 : decode y_M_layRow.2.1 22 = .ok (.aload_n 0, 1) := by decide +kernel
theorem d_M_layRow_23 : decode y_M_layRow.2.1 23 = .ok (.getfield 53, 3) := by decide +kernel
theorem d_M_layRow_26 : decode y_M_layRow.2.1 26 = .ok (.iload_n 2, 1) := by decide +kernel
theorem d_M_layRow_27 : decode y_M_layRow.2.1 27 = .ok (.imul, 1) := by decide +kernel
theorem d_M_layRow_28 : decode y_M_layRow.2.1 28 = .ok (.ishr, 1) := by decide +kernel
theorem d_M_layRow_29 : decode y_M_layRow.2.1 29 = .ok (.aload_n 0, 1) := by decide +kernel
theorem s_M_layRow_21 : aw_VS y_M_layRow 21 [o_ild 1, o_ald 0, o_getI 9 33, o_ild 2, o_i2 (fun x z => x * z), o_i2 (fun x z => x >>> (z &&& 31)), o_ald 0] 30 := .cons (v_iload_n (i := 1) d_M_layRow_21 rfl) (.cons (v_aload_n (i := 0) d_M_layRow_22 rfl) (.cons (v_getI (k := 33) k_M (by decide) (Or.inl rfl) (Or.inl w_1494) d_M_layRow_23) (.cons (v_iload_n (i := 2) d_M_layRow_26 rfl) (.cons (v_imul d_M_layRow_27) (.cons (v_ishr d_M_layRow_28) (.cons (v_aload_n (i := 0) d_M_layRow_29 rfl) .nil))))))
theorem d_M_layRow_30 : decode y_M_layRow.2.1 30 = .ok (.invokevirtual 366, 3) := by decide +kernel
theorem b_M_layRow_2 {X : aw_X} {d : Nat} {Q : Option Value → aw_H → Prop} {I : Nat → Nat → Int32} {L : Nat → Nat → Int64} {D : Nat → Nat} {v1 : Int32} {v2 : Int32}
    (h1 : (8 : Int32) ≤ v2 → Q none (aw_s I L D))
    (h2 : ¬ (8 : Int32) ≤ v2 → (I 69 34) ≤ v2 → aw_z X (d + 1) y_M_layRow Q 38 [some (.ref 69), some (.int v1), some (.int v2)] [.int (0 : Int32), .int v2, .ref 84] (aw_s I L D))
    (h3 : ¬ (8 : Int32) ≤ v2 → ¬ (I 69 34) ≤ v2 → aw_m X d y_M_mask [.ref 69] (aw_s I L D) (fun r A => aw_z X (d + 1) y_M_layRow Q 33 [some (.ref 69), some (.int v1), some (.int v2)] (r.toList ++ [.int (v1 >>> (((I 69 33) * v2) &&& 31)), .int v2, .ref 84]) A)) :
    aw_z X (d + 1) y_M_layRow Q 2 [some (.ref 69), some (.int v1), some (.int v2)] [] (aw_s I L D) :=
  (s_M_layRow_2.go [some (.ref 69), some (.int v1), some (.int v2)] [.int (8 : Int32), .int v2] (aw_s I L D) rfl (z_icmp_ge (tgt := 52) d_M_layRow_5 rfl (fun q1 => (z_vret d_M_layRow_52 rfl (h1 q1))) (fun q2 => (s_M_layRow_8.go [some (.ref 69), some (.int v1), some (.int v2)] [.int (I 69 34), .int v2, .int v2, .ref 84] (aw_s I L D) rfl (z_icmp_ge (tgt := 37) d_M_layRow_18 rfl (fun q3 => (s_M_layRow_37.go [some (.ref 69), some (.int v1), some (.int v2)] [.int (0 : Int32), .int v2, .ref 84] (aw_s I L D) rfl (h2 q2 q3))) (fun q4 => (s_M_layRow_21.go [some (.ref 69), some (.int v1), some (.int v2)] [.ref 69, .int (v1 >>> (((I 69 33) * v2) &&& 31)), .int v2, .ref 84] (aw_s I L D) rfl (z_callV (av := []) (st := [.int (v1 >>> (((I 69 33) * v2) &&& 31)), .int v2, .ref 84]) ok_M_mask (Or.inl w_1931) w_1933 w_109 k_M d_M_layRow_30 rfl (aw_lt (o := 69) rfl) rfl rfl (Nat.le_of_ble_eq_true rfl) (Nat.le_refl _) (Nat.le_refl _) (h3 q2 q4)))))))))
theorem d_M_layRow_38 : decode y_M_layRow.2.1 38 = .ok (.iastore, 1) := by decide +kernel
theorem d_M_layRow_39 : decode y_M_layRow.2.1 39 = .ok (.aload_n 0, 1) := by decide +kernel
theorem d_M_layRow_40 : decode y_M_layRow.2.1 40 = .ok (.getfield 63, 3) := by decide +kernel
theorem d_M_layRow_43 : decode y_M_layRow.2.1 43 = .ok (.iload_n 2, 1) := by decide +kernel
theorem d_M_layRow_44 : decode y_M_layRow.2.1 44 = .ok (.iconst 0, 1) := by decide +kernel
theorem s_M_layRow_39 : aw_VS y_M_layRow 39 [o_ald 0, o_getA 9 38, o_ild 2, o_c (.int (0 : Int32))] 45 := .cons (v_aload_n (i := 0) d_M_layRow_39 rfl) (.cons (v_getA (k := 38) k_M (by decide) rfl (Or.inl w_1499) d_M_layRow_40) (.cons (v_iload_n (i := 2) d_M_layRow_43 rfl) (.cons (v_iconst (v := (0 : Int32)) d_M_layRow_44 (by decide +kernel)) .nil)))
theorem d_M_layRow_45 : decode y_M_layRow.2.1 45 = .ok (.iastore, 1) := by decide +kernel
theorem d_M_layRow_46 : decode y_M_layRow.2.1 46 = .ok (.iinc 2 (1), 3) := by decide +kernel
theorem s_M_layRow_46 : aw_VS y_M_layRow 46 [o_inc 2 (1 : Int32)] 49 := .cons (v_iinc (k0 := (1 : Int32)) d_M_layRow_46 (by decide +kernel)) .nil
theorem d_M_layRow_49 : decode y_M_layRow.2.1 49 = .ok (.goto (-47), 3) := by decide +kernel
theorem b_M_layRow_38 {X : aw_X} {d : Nat} {Q : Option Value → aw_H → Prop} {I : Nat → Nat → Int32} {L : Nat → Nat → Int64} {D : Nat → Nat} {v1 : Int32} {v2 : Int32} {s2 : Int32} {s1 : Int32}
    (h1 : vp_in s1 8)
    (h2 : vp_in v2 8)
    (h3 : aw_z X (d + 1) y_M_layRow Q 2 [some (.ref 69), some (.int v1), some (.int (v2 + (1 : Int32)))] [] (aw_s (aw_u (aw_u I 84 s1.toNatClampNeg s2) 85 v2.toNatClampNeg (0 : Int32)) L D)) :
    aw_z X (d + 1) y_M_layRow Q 38 [some (.ref 69), some (.int v1), some (.int v2)] [.int s2, .int s1, .ref 84] (aw_s I L D) :=
  (z_iast (n := 8) rfl (aw_lt (o := 84) rfl) (h1) d_M_layRow_38 (s_M_layRow_39.go [some (.ref 69), some (.int v1), some (.int v2)] [.int (0 : Int32), .int v2, .ref 85] (aw_s (aw_u I 84 s1.toNatClampNeg s2) L D) rfl (z_iast (n := 8) rfl (aw_lt (o := 85) rfl) (h2) d_M_layRow_45 (s_M_layRow_46.go [some (.ref 69), some (.int v1), some (.int (v2 + (1 : Int32)))] [] (aw_s (aw_u (aw_u I 84 s1.toNatClampNeg s2) 85 v2.toNatClampNeg (0 : Int32)) L D) rfl (z_goto (tgt := 2) d_M_layRow_49 rfl (h3))))))
theorem d_M_layRow_33 : decode y_M_layRow.2.1 33 = .ok (.iand, 1) := by decide +kernel
theorem s_M_layRow_33 : aw_VS y_M_layRow 33 [o_i2 (fun x z => x &&& z)] 34 := .cons (v_iand d_M_layRow_33) .nil
theorem d_M_layRow_34 : decode y_M_layRow.2.1 34 = .ok (.goto (4), 3) := by decide +kernel
theorem b_M_layRow_33 {X : aw_X} {d : Nat} {Q : Option Value → aw_H → Prop} {I : Nat → Nat → Int32} {L : Nat → Nat → Int64} {D : Nat → Nat} {v1 : Int32} {v2 : Int32} {s3 : Int32} {s2 : Int32} {s1 : Int32}
    (h1 : aw_z X (d + 1) y_M_layRow Q 38 [some (.ref 69), some (.int v1), some (.int v2)] [.int (s2 &&& s3), .int s1, .ref 84] (aw_s I L D)) :
    aw_z X (d + 1) y_M_layRow Q 33 [some (.ref 69), some (.int v1), some (.int v2)] [.int s3, .int s2, .int s1, .ref 84] (aw_s I L D) :=
  (s_M_layRow_33.go [some (.ref 69), some (.int v1), some (.int v2)] [.int (s2 &&& s3), .int s1, .ref 84] (aw_s I L D) rfl (z_goto (tgt := 38) d_M_layRow_34 rfl (h1)))
/-! M_mask -/
theorem d_M_mask_0 : decode y_M_mask.2.1 0 = .ok (.iconst 1, 1) := by decide +kernel
theorem d_M_mask_1 : decode y_M_mask.2.1 1 = .ok (.aload_n 0, 1) := by decide +kernel
theorem d_M_mask_2 : decode y_M_mask.2.1 2 = .ok (.getfield 53, 3) := by decide +kernel
theorem d_M_mask_5 : decode y_M_mask.2.1 5 = .ok (.ishl, 1) := by decide +kernel
theorem d_M_mask_6 : decode y_M_mask.2.1 6 = .ok (.iconst 1, 1) := by decide +kernel
theorem d_M_mask_7 : decode y_M_mask.2.1 7 = .ok (.isub, 1) := by decide +kernel
theorem s_M_mask_0 : aw_VS y_M_mask 0 [o_c (.int (1 : Int32)), o_ald 0, o_getI 9 33, o_i2 (fun x z => x <<< (z &&& 31)), o_c (.int (1 : Int32)), o_i2 (fun x z => x - z)] 8 := .cons (v_iconst (v := (1 : Int32)) d_M_mask_0 (by decide +kernel)) (.cons (v_aload_n (i := 0) d_M_mask_1 rfl) (.cons (v_getI (k := 33) k_M (by decide) (Or.inl rfl) (Or.inl w_1494) d_M_mask_2) (.cons (v_ishl d_M_mask_5) (.cons (v_iconst (v := (1 : Int32)) d_M_mask_6 (by decide +kernel)) (.cons (v_isub d_M_mask_7) .nil)))))
theorem d_M_mask_8 : decode y_M_mask.2.1 8 = .ok (.ireturn, 1) := by decide +kernel
theorem b_M_mask_0 {X : aw_X} {d : Nat} {Q : Option Value → aw_H → Prop} {I : Nat → Nat → Int32} {L : Nat → Nat → Int64} {D : Nat → Nat} 
    (h1 : Q (some (.int (((1 : Int32) <<< ((I 69 33) &&& 31)) - (1 : Int32)))) (aw_s I L D)) :
    aw_z X d y_M_mask Q 0 [some (.ref 69)] [] (aw_s I L D) :=
  (s_M_mask_0.go [some (.ref 69)] [.int (((1 : Int32) <<< ((I 69 33) &&& 31)) - (1 : Int32))] (aw_s I L D) rfl (z_iret d_M_mask_8 rfl rfl (h1)))
/-! M_work -/
theorem d_M_work_0 : decode y_M_work.2.1 0 = .ok (.iload_n 1, 1) := by decide +kernel
theorem d_M_work_1 : decode y_M_work.2.1 1 = .ok (.iconst 2, 1) := by decide +kernel
theorem s_M_work_0 : aw_VS y_M_work 0 [o_ild 1, o_c (.int (2 : Int32))] 2 := .cons (v_iload_n (i := 1) d_M_work_0 rfl) (.cons (v_iconst (v := (2 : Int32)) d_M_work_1 (by decide +kernel)) .nil)
theorem d_M_work_2 : decode y_M_work.2.1 2 = .ok (.if_icmp .eq (8), 3) := by decide +kernel
theorem d_M_work_5 : decode y_M_work.2.1 5 = .ok (.iload_n 1, 1) := by decide +kernel
theorem d_M_work_6 : decode y_M_work.2.1 6 = .ok (.iconst 3, 1) := by decide +kernel
theorem s_M_work_5 : aw_VS y_M_work 5 [o_ild 1, o_c (.int (3 : Int32))] 7 := .cons (v_iload_n (i := 1) d_M_work_5 rfl) (.cons (v_iconst (v := (3 : Int32)) d_M_work_6 (by decide +kernel)) .nil)
theorem d_M_work_7 : decode y_M_work.2.1 7 = .ok (.if_icmp .ne (44), 3) := by decide +kernel
theorem d_M_work_51 : decode y_M_work.2.1 51 = .ok (.iload_n 1, 1) := by decide +kernel
theorem d_M_work_52 : decode y_M_work.2.1 52 = .ok (.iconst 4, 1) := by decide +kernel
theorem s_M_work_51 : aw_VS y_M_work 51 [o_ild 1, o_c (.int (4 : Int32))] 53 := .cons (v_iload_n (i := 1) d_M_work_51 rfl) (.cons (v_iconst (v := (4 : Int32)) d_M_work_52 (by decide +kernel)) .nil)
theorem d_M_work_53 : decode y_M_work.2.1 53 = .ok (.if_icmp .ne (44), 3) := by decide +kernel
theorem d_M_work_97 : decode y_M_work.2.1 97 = .ok (.iload_n 1, 1) := by decide +kernel
theorem d_M_work_98 : decode y_M_work.2.1 98 = .ok (.iconst 5, 1) := by decide +kernel
theorem d_M_work_99 : decode y_M_work.2.1 99 = .ok (.bipush 8, 2) := by decide +kernel
theorem s_M_work_97 : aw_VS y_M_work 97 [o_ild 1, o_c (.int (5 : Int32)), o_c (.int (8 : Int32))] 101 := .cons (v_iload_n (i := 1) d_M_work_97 rfl) (.cons (v_iconst (v := (5 : Int32)) d_M_work_98 (by decide +kernel)) (.cons (v_bipush (v := (8 : Int32)) d_M_work_99 (by decide +kernel)) .nil))
theorem d_M_work_101 : decode y_M_work.2.1 101 = .ok (.invokestatic 234, 3) := by decide +kernel
theorem d_M_work_56 : decode y_M_work.2.1 56 = .ok (.aload_n 0, 1) := by decide +kernel
theorem d_M_work_57 : decode y_M_work.2.1 57 = .ok (.getfield 66, 3) := by decide +kernel
theorem d_M_work_60 : decode y_M_work.2.1 60 = .ok (.aload_n 0, 1) := by decide +kernel
theorem d_M_work_61 : decode y_M_work.2.1 61 = .ok (.getfield 231, 3) := by decide +kernel
theorem s_M_work_56 : aw_VS y_M_work 56 [o_ald 0, o_getA 9 39, o_ald 0, o_getI 9 25] 64 := .cons (v_aload_n (i := 0) d_M_work_56 rfl) (.cons (v_getA (k := 39) k_M (by decide) rfl (Or.inl w_1500) d_M_work_57) (.cons (v_aload_n (i := 0) d_M_work_60 rfl) (.cons (v_getI (k := 25) k_M (by decide) (Or.inl rfl) (Or.inl w_1486) d_M_work_61) .nil)))
theorem d_M_work_64 : decode y_M_work.2.1 64 = .ok (.iaload, 1) := by decide +kernel
theorem d_M_work_65 : decode y_M_work.2.1 65 = .ok (.bipush 7, 2) := by decide +kernel
theorem s_M_work_65 : aw_VS y_M_work 65 [o_c (.int (7 : Int32))] 67 := .cons (v_bipush (v := (7 : Int32)) d_M_work_65 (by decide +kernel)) .nil
theorem d_M_work_67 : decode y_M_work.2.1 67 = .ok (.if_icmp .le (5), 3) := by decide +kernel
theorem d_M_work_72 : decode y_M_work.2.1 72 = .ok (.aload_n 0, 1) := by decide +kernel
theorem d_M_work_73 : decode y_M_work.2.1 73 = .ok (.getfield 66, 3) := by decide +kernel
theorem d_M_work_76 : decode y_M_work.2.1 76 = .ok (.aload_n 0, 1) := by decide +kernel
theorem d_M_work_77 : decode y_M_work.2.1 77 = .ok (.getfield 231, 3) := by decide +kernel
theorem d_M_work_80 : decode y_M_work.2.1 80 = .ok (.aload_n 0, 1) := by decide +kernel
theorem d_M_work_81 : decode y_M_work.2.1 81 = .ok (.getfield 63, 3) := by decide +kernel
theorem d_M_work_84 : decode y_M_work.2.1 84 = .ok (.aload_n 0, 1) := by decide +kernel
theorem d_M_work_85 : decode y_M_work.2.1 85 = .ok (.getfield 66, 3) := by decide +kernel
theorem d_M_work_88 : decode y_M_work.2.1 88 = .ok (.aload_n 0, 1) := by decide +kernel
theorem d_M_work_89 : decode y_M_work.2.1 89 = .ok (.getfield 231, 3) := by decide +kernel
theorem s_M_work_72 : aw_VS y_M_work 72 [o_ald 0, o_getA 9 39, o_ald 0, o_getI 9 25, o_ald 0, o_getA 9 38, o_ald 0, o_getA 9 39, o_ald 0, o_getI 9 25] 92 := .cons (v_aload_n (i := 0) d_M_work_72 rfl) (.cons (v_getA (k := 39) k_M (by decide) rfl (Or.inl w_1500) d_M_work_73) (.cons (v_aload_n (i := 0) d_M_work_76 rfl) (.cons (v_getI (k := 25) k_M (by decide) (Or.inl rfl) (Or.inl w_1486) d_M_work_77) (.cons (v_aload_n (i := 0) d_M_work_80 rfl) (.cons (v_getA (k := 38) k_M (by decide) rfl (Or.inl w_1499) d_M_work_81) (.cons (v_aload_n (i := 0) d_M_work_84 rfl) (.cons (v_getA (k := 39) k_M (by decide) rfl (Or.inl w_1500) d_M_work_85) (.cons (v_aload_n (i := 0) d_M_work_88 rfl) (.cons (v_getI (k := 25) k_M (by decide) (Or.inl rfl) (Or.inl w_1486) d_M_work_89) .nil)))))))))
theorem d_M_work_92 : decode y_M_work.2.1 92 = .ok (.iaload, 1) := by decide +kernel
theorem d_M_work_93 : decode y_M_work.2.1 93 = .ok (.iaload, 1) := by decide +kernel
theorem d_M_work_94 : decode y_M_work.2.1 94 = .ok (.iastore, 1) := by decide +kernel
theorem d_M_work_95 : decode y_M_work.2.1 95 = .ok (.iconst 0, 1) := by decide +kernel
theorem s_M_work_95 : aw_VS y_M_work 95 [o_c (.int (0 : Int32))] 96 := .cons (v_iconst (v := (0 : Int32)) d_M_work_95 (by decide +kernel)) .nil
theorem d_M_work_96 : decode y_M_work.2.1 96 = .ok (.ireturn, 1) := by decide +kernel
theorem d_M_work_70 : decode y_M_work.2.1 70 = .ok (.iconst 3, 1) := by decide +kernel
theorem s_M_work_70 : aw_VS y_M_work 70 [o_c (.int (3 : Int32))] 71 := .cons (v_iconst (v := (3 : Int32)) d_M_work_70 (by decide +kernel)) .nil
theorem d_M_work_71 : decode y_M_work.2.1 71 = .ok (.ireturn, 1) := by decide +kernel
theorem b_M_work_0 {X : aw_X} {d : Nat} {Q : Option Value → aw_H → Prop} {I : Nat → Nat → Int32} {L : Nat → Nat → Int64} {D : Nat → Nat} {v1 : Int32} {v2 : Int32}
    (h1 : v1 = (2 : Int32) → aw_z X (d + 1) y_M_work Q 10 [some (.ref 69), some (.int v1), some (.int v2)] [] (aw_s I L D))
    (h2 : ¬ v1 = (2 : Int32) → ¬ v1 = (3 : Int32) → ¬ v1 = (4 : Int32) → aw_m X d y_M_isIn [.int v1, .int (5 : Int32), .int (8 : Int32)] (aw_s I L D) (fun r A => aw_z X (d + 1) y_M_work Q 104 [some (.ref 69), some (.int v1), none] (r.toList ++ []) A))
    (h3 : ¬ v1 = (2 : Int32) → ¬ v1 = (3 : Int32) → v1 = (4 : Int32) → vp_in (I 69 25) 400)
    (h4 : ¬ v1 = (2 : Int32) → ¬ v1 = (3 : Int32) → v1 = (4 : Int32) → (I 86 ((I 69 25).toNatClampNeg)) ≤ (7 : Int32) → vp_in (I 69 25) 400)
    (h5 : ¬ v1 = (2 : Int32) → ¬ v1 = (3 : Int32) → v1 = (4 : Int32) → (I 86 ((I 69 25).toNatClampNeg)) ≤ (7 : Int32) → vp_in (I 86 ((I 69 25).toNatClampNeg)) 8)
    (h6 : ¬ v1 = (2 : Int32) → ¬ v1 = (3 : Int32) → v1 = (4 : Int32) → (I 86 ((I 69 25).toNatClampNeg)) ≤ (7 : Int32) → vp_in (I 69 25) 400)
    (h7 : ¬ v1 = (2 : Int32) → ¬ v1 = (3 : Int32) → v1 = (4 : Int32) → (I 86 ((I 69 25).toNatClampNeg)) ≤ (7 : Int32) → Q (some (.int (0 : Int32))) (aw_s (aw_u I 86 ((I 69 25).toNatClampNeg) (I 85 ((I 86 ((I 69 25).toNatClampNeg)).toNatClampNeg))) L D))
    (h8 : ¬ v1 = (2 : Int32) → ¬ v1 = (3 : Int32) → v1 = (4 : Int32) → ¬ (I 86 ((I 69 25).toNatClampNeg)) ≤ (7 : Int32) → Q (some (.int (3 : Int32))) (aw_s I L D))
    (h9 : ¬ v1 = (2 : Int32) → v1 = (3 : Int32) → aw_z X (d + 1) y_M_work Q 10 [some (.ref 69), some (.int v1), some (.int v2)] [] (aw_s I L D)) :
    aw_z X (d + 1) y_M_work Q 0 [some (.ref 69), some (.int v1), some (.int v2)] [] (aw_s I L D) :=
  (s_M_work_0.go [some (.ref 69), some (.int v1), some (.int v2)] [.int (2 : Int32), .int v1] (aw_s I L D) rfl (z_icmp_eq (tgt := 10) d_M_work_2 rfl (fun q1 => (h1 q1)) (fun q2 => (s_M_work_5.go [some (.ref 69), some (.int v1), some (.int v2)] [.int (3 : Int32), .int v1] (aw_s I L D) rfl (z_icmp_ne (tgt := 51) d_M_work_7 rfl (fun q3 => (s_M_work_51.go [some (.ref 69), some (.int v1), some (.int v2)] [.int (4 : Int32), .int v1] (aw_s I L D) rfl (z_icmp_ne (tgt := 97) d_M_work_53 rfl (fun q5 => (s_M_work_97.go [some (.ref 69), some (.int v1), some (.int v2)] [.int (8 : Int32), .int (5 : Int32), .int v1] (aw_s I L D) rfl (z_callS (av := [.int v1, .int (5 : Int32), .int (8 : Int32)]) (st := []) ok_M_isIn (Or.inl w_1873) w_1874 d_M_work_101 rfl rfl (Nat.le_of_ble_eq_true rfl) (Nat.le_refl _) (Nat.le_refl _) (aw_C.mono (h2 q2 q3 q5) (fun _ _ zz => aw_Z.weak (ls' := [some (.ref 69), some (.int v1), none]) zz (Nat.le_of_ble_eq_true rfl) ⟨Or.inr rfl, ⟨Or.inr rfl, ⟨Or.inl rfl, trivial⟩⟩⟩))))) (fun q6 => (s_M_work_56.go [some (.ref 69), some (.int v1), some (.int v2)] [.int (I 69 25), .ref 86] (aw_s I L D) rfl (z_iald (n := 400) rfl (aw_lt (o := 86) rfl) (h3 q2 q3 q6) d_M_work_64 (s_M_work_65.go [some (.ref 69), some (.int v1), some (.int v2)] [.int (7 : Int32), .int (I 86 ((I 69 25).toNatClampNeg))] (aw_s I L D) rfl (z_icmp_le (tgt := 72) d_M_work_67 rfl (fun q7 => (s_M_work_72.go [some (.ref 69), some (.int v1), some (.int v2)] [.int (I 69 25), .ref 86, .ref 85, .int (I 69 25), .ref 86] (aw_s I L D) rfl (z_iald (n := 400) rfl (aw_lt (o := 86) rfl) (h4 q2 q3 q6 q7) d_M_work_92 (z_iald (n := 8) rfl (aw_lt (o := 85) rfl) (h5 q2 q3 q6 q7) d_M_work_93 (z_iast (n := 400) rfl (aw_lt (o := 86) rfl) (h6 q2 q3 q6 q7) d_M_work_94 (s_M_work_95.go [some (.ref 69), some (.int v1), some (.int v2)] [.int (0 : Int32)] (aw_s (aw_u I 86 ((I 69 25).toNatClampNeg) (I 85 ((I 86 ((I 69 25).toNatClampNeg)).toNatClampNeg))) L D) rfl (z_iret d_M_work_96 rfl rfl (h7 q2 q3 q6 q7)))))))) (fun q8 => (s_M_work_70.go [some (.ref 69), some (.int v1), some (.int v2)] [.int (3 : Int32)] (aw_s I L D) rfl (z_iret d_M_work_71 rfl rfl (h8 q2 q3 q6 q8)))))))))))) (fun q4 => (h9 q2 q4)))))))
theorem d_M_work_10 : decode y_M_work.2.1 10 = .ok (.aload_n 0, 1) := by decide +kernel
theorem d_M_work_11 : decode y_M_work.2.1 11 = .ok (.dup, 1) := by decide +kernel
theorem d_M_work_12 : decode y_M_work.2.1 12 = .ok (.getfield 231, 3) := by decide +kernel
theorem d_M_work_15 : decode y_M_work.2.1 15 = .ok (.iconst 1, 1) := by decide +kernel
theorem d_M_work_16 : decode y_M_work.2.1 16 = .ok (.iadd, 1) := by decide +kernel
theorem d_M_work_17 : decode y_M_work.2.1 17 = .ok (.putfield 231, 3) := by decide +kernel
theorem d_M_work_20 : decode y_M_work.2.1 20 = .ok (.aload_n 0, 1) := by decide +kernel
theorem d_M_work_21 : decode y_M_work.2.1 21 = .ok (.getfield 66, 3) := by decide +kernel
theorem d_M_work_24 : decode y_M_work.2.1 24 = .ok (.aload_n 0, 1) := by decide +kernel
theorem d_M_work_25 : decode y_M_work.2.1 25 = .ok (.getfield 231, 3) := by decide +kernel
theorem d_M_work_28 : decode y_M_work.2.1 28 = .ok (.iload_n 1, 1) := by decide +kernel
theorem d_M_work_29 : decode y_M_work.2.1 29 = .ok (.iconst 2, 1) := by decide +kernel
theorem s_M_work_10 : aw_VS y_M_work 10 [o_ald 0, o_dup, o_getI 9 25, o_c (.int (1 : Int32)), o_i2 (fun x z => x + z), o_putI 9 25, o_ald 0, o_getA 9 39, o_ald 0, o_getI 9 25, o_ild 1, o_c (.int (2 : Int32))] 30 := .cons (v_aload_n (i := 0) d_M_work_10 rfl) (.cons (v_dup d_M_work_11) (.cons (v_getI (k := 25) k_M (by decide) (Or.inl rfl) (Or.inl w_1486) d_M_work_12) (.cons (v_iconst (v := (1 : Int32)) d_M_work_15 (by decide +kernel)) (.cons (v_iadd d_M_work_16) (.cons (v_putI (k := 25) k_M (by decide) rfl (Or.inl ⟨rfl, Or.inl w_1486⟩) d_M_work_17) (.cons (v_aload_n (i := 0) d_M_work_20 rfl) (.cons (v_getA (k := 39) k_M (by decide) rfl (Or.inl w_1500) d_M_work_21) (.cons (v_aload_n (i := 0) d_M_work_24 rfl) (.cons (v_getI (k := 25) k_M (by decide) (Or.inl rfl) (Or.inl w_1486) d_M_work_25) (.cons (v_iload_n (i := 1) d_M_work_28 rfl) (.cons (v_iconst (v := (2 : Int32)) d_M_work_29 (by decide +kernel)) .nil)))))))))))
theorem d_M_work_30 : decode y_M_work.2.1 30 = .ok (.if_icmp .ne (12), 3) := by decide +kernel
theorem d_M_work_42 : decode y_M_work.2.1 42 = .ok (.aload_n 0, 1) := by decide +kernel
theorem d_M_work_43 : decode y_M_work.2.1 43 = .ok (.getfield 60, 3) := by decide +kernel
theorem d_M_work_46 : decode y_M_work.2.1 46 = .ok (.iload_n 2, 1) := by decide +kernel
theorem s_M_work_42 : aw_VS y_M_work 42 [o_ald 0, o_getA 9 37, o_ild 2] 47 := .cons (v_aload_n (i := 0) d_M_work_42 rfl) (.cons (v_getA (k := 37) k_M (by decide) rfl (Or.inl w_1498) d_M_work_43) (.cons (v_iload_n (i := 2) d_M_work_46 rfl) .nil))
theorem d_M_work_47 : decode y_M_work.2.1 47 = .ok (.iaload, 1) := by decide +kernel
theorem d_M_work_33 : decode y_M_work.2.1 33 = .ok (.iload_n 2, 1) := by decide +kernel
theorem d_M_work_34 : decode y_M_work.2.1 34 = .ok (.aload_n 0, 1) := by decide +kernel
theorem s_M_work_33 : aw_VS y_M_work 33 [o_ild 2, o_ald 0] 35 := .cons (v_iload_n (i := 2) d_M_work_33 rfl) (.cons (v_aload_n (i := 0) d_M_work_34 rfl) .nil)
theorem d_M_work_35 : decode y_M_work.2.1 35 = .ok (.invokevirtual 366, 3) := by decide +kernel
theorem b_M_work_10 {X : aw_X} {d : Nat} {Q : Option Value → aw_H → Prop} {I : Nat → Nat → Int32} {L : Nat → Nat → Int64} {D : Nat → Nat} {v1 : Int32} {v2 : Int32}
    (h1 : ¬ v1 = (2 : Int32) → vp_in v2 8)
    (h2 : ¬ v1 = (2 : Int32) → aw_z X (d + 1) y_M_work Q 48 [none, none, none] [.int (I 84 v2.toNatClampNeg), .int ((I 69 25) + (1 : Int32)), .ref 86] (aw_s (aw_u I 69 25 ((I 69 25) + (1 : Int32))) L D))
    (h3 : v1 = (2 : Int32) → aw_m X d y_M_mask [.ref 69] (aw_s (aw_u I 69 25 ((I 69 25) + (1 : Int32))) L D) (fun r A => aw_z X (d + 1) y_M_work Q 38 [none, none, none] (r.toList ++ [.int v2, .int ((I 69 25) + (1 : Int32)), .ref 86]) A)) :
    aw_z X (d + 1) y_M_work Q 10 [some (.ref 69), some (.int v1), some (.int v2)] [] (aw_s I L D) :=
  (s_M_work_10.go [some (.ref 69), some (.int v1), some (.int v2)] [.int (2 : Int32), .int v1, .int ((I 69 25) + (1 : Int32)), .ref 86] (aw_s (aw_u I 69 25 ((I 69 25) + (1 : Int32))) L D) rfl (z_icmp_ne (tgt := 42) d_M_work_30 rfl (fun q1 => (s_M_work_42.go [some (.ref 69), some (.int v1), some (.int v2)] [.int v2, .ref 84, .int ((I 69 25) + (1 : Int32)), .ref 86] (aw_s (aw_u I 69 25 ((I 69 25) + (1 : Int32))) L D) rfl (z_iald (n := 8) rfl (aw_lt (o := 84) rfl) (h1 q1) d_M_work_47 (aw_Z.weak (ls' := [none, none, none]) (h2 q1) (Nat.le_of_ble_eq_true rfl) ⟨Or.inl rfl, ⟨Or.inl rfl, ⟨Or.inl rfl, trivial⟩⟩⟩)))) (fun q2 => (s_M_work_33.go [some (.ref 69), some (.int v1), some (.int v2)] [.ref 69, .int v2, .int ((I 69 25) + (1 : Int32)), .ref 86] (aw_s (aw_u I 69 25 ((I 69 25) + (1 : Int32))) L D) rfl (z_callV (av := []) (st := [.int v2, .int ((I 69 25) + (1 : Int32)), .ref 86]) ok_M_mask (Or.inl w_1931) w_1933 w_109 k_M d_M_work_35 rfl (aw_lt (o := 69) rfl) rfl rfl (Nat.le_of_ble_eq_true rfl) (Nat.le_refl _) (Nat.le_refl _) (aw_C.mono (h3 q2) (fun _ _ zz => aw_Z.weak (ls' := [none, none, none]) zz (Nat.le_of_ble_eq_true rfl) ⟨Or.inl rfl, ⟨Or.inl rfl, ⟨Or.inl rfl, trivial⟩⟩⟩)))))))
theorem d_M_work_104 : decode y_M_work.2.1 104 = .ok (.ifCond .eq (9), 3) := by decide +kernel
theorem d_M_work_113 : decode y_M_work.2.1 113 = .ok (.iload_n 1, 1) := by decide +kernel
theorem d_M_work_114 : decode y_M_work.2.1 114 = .ok (.bipush 9, 2) := by decide +kernel
theorem d_M_work_116 : decode y_M_work.2.1 116 = .ok (.bipush 14, 2) := by decide +kernel
theorem s_M_work_113 : aw_VS y_M_work 113 [o_ild 1, o_c (.int (9 : Int32)), o_c (.int (14 : Int32))] 118 := .cons (v_iload_n (i := 1) d_M_work_113 rfl) (.cons (v_bipush (v := (9 : Int32)) d_M_work_114 (by decide +kernel)) (.cons (v_bipush (v := (14 : Int32)) d_M_work_116 (by decide +kernel)) .nil))
theorem d_M_work_118 : decode y_M_work.2.1 118 = .ok (.invokestatic 234, 3) := by decide +kernel
theorem d_M_work_107 : decode y_M_work.2.1 107 = .ok (.aload_n 0, 1) := by decide +kernel
theorem d_M_work_108 : decode y_M_work.2.1 108 = .ok (.iload_n 1, 1) := by decide +kernel
theorem s_M_work_107 : aw_VS y_M_work 107 [o_ald 0, o_ild 1] 109 := .cons (v_aload_n (i := 0) d_M_work_107 rfl) (.cons (v_iload_n (i := 1) d_M_work_108 rfl) .nil)
theorem d_M_work_109 : decode y_M_work.2.1 109 = .ok (.invokevirtual 372, 3) := by decide +kernel
theorem b_M_work_104 {X : aw_X} {d : Nat} {Q : Option Value → aw_H → Prop} {I : Nat → Nat → Int32} {L : Nat → Nat → Int64} {D : Nat → Nat} {v1 : Int32} {s0 : Int32}
    (h1 : s0 = 0 → aw_m X d y_M_isIn [.int v1, .int (9 : Int32), .int (14 : Int32)] (aw_s I L D) (fun r A => aw_z X (d + 1) y_M_work Q 121 [some (.ref 69), some (.int v1), none] (r.toList ++ []) A))
    (h2 : ¬ s0 = 0 → aw_m X d y_M_reckon [.ref 69, .int v1] (aw_s I L D) (fun r A => aw_z X (d + 1) y_M_work Q 112 [none, none, none] (r.toList ++ []) A)) :
    aw_z X (d + 1) y_M_work Q 104 [some (.ref 69), some (.int v1), none] [.int s0] (aw_s I L D) :=
  (z_if_eq (tgt := 113) d_M_work_104 rfl (fun q1 => (s_M_work_113.go [some (.ref 69), some (.int v1), none] [.int (14 : Int32), .int (9 : Int32), .int v1] (aw_s I L D) rfl (z_callS (av := [.int v1, .int (9 : Int32), .int (14 : Int32)]) (st := []) ok_M_isIn (Or.inl w_1873) w_1874 d_M_work_118 rfl rfl (Nat.le_of_ble_eq_true rfl) (Nat.le_refl _) (Nat.le_refl _) (h1 q1)))) (fun q2 => (s_M_work_107.go [some (.ref 69), some (.int v1), none] [.int v1, .ref 69] (aw_s I L D) rfl (z_callV (av := [.int v1]) (st := []) ok_M_reckon (Or.inl w_1939) w_1941 w_111 k_M d_M_work_109 rfl (aw_lt (o := 69) rfl) rfl rfl (Nat.le_of_ble_eq_true rfl) (Nat.le_refl _) (Nat.le_refl _) (aw_C.mono (h2 q2) (fun _ _ zz => aw_Z.weak (ls' := [none, none, none]) zz (Nat.le_of_ble_eq_true rfl) ⟨Or.inl rfl, ⟨Or.inl rfl, ⟨Or.inl rfl, trivial⟩⟩⟩))))))
theorem d_M_work_48 : decode y_M_work.2.1 48 = .ok (.iastore, 1) := by decide +kernel
theorem d_M_work_49 : decode y_M_work.2.1 49 = .ok (.iconst 0, 1) := by decide +kernel
theorem s_M_work_49 : aw_VS y_M_work 49 [o_c (.int (0 : Int32))] 50 := .cons (v_iconst (v := (0 : Int32)) d_M_work_49 (by decide +kernel)) .nil
theorem d_M_work_50 : decode y_M_work.2.1 50 = .ok (.ireturn, 1) := by decide +kernel
theorem b_M_work_48 {X : aw_X} {d : Nat} {Q : Option Value → aw_H → Prop} {I : Nat → Nat → Int32} {L : Nat → Nat → Int64} {D : Nat → Nat} {s2 : Int32} {s1 : Int32}
    (h1 : vp_in s1 400)
    (h2 : Q (some (.int (0 : Int32))) (aw_s (aw_u I 86 s1.toNatClampNeg s2) L D)) :
    aw_z X (d + 1) y_M_work Q 48 [none, none, none] [.int s2, .int s1, .ref 86] (aw_s I L D) :=
  (z_iast (n := 400) rfl (aw_lt (o := 86) rfl) (h1) d_M_work_48 (s_M_work_49.go [none, none, none] [.int (0 : Int32)] (aw_s (aw_u I 86 s1.toNatClampNeg s2) L D) rfl (z_iret d_M_work_50 rfl rfl (h2))))
theorem d_M_work_38 : decode y_M_work.2.1 38 = .ok (.iand, 1) := by decide +kernel
theorem s_M_work_38 : aw_VS y_M_work 38 [o_i2 (fun x z => x &&& z)] 39 := .cons (v_iand d_M_work_38) .nil
theorem d_M_work_39 : decode y_M_work.2.1 39 = .ok (.goto (9), 3) := by decide +kernel
theorem b_M_work_38 {X : aw_X} {d : Nat} {Q : Option Value → aw_H → Prop} {I : Nat → Nat → Int32} {L : Nat → Nat → Int64} {D : Nat → Nat} {s3 : Int32} {s2 : Int32} {s1 : Int32}
    (h1 : aw_z X (d + 1) y_M_work Q 48 [none, none, none] [.int (s2 &&& s3), .int s1, .ref 86] (aw_s I L D)) :
    aw_z X (d + 1) y_M_work Q 38 [none, none, none] [.int s3, .int s2, .int s1, .ref 86] (aw_s I L D) :=
  (s_M_work_38.go [none, none, none] [.int (s2 &&& s3), .int s1, .ref 86] (aw_s I L D) rfl (z_goto (tgt := 48) d_M_work_39 rfl (h1)))
theorem d_M_work_121 : decode y_M_work.2.1 121 = .ok (.ifCond .ne (5), 3) := by decide +kernel
theorem d_M_work_126 : decode y_M_work.2.1 126 = .ok (.aload_n 0, 1) := by decide +kernel
theorem d_M_work_127 : decode y_M_work.2.1 127 = .ok (.iload_n 1, 1) := by decide +kernel
theorem s_M_work_126 : aw_VS y_M_work 126 [o_ald 0, o_ild 1] 128 := .cons (v_aload_n (i := 0) d_M_work_126 rfl) (.cons (v_iload_n (i := 1) d_M_work_127 rfl) .nil)
theorem d_M_work_128 : decode y_M_work.2.1 128 = .ok (.invokevirtual 375, 3) := by decide +kernel
theorem d_M_work_124 : decode y_M_work.2.1 124 = .ok (.iconst (-1), 1) := by decide +kernel
theorem s_M_work_124 : aw_VS y_M_work 124 [o_c (.int (-1 : Int32))] 125 := .cons (v_iconst (v := (-1 : Int32)) d_M_work_124 (by decide +kernel)) .nil
theorem d_M_work_125 : decode y_M_work.2.1 125 = .ok (.ireturn, 1) := by decide +kernel
theorem b_M_work_121 {X : aw_X} {d : Nat} {Q : Option Value → aw_H → Prop} {I : Nat → Nat → Int32} {L : Nat → Nat → Int64} {D : Nat → Nat} {v1 : Int32} {s0 : Int32}
    (h1 : ¬ s0 = 0 → aw_m X d y_M_judge [.ref 69, .int v1] (aw_s I L D) (fun r A => aw_z X (d + 1) y_M_work Q 131 [none, none, none] (r.toList ++ []) A))
    (h2 : s0 = 0 → Q (some (.int (-1 : Int32))) (aw_s I L D)) :
    aw_z X (d + 1) y_M_work Q 121 [some (.ref 69), some (.int v1), none] [.int s0] (aw_s I L D) :=
  (z_if_ne (tgt := 126) d_M_work_121 rfl (fun q1 => (s_M_work_126.go [some (.ref 69), some (.int v1), none] [.int v1, .ref 69] (aw_s I L D) rfl (z_callV (av := [.int v1]) (st := []) ok_M_judge (Or.inl w_1943) w_1945 w_112 k_M d_M_work_128 rfl (aw_lt (o := 69) rfl) rfl rfl (Nat.le_of_ble_eq_true rfl) (Nat.le_refl _) (Nat.le_refl _) (aw_C.mono (h1 q1) (fun _ _ zz => aw_Z.weak (ls' := [none, none, none]) zz (Nat.le_of_ble_eq_true rfl) ⟨Or.inl rfl, ⟨Or.inl rfl, ⟨Or.inl rfl, trivial⟩⟩⟩))))) (fun q2 => (s_M_work_124.go [some (.ref 69), some (.int v1), none] [.int (-1 : Int32)] (aw_s I L D) rfl (z_iret d_M_work_125 rfl rfl (h2 q2)))))
theorem d_M_work_112 : decode y_M_work.2.1 112 = .ok (.ireturn, 1) := by decide +kernel
theorem b_M_work_112 {X : aw_X} {d : Nat} {Q : Option Value → aw_H → Prop} {I : Nat → Nat → Int32} {L : Nat → Nat → Int64} {D : Nat → Nat} {s0 : Int32}
    (h1 : Q (some (.int s0)) (aw_s I L D)) :
    aw_z X (d + 1) y_M_work Q 112 [none, none, none] [.int s0] (aw_s I L D) :=
  (z_iret d_M_work_112 rfl rfl (h1))
theorem d_M_work_131 : decode y_M_work.2.1 131 = .ok (.iconst 0, 1) := by decide +kernel
theorem s_M_work_131 : aw_VS y_M_work 131 [o_c (.int (0 : Int32))] 132 := .cons (v_iconst (v := (0 : Int32)) d_M_work_131 (by decide +kernel)) .nil
theorem d_M_work_132 : decode y_M_work.2.1 132 = .ok (.ireturn, 1) := by decide +kernel
theorem b_M_work_131 {X : aw_X} {d : Nat} {Q : Option Value → aw_H → Prop} {I : Nat → Nat → Int32} {L : Nat → Nat → Int64} {D : Nat → Nat} 
    (h1 : Q (some (.int (0 : Int32))) (aw_s I L D)) :
    aw_z X (d + 1) y_M_work Q 131 [none, none, none] [] (aw_s I L D) :=
  (s_M_work_131.go [none, none, none] [.int (0 : Int32)] (aw_s I L D) rfl (z_iret d_M_work_132 rfl rfl (h1)))
/-! M_reckon -/
theorem d_M_reckon_0 : decode y_M_reckon.2.1 0 = .ok (.aload_n 0, 1) := by decide +kernel
theorem d_M_reckon_1 : decode y_M_reckon.2.1 1 = .ok (.getfield 66, 3) := by decide +kernel
theorem d_M_reckon_4 : decode y_M_reckon.2.1 4 = .ok (.aload_n 0, 1) := by decide +kernel
theorem d_M_reckon_5 : decode y_M_reckon.2.1 5 = .ok (.getfield 231, 3) := by decide +kernel
theorem s_M_reckon_0 : aw_VS y_M_reckon 0 [o_ald 0, o_getA 9 39, o_ald 0, o_getI 9 25] 8 := .cons (v_aload_n (i := 0) d_M_reckon_0 rfl) (.cons (v_getA (k := 39) k_M (by decide) rfl (Or.inl w_1500) d_M_reckon_1) (.cons (v_aload_n (i := 0) d_M_reckon_4 rfl) (.cons (v_getI (k := 25) k_M (by decide) (Or.inl rfl) (Or.inl w_1486) d_M_reckon_5) .nil)))
theorem d_M_reckon_8 : decode y_M_reckon.2.1 8 = .ok (.iaload, 1) := by decide +kernel
theorem d_M_reckon_9 : decode y_M_reckon.2.1 9 = .ok (.istore_n 2, 1) := by decide +kernel
theorem d_M_reckon_10 : decode y_M_reckon.2.1 10 = .ok (.aload_n 0, 1) := by decide +kernel
theorem d_M_reckon_11 : decode y_M_reckon.2.1 11 = .ok (.getfield 66, 3) := by decide +kernel
theorem d_M_reckon_14 : decode y_M_reckon.2.1 14 = .ok (.aload_n 0, 1) := by decide +kernel
theorem d_M_reckon_15 : decode y_M_reckon.2.1 15 = .ok (.getfield 231, 3) := by decide +kernel
theorem d_M_reckon_18 : decode y_M_reckon.2.1 18 = .ok (.iconst 1, 1) := by decide +kernel
theorem d_M_reckon_19 : decode y_M_reckon.2.1 19 = .ok (.isub, 1) := by decide +kernel
theorem s_M_reckon_9 : aw_VS y_M_reckon 9 [o_ist 2, o_ald 0, o_getA 9 39, o_ald 0, o_getI 9 25, o_c (.int (1 : Int32)), o_i2 (fun x z => x - z)] 20 := .cons (v_istore_n d_M_reckon_9) (.cons (v_aload_n (i := 0) d_M_reckon_10 rfl) (.cons (v_getA (k := 39) k_M (by decide) rfl (Or.inl w_1500) d_M_reckon_11) (.cons (v_aload_n (i := 0) d_M_reckon_14 rfl) (.cons (v_getI (k := 25) k_M (by decide) (Or.inl rfl) (Or.inl w_1486) d_M_reckon_15) (.cons (v_iconst (v := (1 : Int32)) d_M_reckon_18 (by decide +kernel)) (.cons (v_isub d_M_reckon_19) .nil))))))
theorem d_M_reckon_20 : decode y_M_reckon.2.1 20 = .ok (.iaload, 1) := by decide +kernel
theorem d_M_reckon_21 : decode y_M_reckon.2.1 21 = .ok (.istore_n 3, 1) := by decide +kernel
theorem d_M_reckon_22 : decode y_M_reckon.2.1 22 = .ok (.iload_n 1, 1) := by decide +kernel
theorem d_M_reckon_23 : decode y_M_reckon.2.1 23 = .ok (.bipush 8, 2) := by decide +kernel
theorem s_M_reckon_21 : aw_VS y_M_reckon 21 [o_ist 3, o_ild 1, o_c (.int (8 : Int32))] 25 := .cons (v_istore_n d_M_reckon_21) (.cons (v_iload_n (i := 1) d_M_reckon_22 rfl) (.cons (v_bipush (v := (8 : Int32)) d_M_reckon_23 (by decide +kernel)) .nil))
theorem d_M_reckon_25 : decode y_M_reckon.2.1 25 = .ok (.if_icmp .ne (9), 3) := by decide +kernel
theorem d_M_reckon_28 : decode y_M_reckon.2.1 28 = .ok (.iload_n 2, 1) := by decide +kernel
theorem s_M_reckon_28 : aw_VS y_M_reckon 28 [o_ild 2] 29 := .cons (v_iload_n (i := 2) d_M_reckon_28 rfl) .nil
theorem d_M_reckon_29 : decode y_M_reckon.2.1 29 = .ok (.ifCond .ne (5), 3) := by decide +kernel
theorem d_M_reckon_32 : decode y_M_reckon.2.1 32 = .ok (.iconst 2, 1) := by decide +kernel
theorem s_M_reckon_32 : aw_VS y_M_reckon 32 [o_c (.int (2 : Int32))] 33 := .cons (v_iconst (v := (2 : Int32)) d_M_reckon_32 (by decide +kernel)) .nil
theorem d_M_reckon_33 : decode y_M_reckon.2.1 33 = .ok (.ireturn, 1) := by decide +kernel
theorem b_M_reckon_0 {X : aw_X} {d : Nat} {Q : Option Value → aw_H → Prop} {I : Nat → Nat → Int32} {L : Nat → Nat → Int64} {D : Nat → Nat} {v1 : Int32}
    (h1 : vp_in (I 69 25) 400)
    (h2 : vp_in ((I 69 25) - (1 : Int32)) 400)
    (h3 : ¬ v1 = (8 : Int32) → aw_z X (d + 1) y_M_reckon Q 34 [some (.ref 69), some (.int v1), some (.int (I 86 ((I 69 25).toNatClampNeg))), some (.int (I 86 (((I 69 25) - (1 : Int32)).toNatClampNeg)))] [] (aw_s I L D))
    (h4 : v1 = (8 : Int32) → ¬ (I 86 ((I 69 25).toNatClampNeg)) = 0 → aw_z X (d + 1) y_M_reckon Q 34 [some (.ref 69), some (.int v1), some (.int (I 86 ((I 69 25).toNatClampNeg))), some (.int (I 86 (((I 69 25) - (1 : Int32)).toNatClampNeg)))] [] (aw_s I L D))
    (h5 : v1 = (8 : Int32) → (I 86 ((I 69 25).toNatClampNeg)) = 0 → Q (some (.int (2 : Int32))) (aw_s I L D)) :
    aw_z X (d + 1) y_M_reckon Q 0 [some (.ref 69), some (.int v1), none, none] [] (aw_s I L D) :=
  (s_M_reckon_0.go [some (.ref 69), some (.int v1), none, none] [.int (I 69 25), .ref 86] (aw_s I L D) rfl (z_iald (n := 400) rfl (aw_lt (o := 86) rfl) (h1) d_M_reckon_8 (s_M_reckon_9.go [some (.ref 69), some (.int v1), some (.int (I 86 ((I 69 25).toNatClampNeg))), none] [.int ((I 69 25) - (1 : Int32)), .ref 86] (aw_s I L D) rfl (z_iald (n := 400) rfl (aw_lt (o := 86) rfl) (h2) d_M_reckon_20 (s_M_reckon_21.go [some (.ref 69), some (.int v1), some (.int (I 86 ((I 69 25).toNatClampNeg))), some (.int (I 86 (((I 69 25) - (1 : Int32)).toNatClampNeg)))] [.int (8 : Int32), .int v1] (aw_s I L D) rfl (z_icmp_ne (tgt := 34) d_M_reckon_25 rfl (fun q1 => (h3 q1)) (fun q2 => (s_M_reckon_28.go [some (.ref 69), some (.int v1), some (.int (I 86 ((I 69 25).toNatClampNeg))), some (.int (I 86 (((I 69 25) - (1 : Int32)).toNatClampNeg)))] [.int (I 86 ((I 69 25).toNatClampNeg))] (aw_s I L D) rfl (z_if_ne (tgt := 34) d_M_reckon_29 rfl (fun q3 => (h4 q2 q3)) (fun q4 => (s_M_reckon_32.go [some (.ref 69), some (.int v1), some (.int (I 86 ((I 69 25).toNatClampNeg))), some (.int (I 86 (((I 69 25) - (1 : Int32)).toNatClampNeg)))] [.int (2 : Int32)] (aw_s I L D) rfl (z_iret d_M_reckon_33 rfl rfl (h5 q2 q4)))))))))))))
theorem d_M_reckon_34 : decode y_M_reckon.2.1 34 = .ok (.aload_n 0, 1) := by decide +kernel
theorem d_M_reckon_35 : decode y_M_reckon.2.1 35 = .ok (.getfield 66, 3) := by decide +kernel
theorem d_M_reckon_38 : decode y_M_reckon.2.1 38 = .ok (.aload_n 0, 1) := by decide +kernel
theorem d_M_reckon_39 : decode y_M_reckon.2.1 39 = .ok (.getfield 231, 3) := by decide +kernel
theorem d_M_reckon_42 : decode y_M_reckon.2.1 42 = .ok (.iconst 1, 1) := by decide +kernel
theorem d_M_reckon_43 : decode y_M_reckon.2.1 43 = .ok (.isub, 1) := by decide +kernel
theorem d_M_reckon_44 : decode y_M_reckon.2.1 44 = .ok (.iload_n 1, 1) := by decide +kernel
theorem d_M_reckon_45 : decode y_M_reckon.2.1 45 = .ok (.iconst 5, 1) := by decide +kernel
theorem s_M_reckon_34 : aw_VS y_M_reckon 34 [o_ald 0, o_getA 9 39, o_ald 0, o_getI 9 25, o_c (.int (1 : Int32)), o_i2 (fun x z => x - z), o_ild 1, o_c (.int (5 : Int32))] 46 := .cons (v_aload_n (i := 0) d_M_reckon_34 rfl) (.cons (v_getA (k := 39) k_M (by decide) rfl (Or.inl w_1500) d_M_reckon_35) (.cons (v_aload_n (i := 0) d_M_reckon_38 rfl) (.cons (v_getI (k := 25) k_M (by decide) (Or.inl rfl) (Or.inl w_1486) d_M_reckon_39) (.cons (v_iconst (v := (1 : Int32)) d_M_reckon_42 (by decide +kernel)) (.cons (v_isub d_M_reckon_43) (.cons (v_iload_n (i := 1) d_M_reckon_44 rfl) (.cons (v_iconst (v := (5 : Int32)) d_M_reckon_45 (by decide +kernel)) .nil)))))))
theorem d_M_reckon_46 : decode y_M_reckon.2.1 46 = .ok (.if_icmp .ne (9), 3) := by decide +kernel
theorem d_M_reckon_55 : decode y_M_reckon.2.1 55 = .ok (.iload_n 1, 1) := by decide +kernel
theorem d_M_reckon_56 : decode y_M_reckon.2.1 56 = .ok (.bipush 6, 2) := by decide +kernel
theorem s_M_reckon_55 : aw_VS y_M_reckon 55 [o_ild 1, o_c (.int (6 : Int32))] 58 := .cons (v_iload_n (i := 1) d_M_reckon_55 rfl) (.cons (v_bipush (v := (6 : Int32)) d_M_reckon_56 (by decide +kernel)) .nil)
theorem d_M_reckon_58 : decode y_M_reckon.2.1 58 = .ok (.if_icmp .ne (9), 3) := by decide +kernel
theorem d_M_reckon_67 : decode y_M_reckon.2.1 67 = .ok (.iload_n 1, 1) := by decide +kernel
theorem d_M_reckon_68 : decode y_M_reckon.2.1 68 = .ok (.bipush 7, 2) := by decide +kernel
theorem s_M_reckon_67 : aw_VS y_M_reckon 67 [o_ild 1, o_c (.int (7 : Int32))] 70 := .cons (v_iload_n (i := 1) d_M_reckon_67 rfl) (.cons (v_bipush (v := (7 : Int32)) d_M_reckon_68 (by decide +kernel)) .nil)
theorem d_M_reckon_70 : decode y_M_reckon.2.1 70 = .ok (.if_icmp .ne (9), 3) := by decide +kernel
theorem d_M_reckon_79 : decode y_M_reckon.2.1 79 = .ok (.iload_n 3, 1) := by decide +kernel
theorem d_M_reckon_80 : decode y_M_reckon.2.1 80 = .ok (.iload_n 2, 1) := by decide +kernel
theorem s_M_reckon_79 : aw_VS y_M_reckon 79 [o_ild 3, o_ild 2] 81 := .cons (v_iload_n (i := 3) d_M_reckon_79 rfl) (.cons (v_iload_n (i := 2) d_M_reckon_80 rfl) .nil)
theorem d_M_reckon_81 : decode y_M_reckon.2.1 81 = .ok (.idiv, 1) := by decide +kernel
theorem d_M_reckon_73 : decode y_M_reckon.2.1 73 = .ok (.iload_n 3, 1) := by decide +kernel
theorem d_M_reckon_74 : decode y_M_reckon.2.1 74 = .ok (.iload_n 2, 1) := by decide +kernel
theorem d_M_reckon_75 : decode y_M_reckon.2.1 75 = .ok (.imul, 1) := by decide +kernel
theorem s_M_reckon_73 : aw_VS y_M_reckon 73 [o_ild 3, o_ild 2, o_i2 (fun x z => x * z)] 76 := .cons (v_iload_n (i := 3) d_M_reckon_73 rfl) (.cons (v_iload_n (i := 2) d_M_reckon_74 rfl) (.cons (v_imul d_M_reckon_75) .nil))
theorem d_M_reckon_76 : decode y_M_reckon.2.1 76 = .ok (.goto (6), 3) := by decide +kernel
theorem d_M_reckon_61 : decode y_M_reckon.2.1 61 = .ok (.iload_n 3, 1) := by decide +kernel
theorem d_M_reckon_62 : decode y_M_reckon.2.1 62 = .ok (.iload_n 2, 1) := by decide +kernel
theorem d_M_reckon_63 : decode y_M_reckon.2.1 63 = .ok (.isub, 1) := by decide +kernel
theorem s_M_reckon_61 : aw_VS y_M_reckon 61 [o_ild 3, o_ild 2, o_i2 (fun x z => x - z)] 64 := .cons (v_iload_n (i := 3) d_M_reckon_61 rfl) (.cons (v_iload_n (i := 2) d_M_reckon_62 rfl) (.cons (v_isub d_M_reckon_63) .nil))
theorem d_M_reckon_64 : decode y_M_reckon.2.1 64 = .ok (.goto (18), 3) := by decide +kernel
theorem d_M_reckon_49 : decode y_M_reckon.2.1 49 = .ok (.iload_n 3, 1) := by decide +kernel
theorem d_M_reckon_50 : decode y_M_reckon.2.1 50 = .ok (.iload_n 2, 1) := by decide +kernel
theorem d_M_reckon_51 : decode y_M_reckon.2.1 51 = .ok (.iadd, 1) := by decide +kernel
theorem s_M_reckon_49 : aw_VS y_M_reckon 49 [o_ild 3, o_ild 2, o_i2 (fun x z => x + z)] 52 := .cons (v_iload_n (i := 3) d_M_reckon_49 rfl) (.cons (v_iload_n (i := 2) d_M_reckon_50 rfl) (.cons (v_iadd d_M_reckon_51) .nil))
theorem d_M_reckon_52 : decode y_M_reckon.2.1 52 = .ok (.goto (30), 3) := by decide +kernel
theorem b_M_reckon_34 {X : aw_X} {d : Nat} {Q : Option Value → aw_H → Prop} {I : Nat → Nat → Int32} {L : Nat → Nat → Int64} {D : Nat → Nat} {v1 : Int32} {v2 : Int32} {v3 : Int32}
    (h1 : ¬ v1 = (5 : Int32) → ¬ v1 = (6 : Int32) → ¬ v1 = (7 : Int32) → ¬ v2 = 0)
    (h2 : ¬ v1 = (5 : Int32) → ¬ v1 = (6 : Int32) → ¬ v1 = (7 : Int32) → aw_z X (d + 1) y_M_reckon Q 82 [some (.ref 69), none, none, none] [.int (v3 / v2), .int ((I 69 25) - (1 : Int32)), .ref 86] (aw_s I L D))
    (h3 : ¬ v1 = (5 : Int32) → ¬ v1 = (6 : Int32) → v1 = (7 : Int32) → aw_z X (d + 1) y_M_reckon Q 82 [some (.ref 69), none, none, none] [.int (v3 * v2), .int ((I 69 25) - (1 : Int32)), .ref 86] (aw_s I L D))
    (h4 : ¬ v1 = (5 : Int32) → v1 = (6 : Int32) → aw_z X (d + 1) y_M_reckon Q 82 [some (.ref 69), none, none, none] [.int (v3 - v2), .int ((I 69 25) - (1 : Int32)), .ref 86] (aw_s I L D))
    (h5 : v1 = (5 : Int32) → aw_z X (d + 1) y_M_reckon Q 82 [some (.ref 69), none, none, none] [.int (v3 + v2), .int ((I 69 25) - (1 : Int32)), .ref 86] (aw_s I L D)) :
    aw_z X (d + 1) y_M_reckon Q 34 [some (.ref 69), some (.int v1), some (.int v2), some (.int v3)] [] (aw_s I L D) :=
  (s_M_reckon_34.go [some (.ref 69), some (.int v1), some (.int v2), some (.int v3)] [.int (5 : Int32), .int v1, .int ((I 69 25) - (1 : Int32)), .ref 86] (aw_s I L D) rfl (z_icmp_ne (tgt := 55) d_M_reckon_46 rfl (fun q1 => (s_M_reckon_55.go [some (.ref 69), some (.int v1), some (.int v2), some (.int v3)] [.int (6 : Int32), .int v1, .int ((I 69 25) - (1 : Int32)), .ref 86] (aw_s I L D) rfl (z_icmp_ne (tgt := 67) d_M_reckon_58 rfl (fun q3 => (s_M_reckon_67.go [some (.ref 69), some (.int v1), some (.int v2), some (.int v3)] [.int (7 : Int32), .int v1, .int ((I 69 25) - (1 : Int32)), .ref 86] (aw_s I L D) rfl (z_icmp_ne (tgt := 79) d_M_reckon_70 rfl (fun q5 => (s_M_reckon_79.go [some (.ref 69), some (.int v1), some (.int v2), some (.int v3)] [.int v2, .int v3, .int ((I 69 25) - (1 : Int32)), .ref 86] (aw_s I L D) rfl (z_idiv d_M_reckon_81 (h1 q1 q3 q5) (aw_Z.weak (ls' := [some (.ref 69), none, none, none]) (h2 q1 q3 q5) (Nat.le_of_ble_eq_true rfl) ⟨Or.inr rfl, ⟨Or.inl rfl, ⟨Or.inl rfl, ⟨Or.inl rfl, trivial⟩⟩⟩⟩)))) (fun q6 => (s_M_reckon_73.go [some (.ref 69), some (.int v1), some (.int v2), some (.int v3)] [.int (v3 * v2), .int ((I 69 25) - (1 : Int32)), .ref 86] (aw_s I L D) rfl (z_goto (tgt := 82) d_M_reckon_76 rfl (aw_Z.weak (ls' := [some (.ref 69), none, none, none]) (h3 q1 q3 q6) (Nat.le_of_ble_eq_true rfl) ⟨Or.inr rfl, ⟨Or.inl rfl, ⟨Or.inl rfl, ⟨Or.inl rfl, trivial⟩⟩⟩⟩))))))) (fun q4 => (s_M_reckon_61.go [some (.ref 69), some (.int v1), some (.int v2), some (.int v3)] [.int (v3 - v2), .int ((I 69 25) - (1 : Int32)), .ref 86] (aw_s I L D) rfl (z_goto (tgt := 82) d_M_reckon_64 rfl (aw_Z.weak (ls' := [some (.ref 69), none, none, none]) (h4 q1 q4) (Nat.le_of_ble_eq_true rfl) ⟨Or.inr rfl, ⟨Or.inl rfl, ⟨Or.inl rfl, ⟨Or.inl rfl, trivial⟩⟩⟩⟩))))))) (fun q2 => (s_M_reckon_49.go [some (.ref 69), some (.int v1), some (.int v2), some (.int v3)] [.int (v3 + v2), .int ((I 69 25) - (1 : Int32)), .ref 86] (aw_s I L D) rfl (z_goto (tgt := 82) d_M_reckon_52 rfl (aw_Z.weak (ls' := [some (.ref 69), none, none, none]) (h5 q2) (Nat.le_of_ble_eq_true rfl) ⟨Or.inr rfl, ⟨Or.inl rfl, ⟨Or.inl rfl, ⟨Or.inl rfl, trivial⟩⟩⟩⟩))))))
theorem d_M_reckon_82 : decode y_M_reckon.2.1 82 = .ok (.aload_n 0, 1) := by decide +kernel
theorem s_M_reckon_82 : aw_VS y_M_reckon 82 [o_ald 0] 83 := .cons (v_aload_n (i := 0) d_M_reckon_82 rfl) .nil
theorem d_M_reckon_83 : decode y_M_reckon.2.1 83 = .ok (.invokevirtual 366, 3) := by decide +kernel
theorem b_M_reckon_82 {X : aw_X} {d : Nat} {Q : Option Value → aw_H → Prop} {I : Nat → Nat → Int32} {L : Nat → Nat → Int64} {D : Nat → Nat} {s2 : Int32} {s1 : Int32}
    (h1 : aw_m X d y_M_mask [.ref 69] (aw_s I L D) (fun r A => aw_z X (d + 1) y_M_reckon Q 86 [some (.ref 69), none, none, none] (r.toList ++ [.int s2, .int s1, .ref 86]) A)) :
    aw_z X (d + 1) y_M_reckon Q 82 [some (.ref 69), none, none, none] [.int s2, .int s1, .ref 86] (aw_s I L D) :=
  (s_M_reckon_82.go [some (.ref 69), none, none, none] [.ref 69, .int s2, .int s1, .ref 86] (aw_s I L D) rfl (z_callV (av := []) (st := [.int s2, .int s1, .ref 86]) ok_M_mask (Or.inl w_1931) w_1933 w_109 k_M d_M_reckon_83 rfl (aw_lt (o := 69) rfl) rfl rfl (Nat.le_of_ble_eq_true rfl) (Nat.le_refl _) (Nat.le_refl _) (h1)))
theorem d_M_reckon_86 : decode y_M_reckon.2.1 86 = .ok (.iand, 1) := by decide +kernel
theorem s_M_reckon_86 : aw_VS y_M_reckon 86 [o_i2 (fun x z => x &&& z)] 87 := .cons (v_iand d_M_reckon_86) .nil
theorem d_M_reckon_87 : decode y_M_reckon.2.1 87 = .ok (.iastore, 1) := by decide +kernel
theorem d_M_reckon_88 : decode y_M_reckon.2.1 88 = .ok (.aload_n 0, 1) := by decide +kernel
theorem d_M_reckon_89 : decode y_M_reckon.2.1 89 = .ok (.dup, 1) := by decide +kernel
theorem d_M_reckon_90 : decode y_M_reckon.2.1 90 = .ok (.getfield 231, 3) := by decide +kernel
theorem d_M_reckon_93 : decode y_M_reckon.2.1 93 = .ok (.iconst 1, 1) := by decide +kernel
theorem d_M_reckon_94 : decode y_M_reckon.2.1 94 = .ok (.isub, 1) := by decide +kernel
theorem d_M_reckon_95 : decode y_M_reckon.2.1 95 = .ok (.putfield 231, 3) := by decide +kernel
theorem d_M_reckon_98 : decode y_M_reckon.2.1 98 = .ok (.iconst 0, 1) := by decide +kernel
theorem s_M_reckon_88 : aw_VS y_M_reckon 88 [o_ald 0, o_dup, o_getI 9 25, o_c (.int (1 : Int32)), o_i2 (fun x z => x - z), o_putI 9 25, o_c (.int (0 : Int32))] 99 := .cons (v_aload_n (i := 0) d_M_reckon_88 rfl) (.cons (v_dup d_M_reckon_89) (.cons (v_getI (k := 25) k_M (by decide) (Or.inl rfl) (Or.inl w_1486) d_M_reckon_90) (.cons (v_iconst (v := (1 : Int32)) d_M_reckon_93 (by decide +kernel)) (.cons (v_isub d_M_reckon_94) (.cons (v_putI (k := 25) k_M (by decide) rfl (Or.inl ⟨rfl, Or.inl w_1486⟩) d_M_reckon_95) (.cons (v_iconst (v := (0 : Int32)) d_M_reckon_98 (by decide +kernel)) .nil))))))
theorem d_M_reckon_99 : decode y_M_reckon.2.1 99 = .ok (.ireturn, 1) := by decide +kernel
theorem b_M_reckon_86 {X : aw_X} {d : Nat} {Q : Option Value → aw_H → Prop} {I : Nat → Nat → Int32} {L : Nat → Nat → Int64} {D : Nat → Nat} {s3 : Int32} {s2 : Int32} {s1 : Int32}
    (h1 : vp_in s1 400)
    (h2 : Q (some (.int (0 : Int32))) (aw_s (aw_u (aw_u I 86 s1.toNatClampNeg (s2 &&& s3)) 69 25 ((I 69 25) - (1 : Int32))) L D)) :
    aw_z X (d + 1) y_M_reckon Q 86 [some (.ref 69), none, none, none] [.int s3, .int s2, .int s1, .ref 86] (aw_s I L D) :=
  (s_M_reckon_86.go [some (.ref 69), none, none, none] [.int (s2 &&& s3), .int s1, .ref 86] (aw_s I L D) rfl (z_iast (n := 400) rfl (aw_lt (o := 86) rfl) (h1) d_M_reckon_87 (s_M_reckon_88.go [some (.ref 69), none, none, none] [.int (0 : Int32)] (aw_s (aw_u (aw_u I 86 s1.toNatClampNeg (s2 &&& s3)) 69 25 ((I 69 25) - (1 : Int32))) L D) rfl (z_iret d_M_reckon_99 rfl rfl (h2)))))
/-! M_judge -/
theorem d_M_judge_0 : decode y_M_judge.2.1 0 = .ok (.aload_n 0, 1) := by decide +kernel
theorem d_M_judge_1 : decode y_M_judge.2.1 1 = .ok (.getfield 66, 3) := by decide +kernel
theorem d_M_judge_4 : decode y_M_judge.2.1 4 = .ok (.aload_n 0, 1) := by decide +kernel
theorem d_M_judge_5 : decode y_M_judge.2.1 5 = .ok (.getfield 231, 3) := by decide +kernel
theorem s_M_judge_0 : aw_VS y_M_judge 0 [o_ald 0, o_getA 9 39, o_ald 0, o_getI 9 25] 8 := .cons (v_aload_n (i := 0) d_M_judge_0 rfl) (.cons (v_getA (k := 39) k_M (by decide) rfl (Or.inl w_1500) d_M_judge_1) (.cons (v_aload_n (i := 0) d_M_judge_4 rfl) (.cons (v_getI (k := 25) k_M (by decide) (Or.inl rfl) (Or.inl w_1486) d_M_judge_5) .nil)))
theorem d_M_judge_8 : decode y_M_judge.2.1 8 = .ok (.iaload, 1) := by decide +kernel
theorem d_M_judge_9 : decode y_M_judge.2.1 9 = .ok (.istore_n 2, 1) := by decide +kernel
theorem d_M_judge_10 : decode y_M_judge.2.1 10 = .ok (.aload_n 0, 1) := by decide +kernel
theorem d_M_judge_11 : decode y_M_judge.2.1 11 = .ok (.getfield 66, 3) := by decide +kernel
theorem d_M_judge_14 : decode y_M_judge.2.1 14 = .ok (.aload_n 0, 1) := by decide +kernel
theorem d_M_judge_15 : decode y_M_judge.2.1 15 = .ok (.getfield 231, 3) := by decide +kernel
theorem d_M_judge_18 : decode y_M_judge.2.1 18 = .ok (.iconst 1, 1) := by decide +kernel
theorem d_M_judge_19 : decode y_M_judge.2.1 19 = .ok (.isub, 1) := by decide +kernel
theorem s_M_judge_9 : aw_VS y_M_judge 9 [o_ist 2, o_ald 0, o_getA 9 39, o_ald 0, o_getI 9 25, o_c (.int (1 : Int32)), o_i2 (fun x z => x - z)] 20 := .cons (v_istore_n d_M_judge_9) (.cons (v_aload_n (i := 0) d_M_judge_10 rfl) (.cons (v_getA (k := 39) k_M (by decide) rfl (Or.inl w_1500) d_M_judge_11) (.cons (v_aload_n (i := 0) d_M_judge_14 rfl) (.cons (v_getI (k := 25) k_M (by decide) (Or.inl rfl) (Or.inl w_1486) d_M_judge_15) (.cons (v_iconst (v := (1 : Int32)) d_M_judge_18 (by decide +kernel)) (.cons (v_isub d_M_judge_19) .nil))))))
theorem d_M_judge_20 : decode y_M_judge.2.1 20 = .ok (.iaload, 1) := by decide +kernel
theorem d_M_judge_21 : decode y_M_judge.2.1 21 = .ok (.istore_n 3, 1) := by decide +kernel
theorem d_M_judge_22 : decode y_M_judge.2.1 22 = .ok (.iload_n 1, 1) := by decide +kernel
theorem s_M_judge_21 : aw_VS y_M_judge 21 [o_ist 3, o_ild 1] 23 := .cons (v_istore_n d_M_judge_21) (.cons (v_iload_n (i := 1) d_M_judge_22 rfl) .nil)
theorem d_M_judge_23 : decode y_M_judge.2.1 23 = .ok (.tableswitch (113) (9) (13) #[33, 48, 63, 78, 93], 33) := by decide +kernel
theorem d_M_judge_56 : decode y_M_judge.2.1 56 = .ok (.iload_n 3, 1) := by decide +kernel
theorem d_M_judge_57 : decode y_M_judge.2.1 57 = .ok (.iload_n 2, 1) := by decide +kernel
theorem s_M_judge_56 : aw_VS y_M_judge 56 [o_ild 3, o_ild 2] 58 := .cons (v_iload_n (i := 3) d_M_judge_56 rfl) (.cons (v_iload_n (i := 2) d_M_judge_57 rfl) .nil)
theorem d_M_judge_58 : decode y_M_judge.2.1 58 = .ok (.if_icmp .ge (7), 3) := by decide +kernel
theorem d_M_judge_65 : decode y_M_judge.2.1 65 = .ok (.iconst 0, 1) := by decide +kernel
theorem s_M_judge_65 : aw_VS y_M_judge 65 [o_c (.int (0 : Int32))] 66 := .cons (v_iconst (v := (0 : Int32)) d_M_judge_65 (by decide +kernel)) .nil
theorem d_M_judge_61 : decode y_M_judge.2.1 61 = .ok (.iconst 1, 1) := by decide +kernel
theorem s_M_judge_61 : aw_VS y_M_judge 61 [o_c (.int (1 : Int32))] 62 := .cons (v_iconst (v := (1 : Int32)) d_M_judge_61 (by decide +kernel)) .nil
theorem d_M_judge_62 : decode y_M_judge.2.1 62 = .ok (.goto (4), 3) := by decide +kernel
theorem d_M_judge_71 : decode y_M_judge.2.1 71 = .ok (.iload_n 3, 1) := by decide +kernel
theorem d_M_judge_72 : decode y_M_judge.2.1 72 = .ok (.iload_n 2, 1) := by decide +kernel
theorem s_M_judge_71 : aw_VS y_M_judge 71 [o_ild 3, o_ild 2] 73 := .cons (v_iload_n (i := 3) d_M_judge_71 rfl) (.cons (v_iload_n (i := 2) d_M_judge_72 rfl) .nil)
theorem d_M_judge_73 : decode y_M_judge.2.1 73 = .ok (.if_icmp .ne (7), 3) := by decide +kernel
theorem d_M_judge_80 : decode y_M_judge.2.1 80 = .ok (.iconst 0, 1) := by decide +kernel
theorem s_M_judge_80 : aw_VS y_M_judge 80 [o_c (.int (0 : Int32))] 81 := .cons (v_iconst (v := (0 : Int32)) d_M_judge_80 (by decide +kernel)) .nil
theorem d_M_judge_81 : decode y_M_judge.2.1 81 = .ok (.istore 4, 2) := by decide +kernel
theorem s_M_judge_81 : aw_VS y_M_judge 81 [o_ist 4] 83 := .cons (v_istore d_M_judge_81) .nil
theorem d_M_judge_83 : decode y_M_judge.2.1 83 = .ok (.goto (70), 3) := by decide +kernel
theorem d_M_judge_76 : decode y_M_judge.2.1 76 = .ok (.iconst 1, 1) := by decide +kernel
theorem s_M_judge_76 : aw_VS y_M_judge 76 [o_c (.int (1 : Int32))] 77 := .cons (v_iconst (v := (1 : Int32)) d_M_judge_76 (by decide +kernel)) .nil
theorem d_M_judge_77 : decode y_M_judge.2.1 77 = .ok (.goto (4), 3) := by decide +kernel
theorem d_M_judge_86 : decode y_M_judge.2.1 86 = .ok (.iload_n 3, 1) := by decide +kernel
theorem d_M_judge_87 : decode y_M_judge.2.1 87 = .ok (.iload_n 2, 1) := by decide +kernel
theorem s_M_judge_86 : aw_VS y_M_judge 86 [o_ild 3, o_ild 2] 88 := .cons (v_iload_n (i := 3) d_M_judge_86 rfl) (.cons (v_iload_n (i := 2) d_M_judge_87 rfl) .nil)
theorem d_M_judge_88 : decode y_M_judge.2.1 88 = .ok (.if_icmp .le (7), 3) := by decide +kernel
theorem d_M_judge_95 : decode y_M_judge.2.1 95 = .ok (.iconst 0, 1) := by decide +kernel
theorem s_M_judge_95 : aw_VS y_M_judge 95 [o_c (.int (0 : Int32))] 96 := .cons (v_iconst (v := (0 : Int32)) d_M_judge_95 (by decide +kernel)) .nil
theorem d_M_judge_96 : decode y_M_judge.2.1 96 = .ok (.istore 4, 2) := by decide +kernel
theorem s_M_judge_96 : aw_VS y_M_judge 96 [o_ist 4] 98 := .cons (v_istore d_M_judge_96) .nil
theorem d_M_judge_98 : decode y_M_judge.2.1 98 = .ok (.goto (55), 3) := by decide +kernel
theorem d_M_judge_91 : decode y_M_judge.2.1 91 = .ok (.iconst 1, 1) := by decide +kernel
theorem s_M_judge_91 : aw_VS y_M_judge 91 [o_c (.int (1 : Int32))] 92 := .cons (v_iconst (v := (1 : Int32)) d_M_judge_91 (by decide +kernel)) .nil
theorem d_M_judge_92 : decode y_M_judge.2.1 92 = .ok (.goto (4), 3) := by decide +kernel
theorem d_M_judge_101 : decode y_M_judge.2.1 101 = .ok (.iload_n 3, 1) := by decide +kernel
theorem d_M_judge_102 : decode y_M_judge.2.1 102 = .ok (.iload_n 2, 1) := by decide +kernel
theorem s_M_judge_101 : aw_VS y_M_judge 101 [o_ild 3, o_ild 2] 103 := .cons (v_iload_n (i := 3) d_M_judge_101 rfl) (.cons (v_iload_n (i := 2) d_M_judge_102 rfl) .nil)
theorem d_M_judge_103 : decode y_M_judge.2.1 103 = .ok (.if_icmp .eq (7), 3) := by decide +kernel
theorem d_M_judge_110 : decode y_M_judge.2.1 110 = .ok (.iconst 0, 1) := by decide +kernel
theorem s_M_judge_110 : aw_VS y_M_judge 110 [o_c (.int (0 : Int32))] 111 := .cons (v_iconst (v := (0 : Int32)) d_M_judge_110 (by decide +kernel)) .nil
theorem d_M_judge_111 : decode y_M_judge.2.1 111 = .ok (.istore 4, 2) := by decide +kernel
theorem s_M_judge_111 : aw_VS y_M_judge 111 [o_ist 4] 113 := .cons (v_istore d_M_judge_111) .nil
theorem d_M_judge_113 : decode y_M_judge.2.1 113 = .ok (.goto (40), 3) := by decide +kernel
theorem d_M_judge_106 : decode y_M_judge.2.1 106 = .ok (.iconst 1, 1) := by decide +kernel
theorem s_M_judge_106 : aw_VS y_M_judge 106 [o_c (.int (1 : Int32))] 107 := .cons (v_iconst (v := (1 : Int32)) d_M_judge_106 (by decide +kernel)) .nil
theorem d_M_judge_107 : decode y_M_judge.2.1 107 = .ok (.goto (4), 3) := by decide +kernel
theorem d_M_judge_116 : decode y_M_judge.2.1 116 = .ok (.iload_n 3, 1) := by decide +kernel
theorem d_M_judge_117 : decode y_M_judge.2.1 117 = .ok (.iconst 1, 1) := by decide +kernel
theorem s_M_judge_116 : aw_VS y_M_judge 116 [o_ild 3, o_c (.int (1 : Int32))] 118 := .cons (v_iload_n (i := 3) d_M_judge_116 rfl) (.cons (v_iconst (v := (1 : Int32)) d_M_judge_117 (by decide +kernel)) .nil)
theorem d_M_judge_118 : decode y_M_judge.2.1 118 = .ok (.if_icmp .ne (12), 3) := by decide +kernel
theorem d_M_judge_130 : decode y_M_judge.2.1 130 = .ok (.iconst 0, 1) := by decide +kernel
theorem s_M_judge_130 : aw_VS y_M_judge 130 [o_c (.int (0 : Int32))] 131 := .cons (v_iconst (v := (0 : Int32)) d_M_judge_130 (by decide +kernel)) .nil
theorem d_M_judge_131 : decode y_M_judge.2.1 131 = .ok (.istore 4, 2) := by decide +kernel
theorem s_M_judge_131 : aw_VS y_M_judge 131 [o_ist 4] 133 := .cons (v_istore d_M_judge_131) .nil
theorem d_M_judge_133 : decode y_M_judge.2.1 133 = .ok (.goto (20), 3) := by decide +kernel
theorem d_M_judge_121 : decode y_M_judge.2.1 121 = .ok (.iload_n 2, 1) := by decide +kernel
theorem d_M_judge_122 : decode y_M_judge.2.1 122 = .ok (.iconst 1, 1) := by decide +kernel
theorem s_M_judge_121 : aw_VS y_M_judge 121 [o_ild 2, o_c (.int (1 : Int32))] 123 := .cons (v_iload_n (i := 2) d_M_judge_121 rfl) (.cons (v_iconst (v := (1 : Int32)) d_M_judge_122 (by decide +kernel)) .nil)
theorem d_M_judge_123 : decode y_M_judge.2.1 123 = .ok (.if_icmp .ne (7), 3) := by decide +kernel
theorem d_M_judge_126 : decode y_M_judge.2.1 126 = .ok (.iconst 1, 1) := by decide +kernel
theorem s_M_judge_126 : aw_VS y_M_judge 126 [o_c (.int (1 : Int32))] 127 := .cons (v_iconst (v := (1 : Int32)) d_M_judge_126 (by decide +kernel)) .nil
theorem d_M_judge_127 : decode y_M_judge.2.1 127 = .ok (.goto (4), 3) := by decide +kernel
theorem d_M_judge_136 : decode y_M_judge.2.1 136 = .ok (.iload_n 3, 1) := by decide +kernel
theorem d_M_judge_137 : decode y_M_judge.2.1 137 = .ok (.iconst 1, 1) := by decide +kernel
theorem s_M_judge_136 : aw_VS y_M_judge 136 [o_ild 3, o_c (.int (1 : Int32))] 138 := .cons (v_iload_n (i := 3) d_M_judge_136 rfl) (.cons (v_iconst (v := (1 : Int32)) d_M_judge_137 (by decide +kernel)) .nil)
theorem d_M_judge_138 : decode y_M_judge.2.1 138 = .ok (.if_icmp .eq (8), 3) := by decide +kernel
theorem d_M_judge_146 : decode y_M_judge.2.1 146 = .ok (.iconst 1, 1) := by decide +kernel
theorem s_M_judge_146 : aw_VS y_M_judge 146 [o_c (.int (1 : Int32))] 147 := .cons (v_iconst (v := (1 : Int32)) d_M_judge_146 (by decide +kernel)) .nil
theorem d_M_judge_147 : decode y_M_judge.2.1 147 = .ok (.goto (4), 3) := by decide +kernel
theorem d_M_judge_151 : decode y_M_judge.2.1 151 = .ok (.istore 4, 2) := by decide +kernel
theorem s_M_judge_151 : aw_VS y_M_judge 151 [o_ist 4] 153 := .cons (v_istore d_M_judge_151) .nil
theorem d_M_judge_141 : decode y_M_judge.2.1 141 = .ok (.iload_n 2, 1) := by decide +kernel
theorem d_M_judge_142 : decode y_M_judge.2.1 142 = .ok (.iconst 1, 1) := by decide +kernel
theorem s_M_judge_141 : aw_VS y_M_judge 141 [o_ild 2, o_c (.int (1 : Int32))] 143 := .cons (v_iload_n (i := 2) d_M_judge_141 rfl) (.cons (v_iconst (v := (1 : Int32)) d_M_judge_142 (by decide +kernel)) .nil)
theorem d_M_judge_143 : decode y_M_judge.2.1 143 = .ok (.if_icmp .ne (7), 3) := by decide +kernel
theorem d_M_judge_150 : decode y_M_judge.2.1 150 = .ok (.iconst 0, 1) := by decide +kernel
theorem s_M_judge_150 : aw_VS y_M_judge 150 [o_c (.int (0 : Int32))] 151 := .cons (v_iconst (v := (0 : Int32)) d_M_judge_150 (by decide +kernel)) .nil
theorem b_M_judge_0 {X : aw_X} {d : Nat} {Q : Option Value → aw_H → Prop} {I : Nat → Nat → Int32} {L : Nat → Nat → Int64} {D : Nat → Nat} {v1 : Int32}
    (h1 : vp_in (I 69 25) 400)
    (h2 : vp_in ((I 69 25) - (1 : Int32)) 400)
    (h3 : v1 = (9 : Int32) → (I 86 ((I 69 25).toNatClampNeg)) ≤ (I 86 (((I 69 25) - (1 : Int32)).toNatClampNeg)) → aw_z X d y_M_judge Q 66 [some (.ref 69), none, none, none, none] [.int (0 : Int32)] (aw_s I L D))
    (h4 : v1 = (9 : Int32) → ¬ (I 86 ((I 69 25).toNatClampNeg)) ≤ (I 86 (((I 69 25) - (1 : Int32)).toNatClampNeg)) → aw_z X d y_M_judge Q 66 [some (.ref 69), none, none, none, none] [.int (1 : Int32)] (aw_s I L D))
    (h5 : ¬ v1 = (9 : Int32) → v1 = (10 : Int32) → ¬ (I 86 (((I 69 25) - (1 : Int32)).toNatClampNeg)) = (I 86 ((I 69 25).toNatClampNeg)) → aw_z X d y_M_judge Q 153 [some (.ref 69), none, none, none, some (.int (0 : Int32))] [] (aw_s I L D))
    (h6 : ¬ v1 = (9 : Int32) → v1 = (10 : Int32) → (I 86 (((I 69 25) - (1 : Int32)).toNatClampNeg)) = (I 86 ((I 69 25).toNatClampNeg)) → aw_z X d y_M_judge Q 153 [some (.ref 69), none, none, none, some (.int (1 : Int32))] [] (aw_s I L D))
    (h7 : ¬ v1 = (9 : Int32) → ¬ v1 = (10 : Int32) → v1 = (11 : Int32) → (I 86 (((I 69 25) - (1 : Int32)).toNatClampNeg)) ≤ (I 86 ((I 69 25).toNatClampNeg)) → aw_z X d y_M_judge Q 153 [some (.ref 69), none, none, none, some (.int (0 : Int32))] [] (aw_s I L D))
    (h8 : ¬ v1 = (9 : Int32) → ¬ v1 = (10 : Int32) → v1 = (11 : Int32) → ¬ (I 86 (((I 69 25) - (1 : Int32)).toNatClampNeg)) ≤ (I 86 ((I 69 25).toNatClampNeg)) → aw_z X d y_M_judge Q 153 [some (.ref 69), none, none, none, some (.int (1 : Int32))] [] (aw_s I L D))
    (h9 : ¬ v1 = (9 : Int32) → ¬ v1 = (10 : Int32) → ¬ v1 = (11 : Int32) → v1 = (12 : Int32) → (I 86 (((I 69 25) - (1 : Int32)).toNatClampNeg)) = (I 86 ((I 69 25).toNatClampNeg)) → aw_z X d y_M_judge Q 153 [some (.ref 69), none, none, none, some (.int (0 : Int32))] [] (aw_s I L D))
    (h10 : ¬ v1 = (9 : Int32) → ¬ v1 = (10 : Int32) → ¬ v1 = (11 : Int32) → v1 = (12 : Int32) → ¬ (I 86 (((I 69 25) - (1 : Int32)).toNatClampNeg)) = (I 86 ((I 69 25).toNatClampNeg)) → aw_z X d y_M_judge Q 153 [some (.ref 69), none, none, none, some (.int (1 : Int32))] [] (aw_s I L D))
    (h11 : ¬ v1 = (9 : Int32) → ¬ v1 = (10 : Int32) → ¬ v1 = (11 : Int32) → ¬ v1 = (12 : Int32) → v1 = (13 : Int32) → ¬ (I 86 (((I 69 25) - (1 : Int32)).toNatClampNeg)) = (1 : Int32) → aw_z X d y_M_judge Q 153 [some (.ref 69), none, none, none, some (.int (0 : Int32))] [] (aw_s I L D))
    (h12 : ¬ v1 = (9 : Int32) → ¬ v1 = (10 : Int32) → ¬ v1 = (11 : Int32) → ¬ v1 = (12 : Int32) → v1 = (13 : Int32) → (I 86 (((I 69 25) - (1 : Int32)).toNatClampNeg)) = (1 : Int32) → ¬ (I 86 ((I 69 25).toNatClampNeg)) = (1 : Int32) → aw_z X d y_M_judge Q 153 [some (.ref 69), none, none, none, some (.int (0 : Int32))] [] (aw_s I L D))
    (h13 : ¬ v1 = (9 : Int32) → ¬ v1 = (10 : Int32) → ¬ v1 = (11 : Int32) → ¬ v1 = (12 : Int32) → v1 = (13 : Int32) → (I 86 (((I 69 25) - (1 : Int32)).toNatClampNeg)) = (1 : Int32) → (I 86 ((I 69 25).toNatClampNeg)) = (1 : Int32) → aw_z X d y_M_judge Q 153 [some (.ref 69), none, none, none, some (.int (1 : Int32))] [] (aw_s I L D))
    (h14 : ¬ v1 = (9 : Int32) → ¬ v1 = (10 : Int32) → ¬ v1 = (11 : Int32) → ¬ v1 = (12 : Int32) → ¬ v1 = (13 : Int32) → (I 86 (((I 69 25) - (1 : Int32)).toNatClampNeg)) = (1 : Int32) → aw_z X d y_M_judge Q 153 [some (.ref 69), none, none, none, some (.int (1 : Int32))] [] (aw_s I L D))
    (h15 : ¬ v1 = (9 : Int32) → ¬ v1 = (10 : Int32) → ¬ v1 = (11 : Int32) → ¬ v1 = (12 : Int32) → ¬ v1 = (13 : Int32) → ¬ (I 86 (((I 69 25) - (1 : Int32)).toNatClampNeg)) = (1 : Int32) → ¬ (I 86 ((I 69 25).toNatClampNeg)) = (1 : Int32) → aw_z X d y_M_judge Q 153 [some (.ref 69), none, none, none, some (.int (0 : Int32))] [] (aw_s I L D))
    (h16 : ¬ v1 = (9 : Int32) → ¬ v1 = (10 : Int32) → ¬ v1 = (11 : Int32) → ¬ v1 = (12 : Int32) → ¬ v1 = (13 : Int32) → ¬ (I 86 (((I 69 25) - (1 : Int32)).toNatClampNeg)) = (1 : Int32) → (I 86 ((I 69 25).toNatClampNeg)) = (1 : Int32) → aw_z X d y_M_judge Q 153 [some (.ref 69), none, none, none, some (.int (1 : Int32))] [] (aw_s I L D)) :
    aw_z X d y_M_judge Q 0 [some (.ref 69), some (.int v1), none, none, none] [] (aw_s I L D) :=
  (s_M_judge_0.go [some (.ref 69), some (.int v1), none, none, none] [.int (I 69 25), .ref 86] (aw_s I L D) rfl (z_iald (n := 400) rfl (aw_lt (o := 86) rfl) (h1) d_M_judge_8 (s_M_judge_9.go [some (.ref 69), some (.int v1), some (.int (I 86 ((I 69 25).toNatClampNeg))), none, none] [.int ((I 69 25) - (1 : Int32)), .ref 86] (aw_s I L D) rfl (z_iald (n := 400) rfl (aw_lt (o := 86) rfl) (h2) d_M_judge_20 (s_M_judge_21.go [some (.ref 69), some (.int v1), some (.int (I 86 ((I 69 25).toNatClampNeg))), some (.int (I 86 (((I 69 25) - (1 : Int32)).toNatClampNeg))), none] [.int v1] (aw_s I L D) rfl (Decidable.byCases (fun q1 => z_tableIn (off := 33) (tgt := 56) d_M_judge_23 (by rw [q1]; decide +kernel) (by rw [q1]; decide +kernel) (by rw [q1]; decide +kernel) rfl (s_M_judge_56.go [some (.ref 69), some (.int v1), some (.int (I 86 ((I 69 25).toNatClampNeg))), some (.int (I 86 (((I 69 25) - (1 : Int32)).toNatClampNeg))), none] [.int (I 86 ((I 69 25).toNatClampNeg)), .int (I 86 (((I 69 25) - (1 : Int32)).toNatClampNeg))] (aw_s I L D) rfl (z_icmp_ge (tgt := 65) d_M_judge_58 rfl (fun q2 => (s_M_judge_65.go [some (.ref 69), some (.int v1), some (.int (I 86 ((I 69 25).toNatClampNeg))), some (.int (I 86 (((I 69 25) - (1 : Int32)).toNatClampNeg))), none] [.int (0 : Int32)] (aw_s I L D) rfl (aw_Z.weak (ls' := [some (.ref 69), none, none, none, none]) (h3 q1 q2) (Nat.le_of_ble_eq_true rfl) ⟨Or.inr rfl, ⟨Or.inl rfl, ⟨Or.inl rfl, ⟨Or.inl rfl, ⟨Or.inl rfl, trivial⟩⟩⟩⟩⟩))) (fun q3 => (s_M_judge_61.go [some (.ref 69), some (.int v1), some (.int (I 86 ((I 69 25).toNatClampNeg))), some (.int (I 86 (((I 69 25) - (1 : Int32)).toNatClampNeg))), none] [.int (1 : Int32)] (aw_s I L D) rfl (z_goto (tgt := 66) d_M_judge_62 rfl (aw_Z.weak (ls' := [some (.ref 69), none, none, none, none]) (h4 q1 q3) (Nat.le_of_ble_eq_true rfl) ⟨Or.inr rfl, ⟨Or.inl rfl, ⟨Or.inl rfl, ⟨Or.inl rfl, ⟨Or.inl rfl, trivial⟩⟩⟩⟩⟩))))))) (fun q1n => (Decidable.byCases (fun q4 => z_tableIn (off := 48) (tgt := 71) d_M_judge_23 (by rw [q4]; decide +kernel) (by rw [q4]; decide +kernel) (by rw [q4]; decide +kernel) rfl (s_M_judge_71.go [some (.ref 69), some (.int v1), some (.int (I 86 ((I 69 25).toNatClampNeg))), some (.int (I 86 (((I 69 25) - (1 : Int32)).toNatClampNeg))), none] [.int (I 86 ((I 69 25).toNatClampNeg)), .int (I 86 (((I 69 25) - (1 : Int32)).toNatClampNeg))] (aw_s I L D) rfl (z_icmp_ne (tgt := 80) d_M_judge_73 rfl (fun q5 => (s_M_judge_80.go [some (.ref 69), some (.int v1), some (.int (I 86 ((I 69 25).toNatClampNeg))), some (.int (I 86 (((I 69 25) - (1 : Int32)).toNatClampNeg))), none] [.int (0 : Int32)] (aw_s I L D) rfl (s_M_judge_81.go [some (.ref 69), some (.int v1), some (.int (I 86 ((I 69 25).toNatClampNeg))), some (.int (I 86 (((I 69 25) - (1 : Int32)).toNatClampNeg))), some (.int (0 : Int32))] [] (aw_s I L D) rfl (z_goto (tgt := 153) d_M_judge_83 rfl (aw_Z.weak (ls' := [some (.ref 69), none, none, none, some (.int (0 : Int32))]) (h5 q1n q4 q5) (Nat.le_of_ble_eq_true rfl) ⟨Or.inr rfl, ⟨Or.inl rfl, ⟨Or.inl rfl, ⟨Or.inl rfl, ⟨Or.inr rfl, trivial⟩⟩⟩⟩⟩))))) (fun q6 => (s_M_judge_76.go [some (.ref 69), some (.int v1), some (.int (I 86 ((I 69 25).toNatClampNeg))), some (.int (I 86 (((I 69 25) - (1 : Int32)).toNatClampNeg))), none] [.int (1 : Int32)] (aw_s I L D) rfl (z_goto (tgt := 81) d_M_judge_77 rfl (s_M_judge_81.go [some (.ref 69), some (.int v1), some (.int (I 86 ((I 69 25).toNatClampNeg))), some (.int (I 86 (((I 69 25) - (1 : Int32)).toNatClampNeg))), some (.int (1 : Int32))] [] (aw_s I L D) rfl (z_goto (tgt := 153) d_M_judge_83 rfl (aw_Z.weak (ls' := [some (.ref 69), none, none, none, some (.int (1 : Int32))]) (h6 q1n q4 q6) (Nat.le_of_ble_eq_true rfl) ⟨Or.inr rfl, ⟨Or.inl rfl, ⟨Or.inl rfl, ⟨Or.inl rfl, ⟨Or.inr rfl, trivial⟩⟩⟩⟩⟩))))))))) (fun q4n => (Decidable.byCases (fun q7 => z_tableIn (off := 63) (tgt := 86) d_M_judge_23 (by rw [q7]; decide +kernel) (by rw [q7]; decide +kernel) (by rw [q7]; decide +kernel) rfl (s_M_judge_86.go [some (.ref 69), some (.int v1), some (.int (I 86 ((I 69 25).toNatClampNeg))), some (.int (I 86 (((I 69 25) - (1 : Int32)).toNatClampNeg))), none] [.int (I 86 ((I 69 25).toNatClampNeg)), .int (I 86 (((I 69 25) - (1 : Int32)).toNatClampNeg))] (aw_s I L D) rfl (z_icmp_le (tgt := 95) d_M_judge_88 rfl (fun q8 => (s_M_judge_95.go [some (.ref 69), some (.int v1), some (.int (I 86 ((I 69 25).toNatClampNeg))), some (.int (I 86 (((I 69 25) - (1 : Int32)).toNatClampNeg))), none] [.int (0 : Int32)] (aw_s I L D) rfl (s_M_judge_96.go [some (.ref 69), some (.int v1), some (.int (I 86 ((I 69 25).toNatClampNeg))), some (.int (I 86 (((I 69 25) - (1 : Int32)).toNatClampNeg))), some (.int (0 : Int32))] [] (aw_s I L D) rfl (z_goto (tgt := 153) d_M_judge_98 rfl (aw_Z.weak (ls' := [some (.ref 69), none, none, none, some (.int (0 : Int32))]) (h7 q1n q4n q7 q8) (Nat.le_of_ble_eq_true rfl) ⟨Or.inr rfl, ⟨Or.inl rfl, ⟨Or.inl rfl, ⟨Or.inl rfl, ⟨Or.inr rfl, trivial⟩⟩⟩⟩⟩))))) (fun q9 => (s_M_judge_91.go [some (.ref 69), some (.int v1), some (.int (I 86 ((I 69 25).toNatClampNeg))), some (.int (I 86 (((I 69 25) - (1 : Int32)).toNatClampNeg))), none] [.int (1 : Int32)] (aw_s I L D) rfl (z_goto (tgt := 96) d_M_judge_92 rfl (s_M_judge_96.go [some (.ref 69), some (.int v1), some (.int (I 86 ((I 69 25).toNatClampNeg))), some (.int (I 86 (((I 69 25) - (1 : Int32)).toNatClampNeg))), some (.int (1 : Int32))] [] (aw_s I L D) rfl (z_goto (tgt := 153) d_M_judge_98 rfl (aw_Z.weak (ls' := [some (.ref 69), none, none, none, some (.int (1 : Int32))]) (h8 q1n q4n q7 q9) (Nat.le_of_ble_eq_true rfl) ⟨Or.inr rfl, ⟨Or.inl rfl, ⟨Or.inl rfl, ⟨Or.inl rfl, ⟨Or.inr rfl, trivial⟩⟩⟩⟩⟩))))))))) (fun q7n => (Decidable.byCases (fun q10 => z_tableIn (off := 78) (tgt := 101) d_M_judge_23 (by rw [q10]; decide +kernel) (by rw [q10]; decide +kernel) (by rw [q10]; decide +kernel) rfl (s_M_judge_101.go [some (.ref 69), some (.int v1), some (.int (I 86 ((I 69 25).toNatClampNeg))), some (.int (I 86 (((I 69 25) - (1 : Int32)).toNatClampNeg))), none] [.int (I 86 ((I 69 25).toNatClampNeg)), .int (I 86 (((I 69 25) - (1 : Int32)).toNatClampNeg))] (aw_s I L D) rfl (z_icmp_eq (tgt := 110) d_M_judge_103 rfl (fun q11 => (s_M_judge_110.go [some (.ref 69), some (.int v1), some (.int (I 86 ((I 69 25).toNatClampNeg))), some (.int (I 86 (((I 69 25) - (1 : Int32)).toNatClampNeg))), none] [.int (0 : Int32)] (aw_s I L D) rfl (s_M_judge_111.go [some (.ref 69), some (.int v1), some (.int (I 86 ((I 69 25).toNatClampNeg))), some (.int (I 86 (((I 69 25) - (1 : Int32)).toNatClampNeg))), some (.int (0 : Int32))] [] (aw_s I L D) rfl (z_goto (tgt := 153) d_M_judge_113 rfl (aw_Z.weak (ls' := [some (.ref 69), none, none, none, some (.int (0 : Int32))]) (h9 q1n q4n q7n q10 q11) (Nat.le_of_ble_eq_true rfl) ⟨Or.inr rfl, ⟨Or.inl rfl, ⟨Or.inl rfl, ⟨Or.inl rfl, ⟨Or.inr rfl, trivial⟩⟩⟩⟩⟩))))) (fun q12 => (s_M_judge_106.go [some (.ref 69), some (.int v1), some (.int (I 86 ((I 69 25).toNatClampNeg))), some (.int (I 86 (((I 69 25) - (1 : Int32)).toNatClampNeg))), none] [.int (1 : Int32)] (aw_s I L D) rfl (z_goto (tgt := 111) d_M_judge_107 rfl (s_M_judge_111.go [some (.ref 69), some (.int v1), some (.int (I 86 ((I 69 25).toNatClampNeg))), some (.int (I 86 (((I 69 25) - (1 : Int32)).toNatClampNeg))), some (.int (1 : Int32))] [] (aw_s I L D) rfl (z_goto (tgt := 153) d_M_judge_113 rfl (aw_Z.weak (ls' := [some (.ref 69), none, none, none, some (.int (1 : Int32))]) (h10 q1n q4n q7n q10 q12) (Nat.le_of_ble_eq_true rfl) ⟨Or.inr rfl, ⟨Or.inl rfl, ⟨Or.inl rfl, ⟨Or.inl rfl, ⟨Or.inr rfl, trivial⟩⟩⟩⟩⟩))))))))) (fun q10n => (Decidable.byCases (fun q13 => z_tableIn (off := 93) (tgt := 116) d_M_judge_23 (by rw [q13]; decide +kernel) (by rw [q13]; decide +kernel) (by rw [q13]; decide +kernel) rfl (s_M_judge_116.go [some (.ref 69), some (.int v1), some (.int (I 86 ((I 69 25).toNatClampNeg))), some (.int (I 86 (((I 69 25) - (1 : Int32)).toNatClampNeg))), none] [.int (1 : Int32), .int (I 86 (((I 69 25) - (1 : Int32)).toNatClampNeg))] (aw_s I L D) rfl (z_icmp_ne (tgt := 130) d_M_judge_118 rfl (fun q14 => (s_M_judge_130.go [some (.ref 69), some (.int v1), some (.int (I 86 ((I 69 25).toNatClampNeg))), some (.int (I 86 (((I 69 25) - (1 : Int32)).toNatClampNeg))), none] [.int (0 : Int32)] (aw_s I L D) rfl (s_M_judge_131.go [some (.ref 69), some (.int v1), some (.int (I 86 ((I 69 25).toNatClampNeg))), some (.int (I 86 (((I 69 25) - (1 : Int32)).toNatClampNeg))), some (.int (0 : Int32))] [] (aw_s I L D) rfl (z_goto (tgt := 153) d_M_judge_133 rfl (aw_Z.weak (ls' := [some (.ref 69), none, none, none, some (.int (0 : Int32))]) (h11 q1n q4n q7n q10n q13 q14) (Nat.le_of_ble_eq_true rfl) ⟨Or.inr rfl, ⟨Or.inl rfl, ⟨Or.inl rfl, ⟨Or.inl rfl, ⟨Or.inr rfl, trivial⟩⟩⟩⟩⟩))))) (fun q15 => (s_M_judge_121.go [some (.ref 69), some (.int v1), some (.int (I 86 ((I 69 25).toNatClampNeg))), some (.int (I 86 (((I 69 25) - (1 : Int32)).toNatClampNeg))), none] [.int (1 : Int32), .int (I 86 ((I 69 25).toNatClampNeg))] (aw_s I L D) rfl (z_icmp_ne (tgt := 130) d_M_judge_123 rfl (fun q16 => (s_M_judge_130.go [some (.ref 69), some (.int v1), some (.int (I 86 ((I 69 25).toNatClampNeg))), some (.int (I 86 (((I 69 25) - (1 : Int32)).toNatClampNeg))), none] [.int (0 : Int32)] (aw_s I L D) rfl (s_M_judge_131.go [some (.ref 69), some (.int v1), some (.int (I 86 ((I 69 25).toNatClampNeg))), some (.int (I 86 (((I 69 25) - (1 : Int32)).toNatClampNeg))), some (.int (0 : Int32))] [] (aw_s I L D) rfl (z_goto (tgt := 153) d_M_judge_133 rfl (aw_Z.weak (ls' := [some (.ref 69), none, none, none, some (.int (0 : Int32))]) (h12 q1n q4n q7n q10n q13 q15 q16) (Nat.le_of_ble_eq_true rfl) ⟨Or.inr rfl, ⟨Or.inl rfl, ⟨Or.inl rfl, ⟨Or.inl rfl, ⟨Or.inr rfl, trivial⟩⟩⟩⟩⟩))))) (fun q17 => (s_M_judge_126.go [some (.ref 69), some (.int v1), some (.int (I 86 ((I 69 25).toNatClampNeg))), some (.int (I 86 (((I 69 25) - (1 : Int32)).toNatClampNeg))), none] [.int (1 : Int32)] (aw_s I L D) rfl (z_goto (tgt := 131) d_M_judge_127 rfl (s_M_judge_131.go [some (.ref 69), some (.int v1), some (.int (I 86 ((I 69 25).toNatClampNeg))), some (.int (I 86 (((I 69 25) - (1 : Int32)).toNatClampNeg))), some (.int (1 : Int32))] [] (aw_s I L D) rfl (z_goto (tgt := 153) d_M_judge_133 rfl (aw_Z.weak (ls' := [some (.ref 69), none, none, none, some (.int (1 : Int32))]) (h13 q1n q4n q7n q10n q13 q15 q17) (Nat.le_of_ble_eq_true rfl) ⟨Or.inr rfl, ⟨Or.inl rfl, ⟨Or.inl rfl, ⟨Or.inl rfl, ⟨Or.inr rfl, trivial⟩⟩⟩⟩⟩)))))))))))) (fun q13n => z_tableOut (tgt := 136) d_M_judge_23 (by have := aw_swout q1n (a := 9) rfl; have := aw_swout q4n (a := 10) rfl; have := aw_swout q7n (a := 11) rfl; have := aw_swout q10n (a := 12) rfl; have := aw_swout q13n (a := 13) rfl; omega) rfl (s_M_judge_136.go [some (.ref 69), some (.int v1), some (.int (I 86 ((I 69 25).toNatClampNeg))), some (.int (I 86 (((I 69 25) - (1 : Int32)).toNatClampNeg))), none] [.int (1 : Int32), .int (I 86 (((I 69 25) - (1 : Int32)).toNatClampNeg))] (aw_s I L D) rfl (z_icmp_eq (tgt := 146) d_M_judge_138 rfl (fun q18 => (s_M_judge_146.go [some (.ref 69), some (.int v1), some (.int (I 86 ((I 69 25).toNatClampNeg))), some (.int (I 86 (((I 69 25) - (1 : Int32)).toNatClampNeg))), none] [.int (1 : Int32)] (aw_s I L D) rfl (z_goto (tgt := 151) d_M_judge_147 rfl (s_M_judge_151.go [some (.ref 69), some (.int v1), some (.int (I 86 ((I 69 25).toNatClampNeg))), some (.int (I 86 (((I 69 25) - (1 : Int32)).toNatClampNeg))), some (.int (1 : Int32))] [] (aw_s I L D) rfl (aw_Z.weak (ls' := [some (.ref 69), none, none, none, some (.int (1 : Int32))]) (h14 q1n q4n q7n q10n q13n q18) (Nat.le_of_ble_eq_true rfl) ⟨Or.inr rfl, ⟨Or.inl rfl, ⟨Or.inl rfl, ⟨Or.inl rfl, ⟨Or.inr rfl, trivial⟩⟩⟩⟩⟩))))) (fun q19 => (s_M_judge_141.go [some (.ref 69), some (.int v1), some (.int (I 86 ((I 69 25).toNatClampNeg))), some (.int (I 86 (((I 69 25) - (1 : Int32)).toNatClampNeg))), none] [.int (1 : Int32), .int (I 86 ((I 69 25).toNatClampNeg))] (aw_s I L D) rfl (z_icmp_ne (tgt := 150) d_M_judge_143 rfl (fun q20 => (s_M_judge_150.go [some (.ref 69), some (.int v1), some (.int (I 86 ((I 69 25).toNatClampNeg))), some (.int (I 86 (((I 69 25) - (1 : Int32)).toNatClampNeg))), none] [.int (0 : Int32)] (aw_s I L D) rfl (s_M_judge_151.go [some (.ref 69), some (.int v1), some (.int (I 86 ((I 69 25).toNatClampNeg))), some (.int (I 86 (((I 69 25) - (1 : Int32)).toNatClampNeg))), some (.int (0 : Int32))] [] (aw_s I L D) rfl (aw_Z.weak (ls' := [some (.ref 69), none, none, none, some (.int (0 : Int32))]) (h15 q1n q4n q7n q10n q13n q19 q20) (Nat.le_of_ble_eq_true rfl) ⟨Or.inr rfl, ⟨Or.inl rfl, ⟨Or.inl rfl, ⟨Or.inl rfl, ⟨Or.inr rfl, trivial⟩⟩⟩⟩⟩)))) (fun q21 => (s_M_judge_146.go [some (.ref 69), some (.int v1), some (.int (I 86 ((I 69 25).toNatClampNeg))), some (.int (I 86 (((I 69 25) - (1 : Int32)).toNatClampNeg))), none] [.int (1 : Int32)] (aw_s I L D) rfl (z_goto (tgt := 151) d_M_judge_147 rfl (s_M_judge_151.go [some (.ref 69), some (.int v1), some (.int (I 86 ((I 69 25).toNatClampNeg))), some (.int (I 86 (((I 69 25) - (1 : Int32)).toNatClampNeg))), some (.int (1 : Int32))] [] (aw_s I L D) rfl (aw_Z.weak (ls' := [some (.ref 69), none, none, none, some (.int (1 : Int32))]) (h16 q1n q4n q7n q10n q13n q19 q21) (Nat.le_of_ble_eq_true rfl) ⟨Or.inr rfl, ⟨Or.inl rfl, ⟨Or.inl rfl, ⟨Or.inl rfl, ⟨Or.inr rfl, trivial⟩⟩⟩⟩⟩)))))))))))))))))))))))))
theorem d_M_judge_66 : decode y_M_judge.2.1 66 = .ok (.istore 4, 2) := by decide +kernel
theorem s_M_judge_66 : aw_VS y_M_judge 66 [o_ist 4] 68 := .cons (v_istore d_M_judge_66) .nil
theorem d_M_judge_68 : decode y_M_judge.2.1 68 = .ok (.goto (85), 3) := by decide +kernel
theorem b_M_judge_66 {X : aw_X} {d : Nat} {Q : Option Value → aw_H → Prop} {I : Nat → Nat → Int32} {L : Nat → Nat → Int64} {D : Nat → Nat} {s0 : Int32}
    (h1 : aw_z X d y_M_judge Q 153 [some (.ref 69), none, none, none, some (.int s0)] [] (aw_s I L D)) :
    aw_z X d y_M_judge Q 66 [some (.ref 69), none, none, none, none] [.int s0] (aw_s I L D) :=
  (s_M_judge_66.go [some (.ref 69), none, none, none, some (.int s0)] [] (aw_s I L D) rfl (z_goto (tgt := 153) d_M_judge_68 rfl (h1)))
theorem d_M_judge_153 : decode y_M_judge.2.1 153 = .ok (.aload_n 0, 1) := by decide +kernel
theorem d_M_judge_154 : decode y_M_judge.2.1 154 = .ok (.getfield 66, 3) := by decide +kernel
theorem d_M_judge_157 : decode y_M_judge.2.1 157 = .ok (.aload_n 0, 1) := by decide +kernel
theorem d_M_judge_158 : decode y_M_judge.2.1 158 = .ok (.getfield 231, 3) := by decide +kernel
theorem d_M_judge_161 : decode y_M_judge.2.1 161 = .ok (.iconst 1, 1) := by decide +kernel
theorem d_M_judge_162 : decode y_M_judge.2.1 162 = .ok (.isub, 1) := by decide +kernel
theorem d_M_judge_163 : decode y_M_judge.2.1 163 = .ok (.iload 4, 2) := by decide +kernel
theorem s_M_judge_153 : aw_VS y_M_judge 153 [o_ald 0, o_getA 9 39, o_ald 0, o_getI 9 25, o_c (.int (1 : Int32)), o_i2 (fun x z => x - z), o_ild 4] 165 := .cons (v_aload_n (i := 0) d_M_judge_153 rfl) (.cons (v_getA (k := 39) k_M (by decide) rfl (Or.inl w_1500) d_M_judge_154) (.cons (v_aload_n (i := 0) d_M_judge_157 rfl) (.cons (v_getI (k := 25) k_M (by decide) (Or.inl rfl) (Or.inl w_1486) d_M_judge_158) (.cons (v_iconst (v := (1 : Int32)) d_M_judge_161 (by decide +kernel)) (.cons (v_isub d_M_judge_162) (.cons (v_iload (i := 4) d_M_judge_163) .nil))))))
theorem d_M_judge_165 : decode y_M_judge.2.1 165 = .ok (.ifCond .eq (7), 3) := by decide +kernel
theorem d_M_judge_172 : decode y_M_judge.2.1 172 = .ok (.iconst 0, 1) := by decide +kernel
theorem s_M_judge_172 : aw_VS y_M_judge 172 [o_c (.int (0 : Int32))] 173 := .cons (v_iconst (v := (0 : Int32)) d_M_judge_172 (by decide +kernel)) .nil
theorem d_M_judge_168 : decode y_M_judge.2.1 168 = .ok (.iconst 1, 1) := by decide +kernel
theorem s_M_judge_168 : aw_VS y_M_judge 168 [o_c (.int (1 : Int32))] 169 := .cons (v_iconst (v := (1 : Int32)) d_M_judge_168 (by decide +kernel)) .nil
theorem d_M_judge_169 : decode y_M_judge.2.1 169 = .ok (.goto (4), 3) := by decide +kernel
theorem b_M_judge_153 {X : aw_X} {d : Nat} {Q : Option Value → aw_H → Prop} {I : Nat → Nat → Int32} {L : Nat → Nat → Int64} {D : Nat → Nat} {v4 : Int32}
    (h1 : v4 = 0 → aw_z X d y_M_judge Q 173 [some (.ref 69), none, none, none, none] [.int (0 : Int32), .int ((I 69 25) - (1 : Int32)), .ref 86] (aw_s I L D))
    (h2 : ¬ v4 = 0 → aw_z X d y_M_judge Q 173 [some (.ref 69), none, none, none, none] [.int (1 : Int32), .int ((I 69 25) - (1 : Int32)), .ref 86] (aw_s I L D)) :
    aw_z X d y_M_judge Q 153 [some (.ref 69), none, none, none, some (.int v4)] [] (aw_s I L D) :=
  (s_M_judge_153.go [some (.ref 69), none, none, none, some (.int v4)] [.int v4, .int ((I 69 25) - (1 : Int32)), .ref 86] (aw_s I L D) rfl (z_if_eq (tgt := 172) d_M_judge_165 rfl (fun q1 => (s_M_judge_172.go [some (.ref 69), none, none, none, some (.int v4)] [.int (0 : Int32), .int ((I 69 25) - (1 : Int32)), .ref 86] (aw_s I L D) rfl (aw_Z.weak (ls' := [some (.ref 69), none, none, none, none]) (h1 q1) (Nat.le_of_ble_eq_true rfl) ⟨Or.inr rfl, ⟨Or.inl rfl, ⟨Or.inl rfl, ⟨Or.inl rfl, ⟨Or.inl rfl, trivial⟩⟩⟩⟩⟩))) (fun q2 => (s_M_judge_168.go [some (.ref 69), none, none, none, some (.int v4)] [.int (1 : Int32), .int ((I 69 25) - (1 : Int32)), .ref 86] (aw_s I L D) rfl (z_goto (tgt := 173) d_M_judge_169 rfl (aw_Z.weak (ls' := [some (.ref 69), none, none, none, none]) (h2 q2) (Nat.le_of_ble_eq_true rfl) ⟨Or.inr rfl, ⟨Or.inl rfl, ⟨Or.inl rfl, ⟨Or.inl rfl, ⟨Or.inl rfl, trivial⟩⟩⟩⟩⟩))))))
theorem d_M_judge_173 : decode y_M_judge.2.1 173 = .ok (.iastore, 1) := by decide +kernel
theorem d_M_judge_174 : decode y_M_judge.2.1 174 = .ok (.aload_n 0, 1) := by decide +kernel
theorem d_M_judge_175 : decode y_M_judge.2.1 175 = .ok (.dup, 1) := by decide +kernel
theorem d_M_judge_176 : decode y_M_judge.2.1 176 = .ok (.getfield 231, 3) := by decide +kernel
theorem d_M_judge_179 : decode y_M_judge.2.1 179 = .ok (.iconst 1, 1) := by decide +kernel
theorem d_M_judge_180 : decode y_M_judge.2.1 180 = .ok (.isub, 1) := by decide +kernel
theorem d_M_judge_181 : decode y_M_judge.2.1 181 = .ok (.putfield 231, 3) := by decide +kernel
theorem s_M_judge_174 : aw_VS y_M_judge 174 [o_ald 0, o_dup, o_getI 9 25, o_c (.int (1 : Int32)), o_i2 (fun x z => x - z), o_putI 9 25] 184 := .cons (v_aload_n (i := 0) d_M_judge_174 rfl) (.cons (v_dup d_M_judge_175) (.cons (v_getI (k := 25) k_M (by decide) (Or.inl rfl) (Or.inl w_1486) d_M_judge_176) (.cons (v_iconst (v := (1 : Int32)) d_M_judge_179 (by decide +kernel)) (.cons (v_isub d_M_judge_180) (.cons (v_putI (k := 25) k_M (by decide) rfl (Or.inl ⟨rfl, Or.inl w_1486⟩) d_M_judge_181) .nil)))))
theorem d_M_judge_184 : decode y_M_judge.2.1 184 = .ok (.return_, 1) := by decide +kernel
theorem b_M_judge_173 {X : aw_X} {d : Nat} {Q : Option Value → aw_H → Prop} {I : Nat → Nat → Int32} {L : Nat → Nat → Int64} {D : Nat → Nat} {s2 : Int32} {s1 : Int32}
    (h1 : vp_in s1 400)
    (h2 : Q none (aw_s (aw_u (aw_u I 86 s1.toNatClampNeg s2) 69 25 ((I 69 25) - (1 : Int32))) L D)) :
    aw_z X d y_M_judge Q 173 [some (.ref 69), none, none, none, none] [.int s2, .int s1, .ref 86] (aw_s I L D) :=
  (z_iast (n := 400) rfl (aw_lt (o := 86) rfl) (h1) d_M_judge_173 (s_M_judge_174.go [some (.ref 69), none, none, none, none] [] (aw_s (aw_u (aw_u I 86 s1.toNatClampNeg s2) 69 25 ((I 69 25) - (1 : Int32))) L D) rfl (z_vret d_M_judge_184 rfl (h2))))
/-! M_ends -/
theorem d_M_ends_0 : decode y_M_ends.2.1 0 = .ok (.aload_n 0, 1) := by decide +kernel
theorem d_M_ends_1 : decode y_M_ends.2.1 1 = .ok (.iload_n 1, 1) := by decide +kernel
theorem d_M_ends_2 : decode y_M_ends.2.1 2 = .ok (.putfield 393, 3) := by decide +kernel
theorem d_M_ends_5 : decode y_M_ends.2.1 5 = .ok (.aload_n 0, 1) := by decide +kernel
theorem d_M_ends_6 : decode y_M_ends.2.1 6 = .ok (.iload_n 2, 1) := by decide +kernel
theorem d_M_ends_7 : decode y_M_ends.2.1 7 = .ok (.putfield 396, 3) := by decide +kernel
theorem d_M_ends_10 : decode y_M_ends.2.1 10 = .ok (.iload_n 1, 1) := by decide +kernel
theorem s_M_ends_0 : aw_VS y_M_ends 0 [o_ald 0, o_ild 1, o_putI 9 42, o_ald 0, o_ild 2, o_putI 9 43, o_ild 1] 11 := .cons (v_aload_n (i := 0) d_M_ends_0 rfl) (.cons (v_iload_n (i := 1) d_M_ends_1 rfl) (.cons (v_putI (k := 42) k_M (by decide) rfl (Or.inl ⟨rfl, Or.inl w_1503⟩) d_M_ends_2) (.cons (v_aload_n (i := 0) d_M_ends_5 rfl) (.cons (v_iload_n (i := 2) d_M_ends_6 rfl) (.cons (v_putI (k := 43) k_M (by decide) rfl (Or.inl ⟨rfl, Or.inl w_1504⟩) d_M_ends_7) (.cons (v_iload_n (i := 1) d_M_ends_10 rfl) .nil))))))
theorem d_M_ends_11 : decode y_M_ends.2.1 11 = .ok (.ireturn, 1) := by decide +kernel
theorem b_M_ends_0 {X : aw_X} {d : Nat} {Q : Option Value → aw_H → Prop} {I : Nat → Nat → Int32} {L : Nat → Nat → Int64} {D : Nat → Nat} {v1 : Int32} {v2 : Int32}
    (h1 : Q (some (.int v1)) (aw_s (aw_u (aw_u I 69 42 v1) 69 43 v2) L D)) :
    aw_z X d y_M_ends Q 0 [some (.ref 69), some (.int v1), some (.int v2)] [] (aw_s I L D) :=
  (s_M_ends_0.go [some (.ref 69), some (.int v1), some (.int v2)] [.int v1] (aw_s (aw_u (aw_u I 69 42 v1) 69 43 v2) L D) rfl (z_iret d_M_ends_11 rfl rfl (h1)))
/-! M_gather -/
theorem d_M_gather_0 : decode y_M_gather.2.1 0 = .ok (.iconst 0, 1) := by decide +kernel
theorem d_M_gather_1 : decode y_M_gather.2.1 1 = .ok (.istore_n 2, 1) := by decide +kernel
theorem s_M_gather_0 : aw_VS y_M_gather 0 [o_c (.int (0 : Int32)), o_ist 2] 2 := .cons (v_iconst (v := (0 : Int32)) d_M_gather_0 (by decide +kernel)) (.cons (v_istore_n d_M_gather_1) .nil)
theorem b_M_gather_0 {X : aw_X} {d : Nat} {Q : Option Value → aw_H → Prop} {I : Nat → Nat → Int32} {L : Nat → Nat → Int64} {D : Nat → Nat} {v1 : Int32}
    (h1 : aw_z X d y_M_gather Q 2 [some (.ref 69), some (.int v1), some (.int (0 : Int32)), none] [] (aw_s I L D)) :
    aw_z X d y_M_gather Q 0 [some (.ref 69), some (.int v1), none, none] [] (aw_s I L D) :=
  (s_M_gather_0.go [some (.ref 69), some (.int v1), some (.int (0 : Int32)), none] [] (aw_s I L D) rfl (h1))
theorem d_M_gather_2 : decode y_M_gather.2.1 2 = .ok (.iload_n 2, 1) := by decide +kernel
theorem d_M_gather_3 : decode y_M_gather.2.1 3 = .ok (.bipush 8, 2) := by decide +kernel
theorem s_M_gather_2 : aw_VS y_M_gather 2 [o_ild 2, o_c (.int (8 : Int32))] 5 := .cons (v_iload_n (i := 2) d_M_gather_2 rfl) (.cons (v_bipush (v := (8 : Int32)) d_M_gather_3 (by decide +kernel)) .nil)
theorem d_M_gather_5 : decode y_M_gather.2.1 5 = .ok (.if_icmp .ge (39), 3) := by decide +kernel
theorem d_M_gather_8 : decode y_M_gather.2.1 8 = .ok (.aload_n 0, 1) := by decide +kernel
theorem d_M_gather_9 : decode y_M_gather.2.1 9 = .ok (.getfield 369, 3) := by decide +kernel
theorem d_M_gather_12 : decode y_M_gather.2.1 12 = .ok (.iconst 1, 1) := by decide +kernel
theorem s_M_gather_8 : aw_VS y_M_gather 8 [o_ald 0, o_getI 9 48, o_c (.int (1 : Int32))] 13 := .cons (v_aload_n (i := 0) d_M_gather_8 rfl) (.cons (v_getI (k := 48) k_M (by decide) (Or.inl rfl) (Or.inl w_1509) d_M_gather_9) (.cons (v_iconst (v := (1 : Int32)) d_M_gather_12 (by decide +kernel)) .nil))
theorem d_M_gather_13 : decode y_M_gather.2.1 13 = .ok (.if_icmp .ne (31), 3) := by decide +kernel
theorem d_M_gather_16 : decode y_M_gather.2.1 16 = .ok (.aload_n 0, 1) := by decide +kernel
theorem d_M_gather_17 : decode y_M_gather.2.1 17 = .ok (.getfield 75, 3) := by decide +kernel
theorem d_M_gather_20 : decode y_M_gather.2.1 20 = .ok (.bipush 8, 2) := by decide +kernel
theorem d_M_gather_22 : decode y_M_gather.2.1 22 = .ok (.iload_n 1, 1) := by decide +kernel
theorem d_M_gather_23 : decode y_M_gather.2.1 23 = .ok (.imul, 1) := by decide +kernel
theorem d_M_gather_24 : decode y_M_gather.2.1 24 = .ok (.iload_n 2, 1) := by decide +kernel
theorem d_M_gather_25 : decode y_M_gather.2.1 25 = .ok (.iadd, 1) := by decide +kernel
theorem d_M_gather_26 : decode y_M_gather.2.1 26 = .ok (.dup2, 1) := by decide +kernel
theorem s_M_gather_16 : aw_VS y_M_gather 16 [o_ald 0, o_getA 9 49, o_c (.int (8 : Int32)), o_ild 1, o_i2 (fun x z => x * z), o_ild 2, o_i2 (fun x z => x + z), o_dup2] 27 := .cons (v_aload_n (i := 0) d_M_gather_16 rfl) (.cons (v_getA (k := 49) k_M (by decide) rfl (Or.inl w_1510) d_M_gather_17) (.cons (v_bipush (v := (8 : Int32)) d_M_gather_20 (by decide +kernel)) (.cons (v_iload_n (i := 1) d_M_gather_22 rfl) (.cons (v_imul d_M_gather_23) (.cons (v_iload_n (i := 2) d_M_gather_24 rfl) (.cons (v_iadd d_M_gather_25) (.cons (v_dup2 d_M_gather_26) .nil)))))))
theorem d_M_gather_27 : decode y_M_gather.2.1 27 = .ok (.laload, 1) := by decide +kernel
theorem d_M_gather_28 : decode y_M_gather.2.1 28 = .ok (.lconst 1, 1) := by decide +kernel
theorem d_M_gather_29 : decode y_M_gather.2.1 29 = .ok (.aload_n 0, 1) := by decide +kernel
theorem d_M_gather_30 : decode y_M_gather.2.1 30 = .ok (.getfield 60, 3) := by decide +kernel
theorem d_M_gather_33 : decode y_M_gather.2.1 33 = .ok (.iload_n 2, 1) := by decide +kernel
theorem s_M_gather_28 : aw_VS y_M_gather 28 [o_c (.long (1 : Int64)), o_ald 0, o_getA 9 37, o_ild 2] 34 := .cons (v_lconst (v := (1 : Int64)) d_M_gather_28 (by decide +kernel)) (.cons (v_aload_n (i := 0) d_M_gather_29 rfl) (.cons (v_getA (k := 37) k_M (by decide) rfl (Or.inl w_1498) d_M_gather_30) (.cons (v_iload_n (i := 2) d_M_gather_33 rfl) .nil)))
theorem d_M_gather_34 : decode y_M_gather.2.1 34 = .ok (.iaload, 1) := by decide +kernel
theorem d_M_gather_35 : decode y_M_gather.2.1 35 = .ok (.lshl, 1) := by decide +kernel
theorem d_M_gather_36 : decode y_M_gather.2.1 36 = .ok (.lor, 1) := by decide +kernel
theorem s_M_gather_35 : aw_VS y_M_gather 35 [o_ls (fun x z => x <<< (z.toInt64 &&& 63)), o_l2 (fun x z => x ||| z)] 37 := .cons (v_lshl d_M_gather_35) (.cons (v_lor d_M_gather_36) .nil)
theorem d_M_gather_37 : decode y_M_gather.2.1 37 = .ok (.lastore, 1) := by decide +kernel
theorem d_M_gather_38 : decode y_M_gather.2.1 38 = .ok (.iinc 2 (1), 3) := by decide +kernel
theorem s_M_gather_38 : aw_VS y_M_gather 38 [o_inc 2 (1 : Int32)] 41 := .cons (v_iinc (k0 := (1 : Int32)) d_M_gather_38 (by decide +kernel)) .nil
theorem d_M_gather_41 : decode y_M_gather.2.1 41 = .ok (.goto (-39), 3) := by decide +kernel
theorem b_M_gather_2 {X : aw_X} {d : Nat} {Q : Option Value → aw_H → Prop} {I : Nat → Nat → Int32} {L : Nat → Nat → Int64} {D : Nat → Nat} {v1 : Int32} {v2 : Int32}
    (h1 : (8 : Int32) ≤ v2 → aw_z X d y_M_gather Q 44 [some (.ref 69), some (.int v1), none, none] [] (aw_s I L D))
    (h2 : ¬ (8 : Int32) ≤ v2 → ¬ (I 69 48) = (1 : Int32) → aw_z X d y_M_gather Q 44 [some (.ref 69), some (.int v1), none, none] [] (aw_s I L D))
    (h3 : ¬ (8 : Int32) ≤ v2 → (I 69 48) = (1 : Int32) → vp_in (((8 : Int32) * v1) + v2) 480)
    (h4 : ¬ (8 : Int32) ≤ v2 → (I 69 48) = (1 : Int32) → vp_in v2 8)
    (h5 : ¬ (8 : Int32) ≤ v2 → (I 69 48) = (1 : Int32) → vp_in (((8 : Int32) * v1) + v2) 480)
    (h6 : ¬ (8 : Int32) ≤ v2 → (I 69 48) = (1 : Int32) → aw_z X d y_M_gather Q 2 [some (.ref 69), some (.int v1), some (.int (v2 + (1 : Int32))), none] [] (aw_s I (aw_u L 89 ((((8 : Int32) * v1) + v2).toNatClampNeg) ((L 89 ((((8 : Int32) * v1) + v2).toNatClampNeg)) ||| ((1 : Int64) <<< ((I 84 v2.toNatClampNeg).toInt64 &&& 63)))) D)) :
    aw_z X d y_M_gather Q 2 [some (.ref 69), some (.int v1), some (.int v2), none] [] (aw_s I L D) :=
  (s_M_gather_2.go [some (.ref 69), some (.int v1), some (.int v2), none] [.int (8 : Int32), .int v2] (aw_s I L D) rfl (z_icmp_ge (tgt := 44) d_M_gather_5 rfl (fun q1 => (aw_Z.weak (ls' := [some (.ref 69), some (.int v1), none, none]) (h1 q1) (Nat.le_of_ble_eq_true rfl) ⟨Or.inr rfl, ⟨Or.inr rfl, ⟨Or.inl rfl, ⟨Or.inl rfl, trivial⟩⟩⟩⟩)) (fun q2 => (s_M_gather_8.go [some (.ref 69), some (.int v1), some (.int v2), none] [.int (1 : Int32), .int (I 69 48)] (aw_s I L D) rfl (z_icmp_ne (tgt := 44) d_M_gather_13 rfl (fun q3 => (aw_Z.weak (ls' := [some (.ref 69), some (.int v1), none, none]) (h2 q2 q3) (Nat.le_of_ble_eq_true rfl) ⟨Or.inr rfl, ⟨Or.inr rfl, ⟨Or.inl rfl, ⟨Or.inl rfl, trivial⟩⟩⟩⟩)) (fun q4 => (s_M_gather_16.go [some (.ref 69), some (.int v1), some (.int v2), none] [.int (((8 : Int32) * v1) + v2), .ref 89, .int (((8 : Int32) * v1) + v2), .ref 89] (aw_s I L D) rfl (z_lald (n := 480) rfl (aw_lt (o := 89) rfl) (h3 q2 q4) d_M_gather_27 (s_M_gather_28.go [some (.ref 69), some (.int v1), some (.int v2), none] [.int v2, .ref 84, .long (1 : Int64), .long (L 89 ((((8 : Int32) * v1) + v2).toNatClampNeg)), .int (((8 : Int32) * v1) + v2), .ref 89] (aw_s I L D) rfl (z_iald (n := 8) rfl (aw_lt (o := 84) rfl) (h4 q2 q4) d_M_gather_34 (s_M_gather_35.go [some (.ref 69), some (.int v1), some (.int v2), none] [.long ((L 89 ((((8 : Int32) * v1) + v2).toNatClampNeg)) ||| ((1 : Int64) <<< ((I 84 v2.toNatClampNeg).toInt64 &&& 63))), .int (((8 : Int32) * v1) + v2), .ref 89] (aw_s I L D) rfl (z_last (n := 480) rfl rfl (aw_lt (o := 89) rfl) (h5 q2 q4) d_M_gather_37 (s_M_gather_38.go [some (.ref 69), some (.int v1), some (.int (v2 + (1 : Int32))), none] [] (aw_s I (aw_u L 89 ((((8 : Int32) * v1) + v2).toNatClampNeg) ((L 89 ((((8 : Int32) * v1) + v2).toNatClampNeg)) ||| ((1 : Int64) <<< ((I 84 v2.toNatClampNeg).toInt64 &&& 63)))) D) rfl (z_goto (tgt := 2) d_M_gather_41 rfl (h6 q2 q4)))))))))))))))
theorem d_M_gather_44 : decode y_M_gather.2.1 44 = .ok (.aload_n 0, 1) := by decide +kernel
theorem d_M_gather_45 : decode y_M_gather.2.1 45 = .ok (.getfield 369, 3) := by decide +kernel
theorem d_M_gather_48 : decode y_M_gather.2.1 48 = .ok (.iconst 2, 1) := by decide +kernel
theorem s_M_gather_44 : aw_VS y_M_gather 44 [o_ald 0, o_getI 9 48, o_c (.int (2 : Int32))] 49 := .cons (v_aload_n (i := 0) d_M_gather_44 rfl) (.cons (v_getI (k := 48) k_M (by decide) (Or.inl rfl) (Or.inl w_1509) d_M_gather_45) (.cons (v_iconst (v := (2 : Int32)) d_M_gather_48 (by decide +kernel)) .nil))
theorem d_M_gather_49 : decode y_M_gather.2.1 49 = .ok (.if_icmp .eq (4), 3) := by decide +kernel
theorem d_M_gather_53 : decode y_M_gather.2.1 53 = .ok (.iconst 0, 1) := by decide +kernel
theorem d_M_gather_54 : decode y_M_gather.2.1 54 = .ok (.istore_n 2, 1) := by decide +kernel
theorem s_M_gather_53 : aw_VS y_M_gather 53 [o_c (.int (0 : Int32)), o_ist 2] 55 := .cons (v_iconst (v := (0 : Int32)) d_M_gather_53 (by decide +kernel)) (.cons (v_istore_n d_M_gather_54) .nil)
theorem d_M_gather_52 : decode y_M_gather.2.1 52 = .ok (.return_, 1) := by decide +kernel
theorem b_M_gather_44 {X : aw_X} {d : Nat} {Q : Option Value → aw_H → Prop} {I : Nat → Nat → Int32} {L : Nat → Nat → Int64} {D : Nat → Nat} {v1 : Int32}
    (h1 : (I 69 48) = (2 : Int32) → aw_z X d y_M_gather Q 55 [some (.ref 69), some (.int v1), some (.int (0 : Int32)), none] [] (aw_s I L D))
    (h2 : ¬ (I 69 48) = (2 : Int32) → Q none (aw_s I L D)) :
    aw_z X d y_M_gather Q 44 [some (.ref 69), some (.int v1), none, none] [] (aw_s I L D) :=
  (s_M_gather_44.go [some (.ref 69), some (.int v1), none, none] [.int (2 : Int32), .int (I 69 48)] (aw_s I L D) rfl (z_icmp_eq (tgt := 53) d_M_gather_49 rfl (fun q1 => (s_M_gather_53.go [some (.ref 69), some (.int v1), some (.int (0 : Int32)), none] [] (aw_s I L D) rfl (h1 q1))) (fun q2 => (z_vret d_M_gather_52 rfl (h2 q2)))))
theorem d_M_gather_55 : decode y_M_gather.2.1 55 = .ok (.iload_n 2, 1) := by decide +kernel
theorem d_M_gather_56 : decode y_M_gather.2.1 56 = .ok (.bipush 8, 2) := by decide +kernel
theorem s_M_gather_55 : aw_VS y_M_gather 55 [o_ild 2, o_c (.int (8 : Int32))] 58 := .cons (v_iload_n (i := 2) d_M_gather_55 rfl) (.cons (v_bipush (v := (8 : Int32)) d_M_gather_56 (by decide +kernel)) .nil)
theorem d_M_gather_58 : decode y_M_gather.2.1 58 = .ok (.if_icmp .ge (83), 3) := by decide +kernel
theorem d_M_gather_141 : decode y_M_gather.2.1 141 = .ok (.return_, 1) := by decide +kernel
theorem d_M_gather_61 : decode y_M_gather.2.1 61 = .ok (.iload_n 2, 1) := by decide +kernel
theorem d_M_gather_62 : decode y_M_gather.2.1 62 = .ok (.iconst 1, 1) := by decide +kernel
theorem d_M_gather_63 : decode y_M_gather.2.1 63 = .ok (.iadd, 1) := by decide +kernel
theorem d_M_gather_64 : decode y_M_gather.2.1 64 = .ok (.istore_n 3, 1) := by decide +kernel
theorem s_M_gather_61 : aw_VS y_M_gather 61 [o_ild 2, o_c (.int (1 : Int32)), o_i2 (fun x z => x + z), o_ist 3] 65 := .cons (v_iload_n (i := 2) d_M_gather_61 rfl) (.cons (v_iconst (v := (1 : Int32)) d_M_gather_62 (by decide +kernel)) (.cons (v_iadd d_M_gather_63) (.cons (v_istore_n d_M_gather_64) .nil)))
theorem b_M_gather_55 {X : aw_X} {d : Nat} {Q : Option Value → aw_H → Prop} {I : Nat → Nat → Int32} {L : Nat → Nat → Int64} {D : Nat → Nat} {v1 : Int32} {v2 : Int32}
    (h1 : (8 : Int32) ≤ v2 → Q none (aw_s I L D))
    (h2 : ¬ (8 : Int32) ≤ v2 → aw_z X d y_M_gather Q 65 [some (.ref 69), some (.int v1), some (.int v2), some (.int (v2 + (1 : Int32)))] [] (aw_s I L D)) :
    aw_z X d y_M_gather Q 55 [some (.ref 69), some (.int v1), some (.int v2), none] [] (aw_s I L D) :=
  (s_M_gather_55.go [some (.ref 69), some (.int v1), some (.int v2), none] [.int (8 : Int32), .int v2] (aw_s I L D) rfl (z_icmp_ge (tgt := 141) d_M_gather_58 rfl (fun q1 => (z_vret d_M_gather_141 rfl (h1 q1))) (fun q2 => (s_M_gather_61.go [some (.ref 69), some (.int v1), some (.int v2), some (.int (v2 + (1 : Int32)))] [] (aw_s I L D) rfl (h2 q2)))))
theorem d_M_gather_65 : decode y_M_gather.2.1 65 = .ok (.iload_n 3, 1) := by decide +kernel
theorem d_M_gather_66 : decode y_M_gather.2.1 66 = .ok (.bipush 8, 2) := by decide +kernel
theorem s_M_gather_65 : aw_VS y_M_gather 65 [o_ild 3, o_c (.int (8 : Int32))] 68 := .cons (v_iload_n (i := 3) d_M_gather_65 rfl) (.cons (v_bipush (v := (8 : Int32)) d_M_gather_66 (by decide +kernel)) .nil)
theorem d_M_gather_68 : decode y_M_gather.2.1 68 = .ok (.if_icmp .ge (67), 3) := by decide +kernel
theorem d_M_gather_135 : decode y_M_gather.2.1 135 = .ok (.iinc 2 (1), 3) := by decide +kernel
theorem s_M_gather_135 : aw_VS y_M_gather 135 [o_inc 2 (1 : Int32)] 138 := .cons (v_iinc (k0 := (1 : Int32)) d_M_gather_135 (by decide +kernel)) .nil
theorem d_M_gather_138 : decode y_M_gather.2.1 138 = .ok (.goto (-83), 3) := by decide +kernel
theorem d_M_gather_71 : decode y_M_gather.2.1 71 = .ok (.aload_n 0, 1) := by decide +kernel
theorem d_M_gather_72 : decode y_M_gather.2.1 72 = .ok (.getfield 79, 3) := by decide +kernel
theorem d_M_gather_75 : decode y_M_gather.2.1 75 = .ok (.bipush 64, 2) := by decide +kernel
theorem d_M_gather_77 : decode y_M_gather.2.1 77 = .ok (.iload_n 1, 1) := by decide +kernel
theorem d_M_gather_78 : decode y_M_gather.2.1 78 = .ok (.imul, 1) := by decide +kernel
theorem d_M_gather_79 : decode y_M_gather.2.1 79 = .ok (.bipush 8, 2) := by decide +kernel
theorem d_M_gather_81 : decode y_M_gather.2.1 81 = .ok (.iload_n 2, 1) := by decide +kernel
theorem d_M_gather_82 : decode y_M_gather.2.1 82 = .ok (.imul, 1) := by decide +kernel
theorem d_M_gather_83 : decode y_M_gather.2.1 83 = .ok (.iadd, 1) := by decide +kernel
theorem d_M_gather_84 : decode y_M_gather.2.1 84 = .ok (.iload_n 3, 1) := by decide +kernel
theorem d_M_gather_85 : decode y_M_gather.2.1 85 = .ok (.iadd, 1) := by decide +kernel
theorem d_M_gather_86 : decode y_M_gather.2.1 86 = .ok (.dup2, 1) := by decide +kernel
theorem s_M_gather_71 : aw_VS y_M_gather 71 [o_ald 0, o_getA 9 50, o_c (.int (64 : Int32)), o_ild 1, o_i2 (fun x z => x * z), o_c (.int (8 : Int32)), o_ild 2, o_i2 (fun x z => x * z), o_i2 (fun x z => x + z), o_ild 3, o_i2 (fun x z => x + z), o_dup2] 87 := .cons (v_aload_n (i := 0) d_M_gather_71 rfl) (.cons (v_getA (k := 50) k_M (by decide) rfl (Or.inl w_1511) d_M_gather_72) (.cons (v_bipush (v := (64 : Int32)) d_M_gather_75 (by decide +kernel)) (.cons (v_iload_n (i := 1) d_M_gather_77 rfl) (.cons (v_imul d_M_gather_78) (.cons (v_bipush (v := (8 : Int32)) d_M_gather_79 (by decide +kernel)) (.cons (v_iload_n (i := 2) d_M_gather_81 rfl) (.cons (v_imul d_M_gather_82) (.cons (v_iadd d_M_gather_83) (.cons (v_iload_n (i := 3) d_M_gather_84 rfl) (.cons (v_iadd d_M_gather_85) (.cons (v_dup2 d_M_gather_86) .nil)))))))))))
theorem d_M_gather_87 : decode y_M_gather.2.1 87 = .ok (.iaload, 1) := by decide +kernel
theorem d_M_gather_88 : decode y_M_gather.2.1 88 = .ok (.aload_n 0, 1) := by decide +kernel
theorem d_M_gather_89 : decode y_M_gather.2.1 89 = .ok (.getfield 60, 3) := by decide +kernel
theorem d_M_gather_92 : decode y_M_gather.2.1 92 = .ok (.iload_n 2, 1) := by decide +kernel
theorem s_M_gather_88 : aw_VS y_M_gather 88 [o_ald 0, o_getA 9 37, o_ild 2] 93 := .cons (v_aload_n (i := 0) d_M_gather_88 rfl) (.cons (v_getA (k := 37) k_M (by decide) rfl (Or.inl w_1498) d_M_gather_89) (.cons (v_iload_n (i := 2) d_M_gather_92 rfl) .nil))
theorem d_M_gather_93 : decode y_M_gather.2.1 93 = .ok (.iaload, 1) := by decide +kernel
theorem d_M_gather_94 : decode y_M_gather.2.1 94 = .ok (.aload_n 0, 1) := by decide +kernel
theorem d_M_gather_95 : decode y_M_gather.2.1 95 = .ok (.getfield 60, 3) := by decide +kernel
theorem d_M_gather_98 : decode y_M_gather.2.1 98 = .ok (.iload_n 3, 1) := by decide +kernel
theorem s_M_gather_94 : aw_VS y_M_gather 94 [o_ald 0, o_getA 9 37, o_ild 3] 99 := .cons (v_aload_n (i := 0) d_M_gather_94 rfl) (.cons (v_getA (k := 37) k_M (by decide) rfl (Or.inl w_1498) d_M_gather_95) (.cons (v_iload_n (i := 3) d_M_gather_98 rfl) .nil))
theorem d_M_gather_99 : decode y_M_gather.2.1 99 = .ok (.iaload, 1) := by decide +kernel
theorem d_M_gather_100 : decode y_M_gather.2.1 100 = .ok (.if_icmp .ge (7), 3) := by decide +kernel
theorem d_M_gather_107 : decode y_M_gather.2.1 107 = .ok (.aload_n 0, 1) := by decide +kernel
theorem d_M_gather_108 : decode y_M_gather.2.1 108 = .ok (.getfield 60, 3) := by decide +kernel
theorem d_M_gather_111 : decode y_M_gather.2.1 111 = .ok (.iload_n 2, 1) := by decide +kernel
theorem s_M_gather_107 : aw_VS y_M_gather 107 [o_ald 0, o_getA 9 37, o_ild 2] 112 := .cons (v_aload_n (i := 0) d_M_gather_107 rfl) (.cons (v_getA (k := 37) k_M (by decide) rfl (Or.inl w_1498) d_M_gather_108) (.cons (v_iload_n (i := 2) d_M_gather_111 rfl) .nil))
theorem d_M_gather_112 : decode y_M_gather.2.1 112 = .ok (.iaload, 1) := by decide +kernel
theorem d_M_gather_113 : decode y_M_gather.2.1 113 = .ok (.aload_n 0, 1) := by decide +kernel
theorem d_M_gather_114 : decode y_M_gather.2.1 114 = .ok (.getfield 60, 3) := by decide +kernel
theorem d_M_gather_117 : decode y_M_gather.2.1 117 = .ok (.iload_n 3, 1) := by decide +kernel
theorem s_M_gather_113 : aw_VS y_M_gather 113 [o_ald 0, o_getA 9 37, o_ild 3] 118 := .cons (v_aload_n (i := 0) d_M_gather_113 rfl) (.cons (v_getA (k := 37) k_M (by decide) rfl (Or.inl w_1498) d_M_gather_114) (.cons (v_iload_n (i := 3) d_M_gather_117 rfl) .nil))
theorem d_M_gather_118 : decode y_M_gather.2.1 118 = .ok (.iaload, 1) := by decide +kernel
theorem d_M_gather_119 : decode y_M_gather.2.1 119 = .ok (.if_icmp .ne (7), 3) := by decide +kernel
theorem d_M_gather_126 : decode y_M_gather.2.1 126 = .ok (.iconst 4, 1) := by decide +kernel
theorem s_M_gather_126 : aw_VS y_M_gather 126 [o_c (.int (4 : Int32))] 127 := .cons (v_iconst (v := (4 : Int32)) d_M_gather_126 (by decide +kernel)) .nil
theorem d_M_gather_122 : decode y_M_gather.2.1 122 = .ok (.iconst 2, 1) := by decide +kernel
theorem s_M_gather_122 : aw_VS y_M_gather 122 [o_c (.int (2 : Int32))] 123 := .cons (v_iconst (v := (2 : Int32)) d_M_gather_122 (by decide +kernel)) .nil
theorem d_M_gather_123 : decode y_M_gather.2.1 123 = .ok (.goto (4), 3) := by decide +kernel
theorem d_M_gather_103 : decode y_M_gather.2.1 103 = .ok (.iconst 1, 1) := by decide +kernel
theorem s_M_gather_103 : aw_VS y_M_gather 103 [o_c (.int (1 : Int32))] 104 := .cons (v_iconst (v := (1 : Int32)) d_M_gather_103 (by decide +kernel)) .nil
theorem d_M_gather_104 : decode y_M_gather.2.1 104 = .ok (.goto (23), 3) := by decide +kernel
theorem b_M_gather_65 {X : aw_X} {d : Nat} {Q : Option Value → aw_H → Prop} {I : Nat → Nat → Int32} {L : Nat → Nat → Int64} {D : Nat → Nat} {v1 : Int32} {v2 : Int32} {v3 : Int32}
    (h1 : (8 : Int32) ≤ v3 → aw_z X d y_M_gather Q 55 [some (.ref 69), some (.int v1), some (.int (v2 + (1 : Int32))), none] [] (aw_s I L D))
    (h2 : ¬ (8 : Int32) ≤ v3 → vp_in ((((64 : Int32) * v1) + ((8 : Int32) * v2)) + v3) 3840)
    (h3 : ¬ (8 : Int32) ≤ v3 → vp_in v2 8)
    (h4 : ¬ (8 : Int32) ≤ v3 → vp_in v3 8)
    (h5 : ¬ (8 : Int32) ≤ v3 → (I 84 v3.toNatClampNeg) ≤ (I 84 v2.toNatClampNeg) → vp_in v2 8)
    (h6 : ¬ (8 : Int32) ≤ v3 → (I 84 v3.toNatClampNeg) ≤ (I 84 v2.toNatClampNeg) → vp_in v3 8)
    (h7 : ¬ (8 : Int32) ≤ v3 → (I 84 v3.toNatClampNeg) ≤ (I 84 v2.toNatClampNeg) → ¬ (I 84 v2.toNatClampNeg) = (I 84 v3.toNatClampNeg) → aw_z X d y_M_gather Q 127 [some (.ref 69), some (.int v1), some (.int v2), some (.int v3)] [.int (4 : Int32), .int (I 90 (((((64 : Int32) * v1) + ((8 : Int32) * v2)) + v3).toNatClampNeg)), .int ((((64 : Int32) * v1) + ((8 : Int32) * v2)) + v3), .ref 90] (aw_s I L D))
    (h8 : ¬ (8 : Int32) ≤ v3 → (I 84 v3.toNatClampNeg) ≤ (I 84 v2.toNatClampNeg) → (I 84 v2.toNatClampNeg) = (I 84 v3.toNatClampNeg) → aw_z X d y_M_gather Q 127 [some (.ref 69), some (.int v1), some (.int v2), some (.int v3)] [.int (2 : Int32), .int (I 90 (((((64 : Int32) * v1) + ((8 : Int32) * v2)) + v3).toNatClampNeg)), .int ((((64 : Int32) * v1) + ((8 : Int32) * v2)) + v3), .ref 90] (aw_s I L D))
    (h9 : ¬ (8 : Int32) ≤ v3 → ¬ (I 84 v3.toNatClampNeg) ≤ (I 84 v2.toNatClampNeg) → aw_z X d y_M_gather Q 127 [some (.ref 69), some (.int v1), some (.int v2), some (.int v3)] [.int (1 : Int32), .int (I 90 (((((64 : Int32) * v1) + ((8 : Int32) * v2)) + v3).toNatClampNeg)), .int ((((64 : Int32) * v1) + ((8 : Int32) * v2)) + v3), .ref 90] (aw_s I L D)) :
    aw_z X d y_M_gather Q 65 [some (.ref 69), some (.int v1), some (.int v2), some (.int v3)] [] (aw_s I L D) :=
  (s_M_gather_65.go [some (.ref 69), some (.int v1), some (.int v2), some (.int v3)] [.int (8 : Int32), .int v3] (aw_s I L D) rfl (z_icmp_ge (tgt := 135) d_M_gather_68 rfl (fun q1 => (s_M_gather_135.go [some (.ref 69), some (.int v1), some (.int (v2 + (1 : Int32))), some (.int v3)] [] (aw_s I L D) rfl (z_goto (tgt := 55) d_M_gather_138 rfl (aw_Z.weak (ls' := [some (.ref 69), some (.int v1), some (.int (v2 + (1 : Int32))), none]) (h1 q1) (Nat.le_of_ble_eq_true rfl) ⟨Or.inr rfl, ⟨Or.inr rfl, ⟨Or.inr rfl, ⟨Or.inl rfl, trivial⟩⟩⟩⟩)))) (fun q2 => (s_M_gather_71.go [some (.ref 69), some (.int v1), some (.int v2), some (.int v3)] [.int ((((64 : Int32) * v1) + ((8 : Int32) * v2)) + v3), .ref 90, .int ((((64 : Int32) * v1) + ((8 : Int32) * v2)) + v3), .ref 90] (aw_s I L D) rfl (z_iald (n := 3840) rfl (aw_lt (o := 90) rfl) (h2 q2) d_M_gather_87 (s_M_gather_88.go [some (.ref 69), some (.int v1), some (.int v2), some (.int v3)] [.int v2, .ref 84, .int (I 90 (((((64 : Int32) * v1) + ((8 : Int32) * v2)) + v3).toNatClampNeg)), .int ((((64 : Int32) * v1) + ((8 : Int32) * v2)) + v3), .ref 90] (aw_s I L D) rfl (z_iald (n := 8) rfl (aw_lt (o := 84) rfl) (h3 q2) d_M_gather_93 (s_M_gather_94.go [some (.ref 69), some (.int v1), some (.int v2), some (.int v3)] [.int v3, .ref 84, .int (I 84 v2.toNatClampNeg), .int (I 90 (((((64 : Int32) * v1) + ((8 : Int32) * v2)) + v3).toNatClampNeg)), .int ((((64 : Int32) * v1) + ((8 : Int32) * v2)) + v3), .ref 90] (aw_s I L D) rfl (z_iald (n := 8) rfl (aw_lt (o := 84) rfl) (h4 q2) d_M_gather_99 (z_icmp_ge (tgt := 107) d_M_gather_100 rfl (fun q3 => (s_M_gather_107.go [some (.ref 69), some (.int v1), some (.int v2), some (.int v3)] [.int v2, .ref 84, .int (I 90 (((((64 : Int32) * v1) + ((8 : Int32) * v2)) + v3).toNatClampNeg)), .int ((((64 : Int32) * v1) + ((8 : Int32) * v2)) + v3), .ref 90] (aw_s I L D) rfl (z_iald (n := 8) rfl (aw_lt (o := 84) rfl) (h5 q2 q3) d_M_gather_112 (s_M_gather_113.go [some (.ref 69), some (.int v1), some (.int v2), some (.int v3)] [.int v3, .ref 84, .int (I 84 v2.toNatClampNeg), .int (I 90 (((((64 : Int32) * v1) + ((8 : Int32) * v2)) + v3).toNatClampNeg)), .int ((((64 : Int32) * v1) + ((8 : Int32) * v2)) + v3), .ref 90] (aw_s I L D) rfl (z_iald (n := 8) rfl (aw_lt (o := 84) rfl) (h6 q2 q3) d_M_gather_118 (z_icmp_ne (tgt := 126) d_M_gather_119 rfl (fun q5 => (s_M_gather_126.go [some (.ref 69), some (.int v1), some (.int v2), some (.int v3)] [.int (4 : Int32), .int (I 90 (((((64 : Int32) * v1) + ((8 : Int32) * v2)) + v3).toNatClampNeg)), .int ((((64 : Int32) * v1) + ((8 : Int32) * v2)) + v3), .ref 90] (aw_s I L D) rfl (h7 q2 q3 q5))) (fun q6 => (s_M_gather_122.go [some (.ref 69), some (.int v1), some (.int v2), some (.int v3)] [.int (2 : Int32), .int (I 90 (((((64 : Int32) * v1) + ((8 : Int32) * v2)) + v3).toNatClampNeg)), .int ((((64 : Int32) * v1) + ((8 : Int32) * v2)) + v3), .ref 90] (aw_s I L D) rfl (z_goto (tgt := 127) d_M_gather_123 rfl (h8 q2 q3 q6)))))))))) (fun q4 => (s_M_gather_103.go [some (.ref 69), some (.int v1), some (.int v2), some (.int v3)] [.int (1 : Int32), .int (I 90 (((((64 : Int32) * v1) + ((8 : Int32) * v2)) + v3).toNatClampNeg)), .int ((((64 : Int32) * v1) + ((8 : Int32) * v2)) + v3), .ref 90] (aw_s I L D) rfl (z_goto (tgt := 127) d_M_gather_104 rfl (h9 q2 q4))))))))))))))
theorem d_M_gather_127 : decode y_M_gather.2.1 127 = .ok (.ior, 1) := by decide +kernel
theorem s_M_gather_127 : aw_VS y_M_gather 127 [o_i2 (fun x z => x ||| z)] 128 := .cons (v_ior d_M_gather_127) .nil
theorem d_M_gather_128 : decode y_M_gather.2.1 128 = .ok (.iastore, 1) := by decide +kernel
theorem d_M_gather_129 : decode y_M_gather.2.1 129 = .ok (.iinc 3 (1), 3) := by decide +kernel
theorem s_M_gather_129 : aw_VS y_M_gather 129 [o_inc 3 (1 : Int32)] 132 := .cons (v_iinc (k0 := (1 : Int32)) d_M_gather_129 (by decide +kernel)) .nil
theorem d_M_gather_132 : decode y_M_gather.2.1 132 = .ok (.goto (-67), 3) := by decide +kernel
theorem b_M_gather_127 {X : aw_X} {d : Nat} {Q : Option Value → aw_H → Prop} {I : Nat → Nat → Int32} {L : Nat → Nat → Int64} {D : Nat → Nat} {v1 : Int32} {v2 : Int32} {v3 : Int32} {s3 : Int32} {s2 : Int32} {s1 : Int32}
    (h1 : vp_in s1 3840)
    (h2 : aw_z X d y_M_gather Q 65 [some (.ref 69), some (.int v1), some (.int v2), some (.int (v3 + (1 : Int32)))] [] (aw_s (aw_u I 90 s1.toNatClampNeg (s2 ||| s3)) L D)) :
    aw_z X d y_M_gather Q 127 [some (.ref 69), some (.int v1), some (.int v2), some (.int v3)] [.int s3, .int s2, .int s1, .ref 90] (aw_s I L D) :=
  (s_M_gather_127.go [some (.ref 69), some (.int v1), some (.int v2), some (.int v3)] [.int (s2 ||| s3), .int s1, .ref 90] (aw_s I L D) rfl (z_iast (n := 3840) rfl (aw_lt (o := 90) rfl) (h1) d_M_gather_128 (s_M_gather_129.go [some (.ref 69), some (.int v1), some (.int v2), some (.int (v3 + (1 : Int32)))] [] (aw_s (aw_u I 90 s1.toNatClampNeg (s2 ||| s3)) L D) rfl (z_goto (tgt := 65) d_M_gather_132 rfl (h2)))))
