/-! by gen_blk.py (genall.py) -/
/-! M_cover -/
theorem d_M_cover_0 : decode y_M_cover.2.1 0 = .ok (.aload_n 0, 1) := by decide +kernel
theorem d_M_cover_1 : decode y_M_cover.2.1 1 = .ok (.iconst 0, 1) := by decide +kernel
theorem d_M_cover_2 : decode y_M_cover.2.1 2 = .ok (.putfield 160, 3) := by decide +kernel
theorem d_M_cover_5 : decode y_M_cover.2.1 5 = .ok (.aload_n 0, 1) := by decide +kernel
theorem d_M_cover_6 : decode y_M_cover.2.1 6 = .ok (.getfield 363, 3) := by decide +kernel
theorem s_M_cover_0 : aw_VS y_M_cover 0 [o_ald 0, o_c (.int (0 : Int32)), o_putI 9 0, o_ald 0, o_getI 9 36] 9 := .cons (v_aload_n (i := 0) d_M_cover_0 rfl) (.cons (v_iconst (v := (0 : Int32)) d_M_cover_1 (by decide +kernel)) (.cons (v_putI (k := 0) k_M (by decide) rfl (Or.inl ⟨rfl, Or.inl w_1461⟩) d_M_cover_2) (.cons (v_aload_n (i := 0) d_M_cover_5 rfl) (.cons (v_getI (k := 36) k_M (by decide) (Or.inr rfl) (Or.inl w_1497) d_M_cover_6) .nil))))
theorem d_M_cover_9 : decode y_M_cover.2.1 9 = .ok (.ifCond .ne (5), 3) := by decide +kernel
theorem d_M_cover_14 : decode y_M_cover.2.1 14 = .ok (.lconst 0, 1) := by decide +kernel
theorem d_M_cover_15 : decode y_M_cover.2.1 15 = .ok (.lstore_n 1, 1) := by decide +kernel
theorem d_M_cover_16 : decode y_M_cover.2.1 16 = .ok (.iconst 0, 1) := by decide +kernel
theorem d_M_cover_17 : decode y_M_cover.2.1 17 = .ok (.istore_n 3, 1) := by decide +kernel
theorem s_M_cover_14 : aw_VS y_M_cover 14 [o_c (.long (0 : Int64)), o_lst 1, o_c (.int (0 : Int32)), o_ist 3] 18 := .cons (v_lconst (v := (0 : Int64)) d_M_cover_14 (by decide +kernel)) (.cons (v_lstore_n d_M_cover_15) (.cons (v_iconst (v := (0 : Int32)) d_M_cover_16 (by decide +kernel)) (.cons (v_istore_n d_M_cover_17) .nil)))
theorem d_M_cover_12 : decode y_M_cover.2.1 12 = .ok (.iconst (-1), 1) := by decide +kernel
theorem s_M_cover_12 : aw_VS y_M_cover 12 [o_c (.int (-1 : Int32))] 13 := .cons (v_iconst (v := (-1 : Int32)) d_M_cover_12 (by decide +kernel)) .nil
theorem d_M_cover_13 : decode y_M_cover.2.1 13 = .ok (.ireturn, 1) := by decide +kernel
theorem b_M_cover_0 {X : aw_X} {d : Nat} {Q : Option Value → aw_H → Prop} {I : Nat → Nat → Int32} {L : Nat → Nat → Int64} {D : Nat → Nat} 
    (h1 : ¬ (I 69 36) = 0 → aw_z X (d + 1) y_M_cover Q 18 [some (.ref 69), some (.long (0 : Int64)), none, some (.int (0 : Int32)), none] [] (aw_s (aw_u I 69 0 (0 : Int32)) L D))
    (h2 : (I 69 36) = 0 → Q (some (.int (-1 : Int32))) (aw_s (aw_u I 69 0 (0 : Int32)) L D)) :
    aw_z X (d + 1) y_M_cover Q 0 [some (.ref 69), none, none, none, none] [] (aw_s I L D) :=
  (s_M_cover_0.go [some (.ref 69), none, none, none, none] [.int (I 69 36)] (aw_s (aw_u I 69 0 (0 : Int32)) L D) rfl (z_if_ne (tgt := 14) d_M_cover_9 rfl (fun q1 => (s_M_cover_14.go [some (.ref 69), some (.long (0 : Int64)), none, some (.int (0 : Int32)), none] [] (aw_s (aw_u I 69 0 (0 : Int32)) L D) rfl (h1 q1))) (fun q2 => (s_M_cover_12.go [some (.ref 69), none, none, none, none] [.int (-1 : Int32)] (aw_s (aw_u I 69 0 (0 : Int32)) L D) rfl (z_iret d_M_cover_13 rfl rfl (h2 q2))))))
theorem d_M_cover_18 : decode y_M_cover.2.1 18 = .ok (.iload_n 3, 1) := by decide +kernel
theorem d_M_cover_19 : decode y_M_cover.2.1 19 = .ok (.aload_n 0, 1) := by decide +kernel
theorem s_M_cover_18 : aw_VS y_M_cover 18 [o_ild 3, o_ald 0] 20 := .cons (v_iload_n (i := 3) d_M_cover_18 rfl) (.cons (v_aload_n (i := 0) d_M_cover_19 rfl) .nil)
theorem d_M_cover_20 : decode y_M_cover.2.1 20 = .ok (.invokevirtual 423, 3) := by decide +kernel
theorem b_M_cover_18 {X : aw_X} {d : Nat} {Q : Option Value → aw_H → Prop} {I : Nat → Nat → Int32} {L : Nat → Nat → Int64} {D : Nat → Nat} {v1 : Int64} {v3 : Int32}
    (h1 : aw_m X d y_M_rows [.ref 69] (aw_s I L D) (fun r A => aw_z X (d + 1) y_M_cover Q 23 [some (.ref 69), some (.long v1), none, some (.int v3), none] (r.toList ++ [.int v3]) A)) :
    aw_z X (d + 1) y_M_cover Q 18 [some (.ref 69), some (.long v1), none, some (.int v3), none] [] (aw_s I L D) :=
  (s_M_cover_18.go [some (.ref 69), some (.long v1), none, some (.int v3), none] [.ref 69, .int v3] (aw_s I L D) rfl (z_callV (av := []) (st := [.int v3]) ok_M_rows (Or.inl w_1915) w_1917 w_105 k_M d_M_cover_20 rfl (aw_lt (o := 69) rfl) rfl rfl (Nat.le_of_ble_eq_true rfl) (Nat.le_refl _) (Nat.le_refl _) (h1)))
theorem d_M_cover_23 : decode y_M_cover.2.1 23 = .ok (.if_icmp .ge (28), 3) := by decide +kernel
theorem d_M_cover_51 : decode y_M_cover.2.1 51 = .ok (.lload_n 1, 1) := by decide +kernel
theorem d_M_cover_52 : decode y_M_cover.2.1 52 = .ok (.lconst 0, 1) := by decide +kernel
theorem d_M_cover_53 : decode y_M_cover.2.1 53 = .ok (.lcmp, 1) := by decide +kernel
theorem s_M_cover_51 : aw_VS y_M_cover 51 [o_lld 1, o_c (.long (0 : Int64)), o_lc] 54 := .cons (v_lload_n (i := 1) d_M_cover_51 rfl) (.cons (v_lconst (v := (0 : Int64)) d_M_cover_52 (by decide +kernel)) (.cons (v_lcmp d_M_cover_53) .nil))
theorem d_M_cover_54 : decode y_M_cover.2.1 54 = .ok (.ifCond .ne (10), 3) := by decide +kernel
theorem d_M_cover_64 : decode y_M_cover.2.1 64 = .ok (.iconst 0, 1) := by decide +kernel
theorem d_M_cover_65 : decode y_M_cover.2.1 65 = .ok (.istore_n 3, 1) := by decide +kernel
theorem s_M_cover_64 : aw_VS y_M_cover 64 [o_c (.int (0 : Int32)), o_ist 3] 66 := .cons (v_iconst (v := (0 : Int32)) d_M_cover_64 (by decide +kernel)) (.cons (v_istore_n d_M_cover_65) .nil)
theorem d_M_cover_57 : decode y_M_cover.2.1 57 = .ok (.aload_n 0, 1) := by decide +kernel
theorem d_M_cover_58 : decode y_M_cover.2.1 58 = .ok (.iconst 0, 1) := by decide +kernel
theorem d_M_cover_59 : decode y_M_cover.2.1 59 = .ok (.putfield 464, 3) := by decide +kernel
theorem d_M_cover_62 : decode y_M_cover.2.1 62 = .ok (.iconst 0, 1) := by decide +kernel
theorem s_M_cover_57 : aw_VS y_M_cover 57 [o_ald 0, o_c (.int (0 : Int32)), o_putI 9 71, o_c (.int (0 : Int32))] 63 := .cons (v_aload_n (i := 0) d_M_cover_57 rfl) (.cons (v_iconst (v := (0 : Int32)) d_M_cover_58 (by decide +kernel)) (.cons (v_putI (k := 71) k_M (by decide) rfl (Or.inl ⟨rfl, Or.inl w_1532⟩) d_M_cover_59) (.cons (v_iconst (v := (0 : Int32)) d_M_cover_62 (by decide +kernel)) .nil)))
theorem d_M_cover_63 : decode y_M_cover.2.1 63 = .ok (.ireturn, 1) := by decide +kernel
theorem d_M_cover_26 : decode y_M_cover.2.1 26 = .ok (.aload_n 0, 1) := by decide +kernel
theorem d_M_cover_27 : decode y_M_cover.2.1 27 = .ok (.getfield 94, 3) := by decide +kernel
theorem d_M_cover_30 : decode y_M_cover.2.1 30 = .ok (.iload_n 3, 1) := by decide +kernel
theorem s_M_cover_26 : aw_VS y_M_cover 26 [o_ald 0, o_getA 9 55, o_ild 3] 31 := .cons (v_aload_n (i := 0) d_M_cover_26 rfl) (.cons (v_getA (k := 55) k_M (by decide) rfl (Or.inl w_1516) d_M_cover_27) (.cons (v_iload_n (i := 3) d_M_cover_30 rfl) .nil))
theorem d_M_cover_31 : decode y_M_cover.2.1 31 = .ok (.iaload, 1) := by decide +kernel
theorem d_M_cover_32 : decode y_M_cover.2.1 32 = .ok (.iconst 4, 1) := by decide +kernel
theorem s_M_cover_32 : aw_VS y_M_cover 32 [o_c (.int (4 : Int32))] 33 := .cons (v_iconst (v := (4 : Int32)) d_M_cover_32 (by decide +kernel)) .nil
theorem d_M_cover_33 : decode y_M_cover.2.1 33 = .ok (.if_icmp .eq (12), 3) := by decide +kernel
theorem d_M_cover_45 : decode y_M_cover.2.1 45 = .ok (.iinc 3 (1), 3) := by decide +kernel
theorem s_M_cover_45 : aw_VS y_M_cover 45 [o_inc 3 (1 : Int32)] 48 := .cons (v_iinc (k0 := (1 : Int32)) d_M_cover_45 (by decide +kernel)) .nil
theorem d_M_cover_48 : decode y_M_cover.2.1 48 = .ok (.goto (-30), 3) := by decide +kernel
theorem d_M_cover_36 : decode y_M_cover.2.1 36 = .ok (.lload_n 1, 1) := by decide +kernel
theorem d_M_cover_37 : decode y_M_cover.2.1 37 = .ok (.aload_n 0, 1) := by decide +kernel
theorem d_M_cover_38 : decode y_M_cover.2.1 38 = .ok (.getfield 85, 3) := by decide +kernel
theorem d_M_cover_41 : decode y_M_cover.2.1 41 = .ok (.iload_n 3, 1) := by decide +kernel
theorem s_M_cover_36 : aw_VS y_M_cover 36 [o_lld 1, o_ald 0, o_getA 9 52, o_ild 3] 42 := .cons (v_lload_n (i := 1) d_M_cover_36 rfl) (.cons (v_aload_n (i := 0) d_M_cover_37 rfl) (.cons (v_getA (k := 52) k_M (by decide) rfl (Or.inl w_1513) d_M_cover_38) (.cons (v_iload_n (i := 3) d_M_cover_41 rfl) .nil)))
theorem d_M_cover_42 : decode y_M_cover.2.1 42 = .ok (.laload, 1) := by decide +kernel
theorem d_M_cover_43 : decode y_M_cover.2.1 43 = .ok (.lor, 1) := by decide +kernel
theorem d_M_cover_44 : decode y_M_cover.2.1 44 = .ok (.lstore_n 1, 1) := by decide +kernel
theorem s_M_cover_43 : aw_VS y_M_cover 43 [o_l2 (fun x z => x ||| z), o_lst 1] 45 := .cons (v_lor d_M_cover_43) (.cons (v_lstore_n d_M_cover_44) .nil)
theorem b_M_cover_23 {X : aw_X} {d : Nat} {Q : Option Value → aw_H → Prop} {I : Nat → Nat → Int32} {L : Nat → Nat → Int64} {D : Nat → Nat} {v1 : Int64} {v3 : Int32} {s1 : Int32} {s0 : Int32}
    (h1 : s1 ≤ s0 → ¬ (lg_cmp v1 (0 : Int64)) = 0 → aw_z X (d + 1) y_M_cover Q 66 [some (.ref 69), some (.long v1), none, some (.int (0 : Int32)), none] [] (aw_s I L D))
    (h2 : s1 ≤ s0 → (lg_cmp v1 (0 : Int64)) = 0 → Q (some (.int (0 : Int32))) (aw_s (aw_u I 69 71 (0 : Int32)) L D))
    (h3 : ¬ s1 ≤ s0 → vp_in v3 4096)
    (h4 : ¬ s1 ≤ s0 → (I 95 v3.toNatClampNeg) = (4 : Int32) → aw_z X (d + 1) y_M_cover Q 18 [some (.ref 69), some (.long v1), none, some (.int (v3 + (1 : Int32))), none] [] (aw_s I L D))
    (h5 : ¬ s1 ≤ s0 → ¬ (I 95 v3.toNatClampNeg) = (4 : Int32) → vp_in v3 4096)
    (h6 : ¬ s1 ≤ s0 → ¬ (I 95 v3.toNatClampNeg) = (4 : Int32) → aw_z X (d + 1) y_M_cover Q 18 [some (.ref 69), some (.long (v1 ||| (L 92 v3.toNatClampNeg))), none, some (.int (v3 + (1 : Int32))), none] [] (aw_s I L D)) :
    aw_z X (d + 1) y_M_cover Q 23 [some (.ref 69), some (.long v1), none, some (.int v3), none] [.int s1, .int s0] (aw_s I L D) :=
  (z_icmp_ge (tgt := 51) d_M_cover_23 rfl (fun q1 => (s_M_cover_51.go [some (.ref 69), some (.long v1), none, some (.int v3), none] [.int (lg_cmp v1 (0 : Int64))] (aw_s I L D) rfl (z_if_ne (tgt := 64) d_M_cover_54 rfl (fun q3 => (s_M_cover_64.go [some (.ref 69), some (.long v1), none, some (.int (0 : Int32)), none] [] (aw_s I L D) rfl (h1 q1 q3))) (fun q4 => (s_M_cover_57.go [some (.ref 69), some (.long v1), none, some (.int v3), none] [.int (0 : Int32)] (aw_s (aw_u I 69 71 (0 : Int32)) L D) rfl (z_iret d_M_cover_63 rfl rfl (h2 q1 q4))))))) (fun q2 => (s_M_cover_26.go [some (.ref 69), some (.long v1), none, some (.int v3), none] [.int v3, .ref 95] (aw_s I L D) rfl (z_iald (n := 4096) rfl (aw_lt (o := 95) rfl) (h3 q2) d_M_cover_31 (s_M_cover_32.go [some (.ref 69), some (.long v1), none, some (.int v3), none] [.int (4 : Int32), .int (I 95 v3.toNatClampNeg)] (aw_s I L D) rfl (z_icmp_eq (tgt := 45) d_M_cover_33 rfl (fun q5 => (s_M_cover_45.go [some (.ref 69), some (.long v1), none, some (.int (v3 + (1 : Int32))), none] [] (aw_s I L D) rfl (z_goto (tgt := 18) d_M_cover_48 rfl (h4 q2 q5)))) (fun q6 => (s_M_cover_36.go [some (.ref 69), some (.long v1), none, some (.int v3), none] [.int v3, .ref 92, .long v1] (aw_s I L D) rfl (z_lald (n := 4096) rfl (aw_lt (o := 92) rfl) (h5 q2 q6) d_M_cover_42 (s_M_cover_43.go [some (.ref 69), some (.long (v1 ||| (L 92 v3.toNatClampNeg))), none, some (.int v3), none] [] (aw_s I L D) rfl (s_M_cover_45.go [some (.ref 69), some (.long (v1 ||| (L 92 v3.toNatClampNeg))), none, some (.int (v3 + (1 : Int32))), none] [] (aw_s I L D) rfl (z_goto (tgt := 18) d_M_cover_48 rfl (h6 q2 q6)))))))))))))
theorem d_M_cover_66 : decode y_M_cover.2.1 66 = .ok (.iload_n 3, 1) := by decide +kernel
theorem d_M_cover_67 : decode y_M_cover.2.1 67 = .ok (.aload_n 0, 1) := by decide +kernel
theorem s_M_cover_66 : aw_VS y_M_cover 66 [o_ild 3, o_ald 0] 68 := .cons (v_iload_n (i := 3) d_M_cover_66 rfl) (.cons (v_aload_n (i := 0) d_M_cover_67 rfl) .nil)
theorem d_M_cover_68 : decode y_M_cover.2.1 68 = .ok (.invokevirtual 423, 3) := by decide +kernel
theorem b_M_cover_66 {X : aw_X} {d : Nat} {Q : Option Value → aw_H → Prop} {I : Nat → Nat → Int32} {L : Nat → Nat → Int64} {D : Nat → Nat} {v1 : Int64} {v3 : Int32}
    (h1 : aw_m X d y_M_rows [.ref 69] (aw_s I L D) (fun r A => aw_z X (d + 1) y_M_cover Q 71 [some (.ref 69), some (.long v1), none, some (.int v3), none] (r.toList ++ [.int v3]) A)) :
    aw_z X (d + 1) y_M_cover Q 66 [some (.ref 69), some (.long v1), none, some (.int v3), none] [] (aw_s I L D) :=
  (s_M_cover_66.go [some (.ref 69), some (.long v1), none, some (.int v3), none] [.ref 69, .int v3] (aw_s I L D) rfl (z_callV (av := []) (st := [.int v3]) ok_M_rows (Or.inl w_1915) w_1917 w_105 k_M d_M_cover_68 rfl (aw_lt (o := 69) rfl) rfl rfl (Nat.le_of_ble_eq_true rfl) (Nat.le_refl _) (Nat.le_refl _) (h1)))
theorem d_M_cover_71 : decode y_M_cover.2.1 71 = .ok (.if_icmp .ge (47), 3) := by decide +kernel
theorem d_M_cover_118 : decode y_M_cover.2.1 118 = .ok (.iconst 0, 1) := by decide +kernel
theorem d_M_cover_119 : decode y_M_cover.2.1 119 = .ok (.istore_n 3, 1) := by decide +kernel
theorem s_M_cover_118 : aw_VS y_M_cover 118 [o_c (.int (0 : Int32)), o_ist 3] 120 := .cons (v_iconst (v := (0 : Int32)) d_M_cover_118 (by decide +kernel)) (.cons (v_istore_n d_M_cover_119) .nil)
theorem d_M_cover_74 : decode y_M_cover.2.1 74 = .ok (.aload_n 0, 1) := by decide +kernel
theorem d_M_cover_75 : decode y_M_cover.2.1 75 = .ok (.getfield 94, 3) := by decide +kernel
theorem d_M_cover_78 : decode y_M_cover.2.1 78 = .ok (.iload_n 3, 1) := by decide +kernel
theorem s_M_cover_74 : aw_VS y_M_cover 74 [o_ald 0, o_getA 9 55, o_ild 3] 79 := .cons (v_aload_n (i := 0) d_M_cover_74 rfl) (.cons (v_getA (k := 55) k_M (by decide) rfl (Or.inl w_1516) d_M_cover_75) (.cons (v_iload_n (i := 3) d_M_cover_78 rfl) .nil))
theorem d_M_cover_79 : decode y_M_cover.2.1 79 = .ok (.iaload, 1) := by decide +kernel
theorem d_M_cover_80 : decode y_M_cover.2.1 80 = .ok (.iconst 4, 1) := by decide +kernel
theorem s_M_cover_80 : aw_VS y_M_cover 80 [o_c (.int (4 : Int32))] 81 := .cons (v_iconst (v := (4 : Int32)) d_M_cover_80 (by decide +kernel)) .nil
theorem d_M_cover_81 : decode y_M_cover.2.1 81 = .ok (.if_icmp .eq (31), 3) := by decide +kernel
theorem d_M_cover_112 : decode y_M_cover.2.1 112 = .ok (.iinc 3 (1), 3) := by decide +kernel
theorem s_M_cover_112 : aw_VS y_M_cover 112 [o_inc 3 (1 : Int32)] 115 := .cons (v_iinc (k0 := (1 : Int32)) d_M_cover_112 (by decide +kernel)) .nil
theorem d_M_cover_115 : decode y_M_cover.2.1 115 = .ok (.goto (-49), 3) := by decide +kernel
theorem d_M_cover_84 : decode y_M_cover.2.1 84 = .ok (.aload_n 0, 1) := by decide +kernel
theorem d_M_cover_85 : decode y_M_cover.2.1 85 = .ok (.getfield 85, 3) := by decide +kernel
theorem d_M_cover_88 : decode y_M_cover.2.1 88 = .ok (.iload_n 3, 1) := by decide +kernel
theorem s_M_cover_84 : aw_VS y_M_cover 84 [o_ald 0, o_getA 9 52, o_ild 3] 89 := .cons (v_aload_n (i := 0) d_M_cover_84 rfl) (.cons (v_getA (k := 52) k_M (by decide) rfl (Or.inl w_1513) d_M_cover_85) (.cons (v_iload_n (i := 3) d_M_cover_88 rfl) .nil))
theorem d_M_cover_89 : decode y_M_cover.2.1 89 = .ok (.laload, 1) := by decide +kernel
theorem d_M_cover_90 : decode y_M_cover.2.1 90 = .ok (.lload_n 1, 1) := by decide +kernel
theorem d_M_cover_91 : decode y_M_cover.2.1 91 = .ok (.lcmp, 1) := by decide +kernel
theorem s_M_cover_90 : aw_VS y_M_cover 90 [o_lld 1, o_lc] 92 := .cons (v_lload_n (i := 1) d_M_cover_90 rfl) (.cons (v_lcmp d_M_cover_91) .nil)
theorem d_M_cover_92 : decode y_M_cover.2.1 92 = .ok (.ifCond .eq (6), 3) := by decide +kernel
theorem d_M_cover_98 : decode y_M_cover.2.1 98 = .ok (.aload_n 0, 1) := by decide +kernel
theorem d_M_cover_99 : decode y_M_cover.2.1 99 = .ok (.getfield 124, 3) := by decide +kernel
theorem d_M_cover_102 : decode y_M_cover.2.1 102 = .ok (.iconst 0, 1) := by decide +kernel
theorem d_M_cover_103 : decode y_M_cover.2.1 103 = .ok (.iload_n 3, 1) := by decide +kernel
theorem s_M_cover_98 : aw_VS y_M_cover 98 [o_ald 0, o_getA 9 70, o_c (.int (0 : Int32)), o_ild 3] 104 := .cons (v_aload_n (i := 0) d_M_cover_98 rfl) (.cons (v_getA (k := 70) k_M (by decide) rfl (Or.inl w_1531) d_M_cover_99) (.cons (v_iconst (v := (0 : Int32)) d_M_cover_102 (by decide +kernel)) (.cons (v_iload_n (i := 3) d_M_cover_103 rfl) .nil)))
theorem d_M_cover_104 : decode y_M_cover.2.1 104 = .ok (.iastore, 1) := by decide +kernel
theorem d_M_cover_105 : decode y_M_cover.2.1 105 = .ok (.aload_n 0, 1) := by decide +kernel
theorem d_M_cover_106 : decode y_M_cover.2.1 106 = .ok (.iconst 1, 1) := by decide +kernel
theorem d_M_cover_107 : decode y_M_cover.2.1 107 = .ok (.putfield 464, 3) := by decide +kernel
theorem d_M_cover_110 : decode y_M_cover.2.1 110 = .ok (.iconst 1, 1) := by decide +kernel
theorem s_M_cover_105 : aw_VS y_M_cover 105 [o_ald 0, o_c (.int (1 : Int32)), o_putI 9 71, o_c (.int (1 : Int32))] 111 := .cons (v_aload_n (i := 0) d_M_cover_105 rfl) (.cons (v_iconst (v := (1 : Int32)) d_M_cover_106 (by decide +kernel)) (.cons (v_putI (k := 71) k_M (by decide) rfl (Or.inl ⟨rfl, Or.inl w_1532⟩) d_M_cover_107) (.cons (v_iconst (v := (1 : Int32)) d_M_cover_110 (by decide +kernel)) .nil)))
theorem d_M_cover_111 : decode y_M_cover.2.1 111 = .ok (.ireturn, 1) := by decide +kernel
theorem d_M_cover_95 : decode y_M_cover.2.1 95 = .ok (.goto (17), 3) := by decide +kernel
theorem b_M_cover_71 {X : aw_X} {d : Nat} {Q : Option Value → aw_H → Prop} {I : Nat → Nat → Int32} {L : Nat → Nat → Int64} {D : Nat → Nat} {v1 : Int64} {v3 : Int32} {s1 : Int32} {s0 : Int32}
    (h1 : s1 ≤ s0 → aw_z X (d + 1) y_M_cover Q 120 [some (.ref 69), some (.long v1), none, some (.int (0 : Int32)), none] [] (aw_s I L D))
    (h2 : ¬ s1 ≤ s0 → vp_in v3 4096)
    (h3 : ¬ s1 ≤ s0 → (I 95 v3.toNatClampNeg) = (4 : Int32) → aw_z X (d + 1) y_M_cover Q 66 [some (.ref 69), some (.long v1), none, some (.int (v3 + (1 : Int32))), none] [] (aw_s I L D))
    (h4 : ¬ s1 ≤ s0 → ¬ (I 95 v3.toNatClampNeg) = (4 : Int32) → vp_in v3 4096)
    (h5 : ¬ s1 ≤ s0 → ¬ (I 95 v3.toNatClampNeg) = (4 : Int32) → (lg_cmp (L 92 v3.toNatClampNeg) v1) = 0 → Q (some (.int (1 : Int32))) (aw_s (aw_u (aw_u I 105 0 v3) 69 71 (1 : Int32)) L D))
    (h6 : ¬ s1 ≤ s0 → ¬ (I 95 v3.toNatClampNeg) = (4 : Int32) → ¬ (lg_cmp (L 92 v3.toNatClampNeg) v1) = 0 → aw_z X (d + 1) y_M_cover Q 66 [some (.ref 69), some (.long v1), none, some (.int (v3 + (1 : Int32))), none] [] (aw_s I L D)) :
    aw_z X (d + 1) y_M_cover Q 71 [some (.ref 69), some (.long v1), none, some (.int v3), none] [.int s1, .int s0] (aw_s I L D) :=
  (z_icmp_ge (tgt := 118) d_M_cover_71 rfl (fun q1 => (s_M_cover_118.go [some (.ref 69), some (.long v1), none, some (.int (0 : Int32)), none] [] (aw_s I L D) rfl (h1 q1))) (fun q2 => (s_M_cover_74.go [some (.ref 69), some (.long v1), none, some (.int v3), none] [.int v3, .ref 95] (aw_s I L D) rfl (z_iald (n := 4096) rfl (aw_lt (o := 95) rfl) (h2 q2) d_M_cover_79 (s_M_cover_80.go [some (.ref 69), some (.long v1), none, some (.int v3), none] [.int (4 : Int32), .int (I 95 v3.toNatClampNeg)] (aw_s I L D) rfl (z_icmp_eq (tgt := 112) d_M_cover_81 rfl (fun q3 => (s_M_cover_112.go [some (.ref 69), some (.long v1), none, some (.int (v3 + (1 : Int32))), none] [] (aw_s I L D) rfl (z_goto (tgt := 66) d_M_cover_115 rfl (h3 q2 q3)))) (fun q4 => (s_M_cover_84.go [some (.ref 69), some (.long v1), none, some (.int v3), none] [.int v3, .ref 92] (aw_s I L D) rfl (z_lald (n := 4096) rfl (aw_lt (o := 92) rfl) (h4 q2 q4) d_M_cover_89 (s_M_cover_90.go [some (.ref 69), some (.long v1), none, some (.int v3), none] [.int (lg_cmp (L 92 v3.toNatClampNeg) v1)] (aw_s I L D) rfl (z_if_eq (tgt := 98) d_M_cover_92 rfl (fun q5 => (s_M_cover_98.go [some (.ref 69), some (.long v1), none, some (.int v3), none] [.int v3, .int (0 : Int32), .ref 105] (aw_s I L D) rfl (z_iast (n := 2) rfl (aw_lt (o := 105) rfl) (aw_lin (by decide +kernel) (by decide +kernel)) d_M_cover_104 (s_M_cover_105.go [some (.ref 69), some (.long v1), none, some (.int v3), none] [.int (1 : Int32)] (aw_s (aw_u (aw_u I 105 0 v3) 69 71 (1 : Int32)) L D) rfl (z_iret d_M_cover_111 rfl rfl (h5 q2 q4 q5)))))) (fun q6 => (z_goto (tgt := 112) d_M_cover_95 rfl (s_M_cover_112.go [some (.ref 69), some (.long v1), none, some (.int (v3 + (1 : Int32))), none] [] (aw_s I L D) rfl (z_goto (tgt := 66) d_M_cover_115 rfl (h6 q2 q4 q6))))))))))))))))
theorem d_M_cover_120 : decode y_M_cover.2.1 120 = .ok (.iload_n 3, 1) := by decide +kernel
theorem d_M_cover_121 : decode y_M_cover.2.1 121 = .ok (.aload_n 0, 1) := by decide +kernel
theorem s_M_cover_120 : aw_VS y_M_cover 120 [o_ild 3, o_ald 0] 122 := .cons (v_iload_n (i := 3) d_M_cover_120 rfl) (.cons (v_aload_n (i := 0) d_M_cover_121 rfl) .nil)
theorem d_M_cover_122 : decode y_M_cover.2.1 122 = .ok (.invokevirtual 423, 3) := by decide +kernel
theorem b_M_cover_120 {X : aw_X} {d : Nat} {Q : Option Value → aw_H → Prop} {I : Nat → Nat → Int32} {L : Nat → Nat → Int64} {D : Nat → Nat} {v1 : Int64} {v3 : Int32}
    (h1 : aw_m X d y_M_rows [.ref 69] (aw_s I L D) (fun r A => aw_z X (d + 1) y_M_cover Q 125 [some (.ref 69), some (.long v1), none, some (.int v3), none] (r.toList ++ [.int v3]) A)) :
    aw_z X (d + 1) y_M_cover Q 120 [some (.ref 69), some (.long v1), none, some (.int v3), none] [] (aw_s I L D) :=
  (s_M_cover_120.go [some (.ref 69), some (.long v1), none, some (.int v3), none] [.ref 69, .int v3] (aw_s I L D) rfl (z_callV (av := []) (st := [.int v3]) ok_M_rows (Or.inl w_1915) w_1917 w_105 k_M d_M_cover_122 rfl (aw_lt (o := 69) rfl) rfl rfl (Nat.le_of_ble_eq_true rfl) (Nat.le_refl _) (Nat.le_refl _) (h1)))
theorem d_M_cover_125 : decode y_M_cover.2.1 125 = .ok (.if_icmp .ge (97), 3) := by decide +kernel
theorem d_M_cover_222 : decode y_M_cover.2.1 222 = .ok (.iconst (-1), 1) := by decide +kernel
theorem s_M_cover_222 : aw_VS y_M_cover 222 [o_c (.int (-1 : Int32))] 223 := .cons (v_iconst (v := (-1 : Int32)) d_M_cover_222 (by decide +kernel)) .nil
theorem d_M_cover_223 : decode y_M_cover.2.1 223 = .ok (.ireturn, 1) := by decide +kernel
theorem d_M_cover_128 : decode y_M_cover.2.1 128 = .ok (.aload_n 0, 1) := by decide +kernel
theorem d_M_cover_129 : decode y_M_cover.2.1 129 = .ok (.getfield 94, 3) := by decide +kernel
theorem d_M_cover_132 : decode y_M_cover.2.1 132 = .ok (.iload_n 3, 1) := by decide +kernel
theorem s_M_cover_128 : aw_VS y_M_cover 128 [o_ald 0, o_getA 9 55, o_ild 3] 133 := .cons (v_aload_n (i := 0) d_M_cover_128 rfl) (.cons (v_getA (k := 55) k_M (by decide) rfl (Or.inl w_1516) d_M_cover_129) (.cons (v_iload_n (i := 3) d_M_cover_132 rfl) .nil))
theorem d_M_cover_133 : decode y_M_cover.2.1 133 = .ok (.iaload, 1) := by decide +kernel
theorem d_M_cover_134 : decode y_M_cover.2.1 134 = .ok (.iconst 4, 1) := by decide +kernel
theorem s_M_cover_134 : aw_VS y_M_cover 134 [o_c (.int (4 : Int32))] 135 := .cons (v_iconst (v := (4 : Int32)) d_M_cover_134 (by decide +kernel)) .nil
theorem d_M_cover_135 : decode y_M_cover.2.1 135 = .ok (.if_icmp .ne (6), 3) := by decide +kernel
theorem d_M_cover_141 : decode y_M_cover.2.1 141 = .ok (.iload_n 3, 1) := by decide +kernel
theorem d_M_cover_142 : decode y_M_cover.2.1 142 = .ok (.iconst 1, 1) := by decide +kernel
theorem d_M_cover_143 : decode y_M_cover.2.1 143 = .ok (.iadd, 1) := by decide +kernel
theorem d_M_cover_144 : decode y_M_cover.2.1 144 = .ok (.istore 4, 2) := by decide +kernel
theorem s_M_cover_141 : aw_VS y_M_cover 141 [o_ild 3, o_c (.int (1 : Int32)), o_i2 (fun x z => x + z), o_ist 4] 146 := .cons (v_iload_n (i := 3) d_M_cover_141 rfl) (.cons (v_iconst (v := (1 : Int32)) d_M_cover_142 (by decide +kernel)) (.cons (v_iadd d_M_cover_143) (.cons (v_istore d_M_cover_144) .nil)))
theorem d_M_cover_138 : decode y_M_cover.2.1 138 = .ok (.goto (78), 3) := by decide +kernel
theorem d_M_cover_216 : decode y_M_cover.2.1 216 = .ok (.iinc 3 (1), 3) := by decide +kernel
theorem s_M_cover_216 : aw_VS y_M_cover 216 [o_inc 3 (1 : Int32)] 219 := .cons (v_iinc (k0 := (1 : Int32)) d_M_cover_216 (by decide +kernel)) .nil
theorem d_M_cover_219 : decode y_M_cover.2.1 219 = .ok (.goto (-99), 3) := by decide +kernel
theorem b_M_cover_125 {X : aw_X} {d : Nat} {Q : Option Value → aw_H → Prop} {I : Nat → Nat → Int32} {L : Nat → Nat → Int64} {D : Nat → Nat} {v1 : Int64} {v3 : Int32} {s1 : Int32} {s0 : Int32}
    (h1 : s1 ≤ s0 → Q (some (.int (-1 : Int32))) (aw_s I L D))
    (h2 : ¬ s1 ≤ s0 → vp_in v3 4096)
    (h3 : ¬ s1 ≤ s0 → ¬ (I 95 v3.toNatClampNeg) = (4 : Int32) → aw_z X (d + 1) y_M_cover Q 146 [some (.ref 69), some (.long v1), none, some (.int v3), some (.int (v3 + (1 : Int32)))] [] (aw_s I L D))
    (h4 : ¬ s1 ≤ s0 → (I 95 v3.toNatClampNeg) = (4 : Int32) → aw_z X (d + 1) y_M_cover Q 120 [some (.ref 69), some (.long v1), none, some (.int (v3 + (1 : Int32))), none] [] (aw_s I L D)) :
    aw_z X (d + 1) y_M_cover Q 125 [some (.ref 69), some (.long v1), none, some (.int v3), none] [.int s1, .int s0] (aw_s I L D) :=
  (z_icmp_ge (tgt := 222) d_M_cover_125 rfl (fun q1 => (s_M_cover_222.go [some (.ref 69), some (.long v1), none, some (.int v3), none] [.int (-1 : Int32)] (aw_s I L D) rfl (z_iret d_M_cover_223 rfl rfl (h1 q1)))) (fun q2 => (s_M_cover_128.go [some (.ref 69), some (.long v1), none, some (.int v3), none] [.int v3, .ref 95] (aw_s I L D) rfl (z_iald (n := 4096) rfl (aw_lt (o := 95) rfl) (h2 q2) d_M_cover_133 (s_M_cover_134.go [some (.ref 69), some (.long v1), none, some (.int v3), none] [.int (4 : Int32), .int (I 95 v3.toNatClampNeg)] (aw_s I L D) rfl (z_icmp_ne (tgt := 141) d_M_cover_135 rfl (fun q3 => (s_M_cover_141.go [some (.ref 69), some (.long v1), none, some (.int v3), some (.int (v3 + (1 : Int32)))] [] (aw_s I L D) rfl (h3 q2 q3))) (fun q4 => (z_goto (tgt := 216) d_M_cover_138 rfl (s_M_cover_216.go [some (.ref 69), some (.long v1), none, some (.int (v3 + (1 : Int32))), none] [] (aw_s I L D) rfl (z_goto (tgt := 120) d_M_cover_219 rfl (h4 q2 q4)))))))))))
theorem d_M_cover_146 : decode y_M_cover.2.1 146 = .ok (.iload 4, 2) := by decide +kernel
theorem d_M_cover_148 : decode y_M_cover.2.1 148 = .ok (.aload_n 0, 1) := by decide +kernel
theorem s_M_cover_146 : aw_VS y_M_cover 146 [o_ild 4, o_ald 0] 149 := .cons (v_iload (i := 4) d_M_cover_146) (.cons (v_aload_n (i := 0) d_M_cover_148 rfl) .nil)
theorem d_M_cover_149 : decode y_M_cover.2.1 149 = .ok (.invokevirtual 423, 3) := by decide +kernel
theorem b_M_cover_146 {X : aw_X} {d : Nat} {Q : Option Value → aw_H → Prop} {I : Nat → Nat → Int32} {L : Nat → Nat → Int64} {D : Nat → Nat} {v1 : Int64} {v3 : Int32} {v4 : Int32}
    (h1 : aw_m X d y_M_rows [.ref 69] (aw_s I L D) (fun r A => aw_z X (d + 1) y_M_cover Q 152 [some (.ref 69), some (.long v1), none, some (.int v3), some (.int v4)] (r.toList ++ [.int v4]) A)) :
    aw_z X (d + 1) y_M_cover Q 146 [some (.ref 69), some (.long v1), none, some (.int v3), some (.int v4)] [] (aw_s I L D) :=
  (s_M_cover_146.go [some (.ref 69), some (.long v1), none, some (.int v3), some (.int v4)] [.ref 69, .int v4] (aw_s I L D) rfl (z_callV (av := []) (st := [.int v4]) ok_M_rows (Or.inl w_1915) w_1917 w_105 k_M d_M_cover_149 rfl (aw_lt (o := 69) rfl) rfl rfl (Nat.le_of_ble_eq_true rfl) (Nat.le_refl _) (Nat.le_refl _) (h1)))
theorem d_M_cover_152 : decode y_M_cover.2.1 152 = .ok (.if_icmp .ge (64), 3) := by decide +kernel
theorem d_M_cover_155 : decode y_M_cover.2.1 155 = .ok (.aload_n 0, 1) := by decide +kernel
theorem d_M_cover_156 : decode y_M_cover.2.1 156 = .ok (.getfield 94, 3) := by decide +kernel
theorem d_M_cover_159 : decode y_M_cover.2.1 159 = .ok (.iload 4, 2) := by decide +kernel
theorem s_M_cover_155 : aw_VS y_M_cover 155 [o_ald 0, o_getA 9 55, o_ild 4] 161 := .cons (v_aload_n (i := 0) d_M_cover_155 rfl) (.cons (v_getA (k := 55) k_M (by decide) rfl (Or.inl w_1516) d_M_cover_156) (.cons (v_iload (i := 4) d_M_cover_159) .nil))
theorem d_M_cover_161 : decode y_M_cover.2.1 161 = .ok (.iaload, 1) := by decide +kernel
theorem d_M_cover_162 : decode y_M_cover.2.1 162 = .ok (.iconst 4, 1) := by decide +kernel
theorem s_M_cover_162 : aw_VS y_M_cover 162 [o_c (.int (4 : Int32))] 163 := .cons (v_iconst (v := (4 : Int32)) d_M_cover_162 (by decide +kernel)) .nil
theorem d_M_cover_163 : decode y_M_cover.2.1 163 = .ok (.if_icmp .eq (47), 3) := by decide +kernel
theorem d_M_cover_210 : decode y_M_cover.2.1 210 = .ok (.iinc 4 (1), 3) := by decide +kernel
theorem s_M_cover_210 : aw_VS y_M_cover 210 [o_inc 4 (1 : Int32)] 213 := .cons (v_iinc (k0 := (1 : Int32)) d_M_cover_210 (by decide +kernel)) .nil
theorem d_M_cover_213 : decode y_M_cover.2.1 213 = .ok (.goto (-67), 3) := by decide +kernel
theorem d_M_cover_166 : decode y_M_cover.2.1 166 = .ok (.aload_n 0, 1) := by decide +kernel
theorem d_M_cover_167 : decode y_M_cover.2.1 167 = .ok (.getfield 85, 3) := by decide +kernel
theorem d_M_cover_170 : decode y_M_cover.2.1 170 = .ok (.iload_n 3, 1) := by decide +kernel
theorem s_M_cover_166 : aw_VS y_M_cover 166 [o_ald 0, o_getA 9 52, o_ild 3] 171 := .cons (v_aload_n (i := 0) d_M_cover_166 rfl) (.cons (v_getA (k := 52) k_M (by decide) rfl (Or.inl w_1513) d_M_cover_167) (.cons (v_iload_n (i := 3) d_M_cover_170 rfl) .nil))
theorem d_M_cover_171 : decode y_M_cover.2.1 171 = .ok (.laload, 1) := by decide +kernel
theorem d_M_cover_172 : decode y_M_cover.2.1 172 = .ok (.aload_n 0, 1) := by decide +kernel
theorem d_M_cover_173 : decode y_M_cover.2.1 173 = .ok (.getfield 85, 3) := by decide +kernel
theorem d_M_cover_176 : decode y_M_cover.2.1 176 = .ok (.iload 4, 2) := by decide +kernel
theorem s_M_cover_172 : aw_VS y_M_cover 172 [o_ald 0, o_getA 9 52, o_ild 4] 178 := .cons (v_aload_n (i := 0) d_M_cover_172 rfl) (.cons (v_getA (k := 52) k_M (by decide) rfl (Or.inl w_1513) d_M_cover_173) (.cons (v_iload (i := 4) d_M_cover_176) .nil))
theorem d_M_cover_178 : decode y_M_cover.2.1 178 = .ok (.laload, 1) := by decide +kernel
theorem d_M_cover_179 : decode y_M_cover.2.1 179 = .ok (.lor, 1) := by decide +kernel
theorem d_M_cover_180 : decode y_M_cover.2.1 180 = .ok (.lload_n 1, 1) := by decide +kernel
theorem d_M_cover_181 : decode y_M_cover.2.1 181 = .ok (.lcmp, 1) := by decide +kernel
theorem s_M_cover_179 : aw_VS y_M_cover 179 [o_l2 (fun x z => x ||| z), o_lld 1, o_lc] 182 := .cons (v_lor d_M_cover_179) (.cons (v_lload_n (i := 1) d_M_cover_180 rfl) (.cons (v_lcmp d_M_cover_181) .nil))
theorem d_M_cover_182 : decode y_M_cover.2.1 182 = .ok (.ifCond .eq (6), 3) := by decide +kernel
theorem d_M_cover_188 : decode y_M_cover.2.1 188 = .ok (.aload_n 0, 1) := by decide +kernel
theorem d_M_cover_189 : decode y_M_cover.2.1 189 = .ok (.getfield 124, 3) := by decide +kernel
theorem d_M_cover_192 : decode y_M_cover.2.1 192 = .ok (.iconst 0, 1) := by decide +kernel
theorem d_M_cover_193 : decode y_M_cover.2.1 193 = .ok (.iload_n 3, 1) := by decide +kernel
theorem s_M_cover_188 : aw_VS y_M_cover 188 [o_ald 0, o_getA 9 70, o_c (.int (0 : Int32)), o_ild 3] 194 := .cons (v_aload_n (i := 0) d_M_cover_188 rfl) (.cons (v_getA (k := 70) k_M (by decide) rfl (Or.inl w_1531) d_M_cover_189) (.cons (v_iconst (v := (0 : Int32)) d_M_cover_192 (by decide +kernel)) (.cons (v_iload_n (i := 3) d_M_cover_193 rfl) .nil)))
theorem d_M_cover_194 : decode y_M_cover.2.1 194 = .ok (.iastore, 1) := by decide +kernel
theorem d_M_cover_195 : decode y_M_cover.2.1 195 = .ok (.aload_n 0, 1) := by decide +kernel
theorem d_M_cover_196 : decode y_M_cover.2.1 196 = .ok (.getfield 124, 3) := by decide +kernel
theorem d_M_cover_199 : decode y_M_cover.2.1 199 = .ok (.iconst 1, 1) := by decide +kernel
theorem d_M_cover_200 : decode y_M_cover.2.1 200 = .ok (.iload 4, 2) := by decide +kernel
theorem s_M_cover_195 : aw_VS y_M_cover 195 [o_ald 0, o_getA 9 70, o_c (.int (1 : Int32)), o_ild 4] 202 := .cons (v_aload_n (i := 0) d_M_cover_195 rfl) (.cons (v_getA (k := 70) k_M (by decide) rfl (Or.inl w_1531) d_M_cover_196) (.cons (v_iconst (v := (1 : Int32)) d_M_cover_199 (by decide +kernel)) (.cons (v_iload (i := 4) d_M_cover_200) .nil)))
theorem d_M_cover_202 : decode y_M_cover.2.1 202 = .ok (.iastore, 1) := by decide +kernel
theorem d_M_cover_203 : decode y_M_cover.2.1 203 = .ok (.aload_n 0, 1) := by decide +kernel
theorem d_M_cover_204 : decode y_M_cover.2.1 204 = .ok (.iconst 2, 1) := by decide +kernel
theorem d_M_cover_205 : decode y_M_cover.2.1 205 = .ok (.putfield 464, 3) := by decide +kernel
theorem d_M_cover_208 : decode y_M_cover.2.1 208 = .ok (.iconst 2, 1) := by decide +kernel
theorem s_M_cover_203 : aw_VS y_M_cover 203 [o_ald 0, o_c (.int (2 : Int32)), o_putI 9 71, o_c (.int (2 : Int32))] 209 := .cons (v_aload_n (i := 0) d_M_cover_203 rfl) (.cons (v_iconst (v := (2 : Int32)) d_M_cover_204 (by decide +kernel)) (.cons (v_putI (k := 71) k_M (by decide) rfl (Or.inl ⟨rfl, Or.inl w_1532⟩) d_M_cover_205) (.cons (v_iconst (v := (2 : Int32)) d_M_cover_208 (by decide +kernel)) .nil)))
theorem d_M_cover_209 : decode y_M_cover.2.1 209 = .ok (.ireturn, 1) := by decide +kernel
theorem d_M_cover_185 : decode y_M_cover.2.1 185 = .ok (.goto (25), 3) := by decide +kernel
theorem b_M_cover_152 {X : aw_X} {d : Nat} {Q : Option Value → aw_H → Prop} {I : Nat → Nat → Int32} {L : Nat → Nat → Int64} {D : Nat → Nat} {v1 : Int64} {v3 : Int32} {v4 : Int32} {s1 : Int32} {s0 : Int32}
    (h1 : s1 ≤ s0 → aw_z X (d + 1) y_M_cover Q 120 [some (.ref 69), some (.long v1), none, some (.int (v3 + (1 : Int32))), none] [] (aw_s I L D))
    (h2 : ¬ s1 ≤ s0 → vp_in v4 4096)
    (h3 : ¬ s1 ≤ s0 → (I 95 v4.toNatClampNeg) = (4 : Int32) → aw_z X (d + 1) y_M_cover Q 146 [some (.ref 69), some (.long v1), none, some (.int v3), some (.int (v4 + (1 : Int32)))] [] (aw_s I L D))
    (h4 : ¬ s1 ≤ s0 → ¬ (I 95 v4.toNatClampNeg) = (4 : Int32) → vp_in v3 4096)
    (h5 : ¬ s1 ≤ s0 → ¬ (I 95 v4.toNatClampNeg) = (4 : Int32) → vp_in v4 4096)
    (h6 : ¬ s1 ≤ s0 → ¬ (I 95 v4.toNatClampNeg) = (4 : Int32) → (lg_cmp ((L 92 v3.toNatClampNeg) ||| (L 92 v4.toNatClampNeg)) v1) = 0 → Q (some (.int (2 : Int32))) (aw_s (aw_u (aw_u (aw_u I 105 0 v3) 105 1 v4) 69 71 (2 : Int32)) L D))
    (h7 : ¬ s1 ≤ s0 → ¬ (I 95 v4.toNatClampNeg) = (4 : Int32) → ¬ (lg_cmp ((L 92 v3.toNatClampNeg) ||| (L 92 v4.toNatClampNeg)) v1) = 0 → aw_z X (d + 1) y_M_cover Q 146 [some (.ref 69), some (.long v1), none, some (.int v3), some (.int (v4 + (1 : Int32)))] [] (aw_s I L D)) :
    aw_z X (d + 1) y_M_cover Q 152 [some (.ref 69), some (.long v1), none, some (.int v3), some (.int v4)] [.int s1, .int s0] (aw_s I L D) :=
  (z_icmp_ge (tgt := 216) d_M_cover_152 rfl (fun q1 => (s_M_cover_216.go [some (.ref 69), some (.long v1), none, some (.int (v3 + (1 : Int32))), some (.int v4)] [] (aw_s I L D) rfl (z_goto (tgt := 120) d_M_cover_219 rfl (aw_Z.weak (ls' := [some (.ref 69), some (.long v1), none, some (.int (v3 + (1 : Int32))), none]) (h1 q1) (Nat.le_of_ble_eq_true rfl) ⟨Or.inr rfl, ⟨Or.inr rfl, ⟨Or.inl rfl, ⟨Or.inr rfl, ⟨Or.inl rfl, trivial⟩⟩⟩⟩⟩)))) (fun q2 => (s_M_cover_155.go [some (.ref 69), some (.long v1), none, some (.int v3), some (.int v4)] [.int v4, .ref 95] (aw_s I L D) rfl (z_iald (n := 4096) rfl (aw_lt (o := 95) rfl) (h2 q2) d_M_cover_161 (s_M_cover_162.go [some (.ref 69), some (.long v1), none, some (.int v3), some (.int v4)] [.int (4 : Int32), .int (I 95 v4.toNatClampNeg)] (aw_s I L D) rfl (z_icmp_eq (tgt := 210) d_M_cover_163 rfl (fun q3 => (s_M_cover_210.go [some (.ref 69), some (.long v1), none, some (.int v3), some (.int (v4 + (1 : Int32)))] [] (aw_s I L D) rfl (z_goto (tgt := 146) d_M_cover_213 rfl (h3 q2 q3)))) (fun q4 => (s_M_cover_166.go [some (.ref 69), some (.long v1), none, some (.int v3), some (.int v4)] [.int v3, .ref 92] (aw_s I L D) rfl (z_lald (n := 4096) rfl (aw_lt (o := 92) rfl) (h4 q2 q4) d_M_cover_171 (s_M_cover_172.go [some (.ref 69), some (.long v1), none, some (.int v3), some (.int v4)] [.int v4, .ref 92, .long (L 92 v3.toNatClampNeg)] (aw_s I L D) rfl (z_lald (n := 4096) rfl (aw_lt (o := 92) rfl) (h5 q2 q4) d_M_cover_178 (s_M_cover_179.go [some (.ref 69), some (.long v1), none, some (.int v3), some (.int v4)] [.int (lg_cmp ((L 92 v3.toNatClampNeg) ||| (L 92 v4.toNatClampNeg)) v1)] (aw_s I L D) rfl (z_if_eq (tgt := 188) d_M_cover_182 rfl (fun q5 => (s_M_cover_188.go [some (.ref 69), some (.long v1), none, some (.int v3), some (.int v4)] [.int v3, .int (0 : Int32), .ref 105] (aw_s I L D) rfl (z_iast (n := 2) rfl (aw_lt (o := 105) rfl) (aw_lin (by decide +kernel) (by decide +kernel)) d_M_cover_194 (s_M_cover_195.go [some (.ref 69), some (.long v1), none, some (.int v3), some (.int v4)] [.int v4, .int (1 : Int32), .ref 105] (aw_s (aw_u I 105 0 v3) L D) rfl (z_iast (n := 2) rfl (aw_lt (o := 105) rfl) (aw_lin (by decide +kernel) (by decide +kernel)) d_M_cover_202 (s_M_cover_203.go [some (.ref 69), some (.long v1), none, some (.int v3), some (.int v4)] [.int (2 : Int32)] (aw_s (aw_u (aw_u (aw_u I 105 0 v3) 105 1 v4) 69 71 (2 : Int32)) L D) rfl (z_iret d_M_cover_209 rfl rfl (h6 q2 q4 q5)))))))) (fun q6 => (z_goto (tgt := 210) d_M_cover_185 rfl (s_M_cover_210.go [some (.ref 69), some (.long v1), none, some (.int v3), some (.int (v4 + (1 : Int32)))] [] (aw_s I L D) rfl (z_goto (tgt := 146) d_M_cover_213 rfl (h7 q2 q4 q6))))))))))))))))))
/-! M_coverAt -/
theorem d_M_coverAt_0 : decode y_M_coverAt.2.1 0 = .ok (.aload_n 0, 1) := by decide +kernel
theorem d_M_coverAt_1 : decode y_M_coverAt.2.1 1 = .ok (.iconst 0, 1) := by decide +kernel
theorem d_M_coverAt_2 : decode y_M_coverAt.2.1 2 = .ok (.putfield 160, 3) := by decide +kernel
theorem d_M_coverAt_5 : decode y_M_coverAt.2.1 5 = .ok (.iload_n 1, 1) := by decide +kernel
theorem s_M_coverAt_0 : aw_VS y_M_coverAt 0 [o_ald 0, o_c (.int (0 : Int32)), o_putI 9 0, o_ild 1] 6 := .cons (v_aload_n (i := 0) d_M_coverAt_0 rfl) (.cons (v_iconst (v := (0 : Int32)) d_M_coverAt_1 (by decide +kernel)) (.cons (v_putI (k := 0) k_M (by decide) rfl (Or.inl ⟨rfl, Or.inl w_1461⟩) d_M_coverAt_2) (.cons (v_iload_n (i := 1) d_M_coverAt_5 rfl) .nil)))
theorem d_M_coverAt_6 : decode y_M_coverAt.2.1 6 = .ok (.ifCond .lt (20), 3) := by decide +kernel
theorem d_M_coverAt_26 : decode y_M_coverAt.2.1 26 = .ok (.iconst (-1), 1) := by decide +kernel
theorem s_M_coverAt_26 : aw_VS y_M_coverAt 26 [o_c (.int (-1 : Int32))] 27 := .cons (v_iconst (v := (-1 : Int32)) d_M_coverAt_26 (by decide +kernel)) .nil
theorem d_M_coverAt_27 : decode y_M_coverAt.2.1 27 = .ok (.ireturn, 1) := by decide +kernel
theorem d_M_coverAt_9 : decode y_M_coverAt.2.1 9 = .ok (.iload_n 1, 1) := by decide +kernel
theorem d_M_coverAt_10 : decode y_M_coverAt.2.1 10 = .ok (.aload_n 0, 1) := by decide +kernel
theorem d_M_coverAt_11 : decode y_M_coverAt.2.1 11 = .ok (.getfield 464, 3) := by decide +kernel
theorem s_M_coverAt_9 : aw_VS y_M_coverAt 9 [o_ild 1, o_ald 0, o_getI 9 71] 14 := .cons (v_iload_n (i := 1) d_M_coverAt_9 rfl) (.cons (v_aload_n (i := 0) d_M_coverAt_10 rfl) (.cons (v_getI (k := 71) k_M (by decide) (Or.inl rfl) (Or.inl w_1532) d_M_coverAt_11) .nil))
theorem d_M_coverAt_14 : decode y_M_coverAt.2.1 14 = .ok (.if_icmp .ge (12), 3) := by decide +kernel
theorem d_M_coverAt_17 : decode y_M_coverAt.2.1 17 = .ok (.aload_n 0, 1) := by decide +kernel
theorem d_M_coverAt_18 : decode y_M_coverAt.2.1 18 = .ok (.getfield 124, 3) := by decide +kernel
theorem d_M_coverAt_21 : decode y_M_coverAt.2.1 21 = .ok (.iload_n 1, 1) := by decide +kernel
theorem s_M_coverAt_17 : aw_VS y_M_coverAt 17 [o_ald 0, o_getA 9 70, o_ild 1] 22 := .cons (v_aload_n (i := 0) d_M_coverAt_17 rfl) (.cons (v_getA (k := 70) k_M (by decide) rfl (Or.inl w_1531) d_M_coverAt_18) (.cons (v_iload_n (i := 1) d_M_coverAt_21 rfl) .nil))
theorem d_M_coverAt_22 : decode y_M_coverAt.2.1 22 = .ok (.iaload, 1) := by decide +kernel
theorem d_M_coverAt_23 : decode y_M_coverAt.2.1 23 = .ok (.goto (4), 3) := by decide +kernel
theorem b_M_coverAt_0 {X : aw_X} {d : Nat} {Q : Option Value → aw_H → Prop} {I : Nat → Nat → Int32} {L : Nat → Nat → Int64} {D : Nat → Nat} {v1 : Int32}
    (h1 : v1 < 0 → Q (some (.int (-1 : Int32))) (aw_s (aw_u I 69 0 (0 : Int32)) L D))
    (h2 : ¬ v1 < 0 → (I 69 71) ≤ v1 → Q (some (.int (-1 : Int32))) (aw_s (aw_u I 69 0 (0 : Int32)) L D))
    (h3 : ¬ v1 < 0 → ¬ (I 69 71) ≤ v1 → vp_in v1 2)
    (h4 : ¬ v1 < 0 → ¬ (I 69 71) ≤ v1 → Q (some (.int (I 105 v1.toNatClampNeg))) (aw_s (aw_u I 69 0 (0 : Int32)) L D)) :
    aw_z X d y_M_coverAt Q 0 [some (.ref 69), some (.int v1)] [] (aw_s I L D) :=
  (s_M_coverAt_0.go [some (.ref 69), some (.int v1)] [.int v1] (aw_s (aw_u I 69 0 (0 : Int32)) L D) rfl (z_if_lt (tgt := 26) d_M_coverAt_6 rfl (fun q1 => (s_M_coverAt_26.go [some (.ref 69), some (.int v1)] [.int (-1 : Int32)] (aw_s (aw_u I 69 0 (0 : Int32)) L D) rfl (z_iret d_M_coverAt_27 rfl rfl (h1 q1)))) (fun q2 => (s_M_coverAt_9.go [some (.ref 69), some (.int v1)] [.int (I 69 71), .int v1] (aw_s (aw_u I 69 0 (0 : Int32)) L D) rfl (z_icmp_ge (tgt := 26) d_M_coverAt_14 rfl (fun q3 => (s_M_coverAt_26.go [some (.ref 69), some (.int v1)] [.int (-1 : Int32)] (aw_s (aw_u I 69 0 (0 : Int32)) L D) rfl (z_iret d_M_coverAt_27 rfl rfl (h2 q2 q3)))) (fun q4 => (s_M_coverAt_17.go [some (.ref 69), some (.int v1)] [.int v1, .ref 105] (aw_s (aw_u I 69 0 (0 : Int32)) L D) rfl (z_iald (n := 2) rfl (aw_lt (o := 105) rfl) (h3 q2 q4) d_M_coverAt_22 (z_goto (tgt := 27) d_M_coverAt_23 rfl (z_iret d_M_coverAt_27 rfl rfl (h4 q2 q4)))))))))))
/-! M_alike -/
theorem d_M_alike_0 : decode y_M_alike.2.1 0 = .ok (.aload_n 0, 1) := by decide +kernel
theorem d_M_alike_1 : decode y_M_alike.2.1 1 = .ok (.iload_n 2, 1) := by decide +kernel
theorem d_M_alike_2 : decode y_M_alike.2.1 2 = .ok (.iload_n 3, 1) := by decide +kernel
theorem s_M_alike_0 : aw_VS y_M_alike 0 [o_ald 0, o_ild 2, o_ild 3] 3 := .cons (v_aload_n (i := 0) d_M_alike_0 rfl) (.cons (v_iload_n (i := 2) d_M_alike_1 rfl) (.cons (v_iload_n (i := 3) d_M_alike_2 rfl) .nil))
theorem d_M_alike_3 : decode y_M_alike.2.1 3 = .ok (.invokevirtual 411, 3) := by decide +kernel
theorem b_M_alike_0 {X : aw_X} {d : Nat} {Q : Option Value → aw_H → Prop} {I : Nat → Nat → Int32} {L : Nat → Nat → Int64} {D : Nat → Nat} {v1 : Int32} {v2 : Int32} {v3 : Int32}
    (h1 : aw_m X d y_M_areTold [.ref 69, .int v2, .int v3] (aw_s I L D) (fun r A => aw_z X (d + 1) y_M_alike Q 6 [some (.ref 69), some (.int v1), some (.int v2), some (.int v3), none] (r.toList ++ []) A)) :
    aw_z X (d + 1) y_M_alike Q 0 [some (.ref 69), some (.int v1), some (.int v2), some (.int v3), none] [] (aw_s I L D) :=
  (s_M_alike_0.go [some (.ref 69), some (.int v1), some (.int v2), some (.int v3), none] [.int v3, .int v2, .ref 69] (aw_s I L D) rfl (z_callV (av := [.int v2, .int v3]) (st := []) ok_M_areTold (Or.inl w_1908) w_1910 w_104 k_M d_M_alike_3 rfl (aw_lt (o := 69) rfl) rfl rfl (Nat.le_of_ble_eq_true rfl) (Nat.le_refl _) (Nat.le_refl _) (h1)))
theorem d_M_alike_6 : decode y_M_alike.2.1 6 = .ok (.ifCond .eq (10), 3) := by decide +kernel
theorem d_M_alike_16 : decode y_M_alike.2.1 16 = .ok (.bipush (-2), 2) := by decide +kernel
theorem s_M_alike_16 : aw_VS y_M_alike 16 [o_c (.int (-2 : Int32))] 18 := .cons (v_bipush (v := (-2 : Int32)) d_M_alike_16 (by decide +kernel)) .nil
theorem d_M_alike_18 : decode y_M_alike.2.1 18 = .ok (.ireturn, 1) := by decide +kernel
theorem d_M_alike_9 : decode y_M_alike.2.1 9 = .ok (.iload_n 1, 1) := by decide +kernel
theorem s_M_alike_9 : aw_VS y_M_alike 9 [o_ild 1] 10 := .cons (v_iload_n (i := 1) d_M_alike_9 rfl) .nil
theorem d_M_alike_10 : decode y_M_alike.2.1 10 = .ok (.invokestatic 344, 3) := by decide +kernel
theorem b_M_alike_6 {X : aw_X} {d : Nat} {Q : Option Value → aw_H → Prop} {I : Nat → Nat → Int32} {L : Nat → Nat → Int64} {D : Nat → Nat} {v1 : Int32} {v2 : Int32} {v3 : Int32} {s0 : Int32}
    (h1 : s0 = 0 → Q (some (.int (-2 : Int32))) (aw_s I L D))
    (h2 : ¬ s0 = 0 → aw_m X d y_M_isProgram [.int v1] (aw_s I L D) (fun r A => aw_z X (d + 1) y_M_alike Q 13 [some (.ref 69), some (.int v1), some (.int v2), some (.int v3), none] (r.toList ++ []) A)) :
    aw_z X (d + 1) y_M_alike Q 6 [some (.ref 69), some (.int v1), some (.int v2), some (.int v3), none] [.int s0] (aw_s I L D) :=
  (z_if_eq (tgt := 16) d_M_alike_6 rfl (fun q1 => (s_M_alike_16.go [some (.ref 69), some (.int v1), some (.int v2), some (.int v3), none] [.int (-2 : Int32)] (aw_s I L D) rfl (z_iret d_M_alike_18 rfl rfl (h1 q1)))) (fun q2 => (s_M_alike_9.go [some (.ref 69), some (.int v1), some (.int v2), some (.int v3), none] [.int v1] (aw_s I L D) rfl (z_callS (av := [.int v1]) (st := []) ok_M_isProgram (Or.inl w_1745) w_1746 d_M_alike_10 rfl rfl (Nat.le_of_ble_eq_true rfl) (Nat.le_refl _) (Nat.le_refl _) (h2 q2)))))
theorem d_M_alike_13 : decode y_M_alike.2.1 13 = .ok (.ifCond .ne (6), 3) := by decide +kernel
theorem d_M_alike_19 : decode y_M_alike.2.1 19 = .ok (.iconst 0, 1) := by decide +kernel
theorem d_M_alike_20 : decode y_M_alike.2.1 20 = .ok (.istore 4, 2) := by decide +kernel
theorem s_M_alike_19 : aw_VS y_M_alike 19 [o_c (.int (0 : Int32)), o_ist 4] 22 := .cons (v_iconst (v := (0 : Int32)) d_M_alike_19 (by decide +kernel)) (.cons (v_istore d_M_alike_20) .nil)
theorem b_M_alike_13 {X : aw_X} {d : Nat} {Q : Option Value → aw_H → Prop} {I : Nat → Nat → Int32} {L : Nat → Nat → Int64} {D : Nat → Nat} {v1 : Int32} {v2 : Int32} {v3 : Int32} {s0 : Int32}
    (h1 : ¬ s0 = 0 → aw_z X (d + 1) y_M_alike Q 22 [some (.ref 69), some (.int v1), some (.int v2), some (.int v3), some (.int (0 : Int32))] [] (aw_s I L D))
    (h2 : s0 = 0 → Q (some (.int (-2 : Int32))) (aw_s I L D)) :
    aw_z X (d + 1) y_M_alike Q 13 [some (.ref 69), some (.int v1), some (.int v2), some (.int v3), none] [.int s0] (aw_s I L D) :=
  (z_if_ne (tgt := 19) d_M_alike_13 rfl (fun q1 => (s_M_alike_19.go [some (.ref 69), some (.int v1), some (.int v2), some (.int v3), some (.int (0 : Int32))] [] (aw_s I L D) rfl (h1 q1))) (fun q2 => (s_M_alike_16.go [some (.ref 69), some (.int v1), some (.int v2), some (.int v3), none] [.int (-2 : Int32)] (aw_s I L D) rfl (z_iret d_M_alike_18 rfl rfl (h2 q2)))))
theorem d_M_alike_22 : decode y_M_alike.2.1 22 = .ok (.iload 4, 2) := by decide +kernel
theorem d_M_alike_24 : decode y_M_alike.2.1 24 = .ok (.aload_n 0, 1) := by decide +kernel
theorem s_M_alike_22 : aw_VS y_M_alike 22 [o_ild 4, o_ald 0] 25 := .cons (v_iload (i := 4) d_M_alike_22) (.cons (v_aload_n (i := 0) d_M_alike_24 rfl) .nil)
theorem d_M_alike_25 : decode y_M_alike.2.1 25 = .ok (.invokevirtual 423, 3) := by decide +kernel
theorem b_M_alike_22 {X : aw_X} {d : Nat} {Q : Option Value → aw_H → Prop} {I : Nat → Nat → Int32} {L : Nat → Nat → Int64} {D : Nat → Nat} {v1 : Int32} {v2 : Int32} {v3 : Int32} {v4 : Int32}
    (h1 : aw_m X d y_M_rows [.ref 69] (aw_s I L D) (fun r A => aw_z X (d + 1) y_M_alike Q 28 [some (.ref 69), some (.int v1), some (.int v2), some (.int v3), some (.int v4)] (r.toList ++ [.int v4]) A)) :
    aw_z X (d + 1) y_M_alike Q 22 [some (.ref 69), some (.int v1), some (.int v2), some (.int v3), some (.int v4)] [] (aw_s I L D) :=
  (s_M_alike_22.go [some (.ref 69), some (.int v1), some (.int v2), some (.int v3), some (.int v4)] [.ref 69, .int v4] (aw_s I L D) rfl (z_callV (av := []) (st := [.int v4]) ok_M_rows (Or.inl w_1915) w_1917 w_105 k_M d_M_alike_25 rfl (aw_lt (o := 69) rfl) rfl rfl (Nat.le_of_ble_eq_true rfl) (Nat.le_refl _) (Nat.le_refl _) (h1)))
theorem d_M_alike_28 : decode y_M_alike.2.1 28 = .ok (.if_icmp .ge (31), 3) := by decide +kernel
theorem d_M_alike_59 : decode y_M_alike.2.1 59 = .ok (.iconst (-1), 1) := by decide +kernel
theorem s_M_alike_59 : aw_VS y_M_alike 59 [o_c (.int (-1 : Int32))] 60 := .cons (v_iconst (v := (-1 : Int32)) d_M_alike_59 (by decide +kernel)) .nil
theorem d_M_alike_60 : decode y_M_alike.2.1 60 = .ok (.ireturn, 1) := by decide +kernel
theorem d_M_alike_31 : decode y_M_alike.2.1 31 = .ok (.aload_n 0, 1) := by decide +kernel
theorem d_M_alike_32 : decode y_M_alike.2.1 32 = .ok (.iload_n 1, 1) := by decide +kernel
theorem d_M_alike_33 : decode y_M_alike.2.1 33 = .ok (.iload 4, 2) := by decide +kernel
theorem d_M_alike_35 : decode y_M_alike.2.1 35 = .ok (.iload_n 3, 1) := by decide +kernel
theorem s_M_alike_31 : aw_VS y_M_alike 31 [o_ald 0, o_ild 1, o_ild 4, o_ild 3] 36 := .cons (v_aload_n (i := 0) d_M_alike_31 rfl) (.cons (v_iload_n (i := 1) d_M_alike_32 rfl) (.cons (v_iload (i := 4) d_M_alike_33) (.cons (v_iload_n (i := 3) d_M_alike_35 rfl) .nil)))
theorem d_M_alike_36 : decode y_M_alike.2.1 36 = .ok (.invokevirtual 467, 3) := by decide +kernel
theorem b_M_alike_28 {X : aw_X} {d : Nat} {Q : Option Value → aw_H → Prop} {I : Nat → Nat → Int32} {L : Nat → Nat → Int64} {D : Nat → Nat} {v1 : Int32} {v2 : Int32} {v3 : Int32} {v4 : Int32} {s1 : Int32} {s0 : Int32}
    (h1 : s1 ≤ s0 → Q (some (.int (-1 : Int32))) (aw_s I L D))
    (h2 : ¬ s1 ≤ s0 → aw_m X d y_M_outcome [.ref 69, .int v1, .int v4, .int v3] (aw_s I L D) (fun r A => aw_z X (d + 1) y_M_alike Q 39 [some (.ref 69), some (.int v1), some (.int v2), some (.int v3), some (.int v4)] (r.toList ++ []) A)) :
    aw_z X (d + 1) y_M_alike Q 28 [some (.ref 69), some (.int v1), some (.int v2), some (.int v3), some (.int v4)] [.int s1, .int s0] (aw_s I L D) :=
  (z_icmp_ge (tgt := 59) d_M_alike_28 rfl (fun q1 => (s_M_alike_59.go [some (.ref 69), some (.int v1), some (.int v2), some (.int v3), some (.int v4)] [.int (-1 : Int32)] (aw_s I L D) rfl (z_iret d_M_alike_60 rfl rfl (h1 q1)))) (fun q2 => (s_M_alike_31.go [some (.ref 69), some (.int v1), some (.int v2), some (.int v3), some (.int v4)] [.int v3, .int v4, .int v1, .ref 69] (aw_s I L D) rfl (z_callV (av := [.int v1, .int v4, .int v3]) (st := []) ok_M_outcome (Or.inl w_2035) w_2037 w_123 k_M d_M_alike_36 rfl (aw_lt (o := 69) rfl) rfl rfl (Nat.le_of_ble_eq_true rfl) (Nat.le_refl _) (Nat.le_refl _) (h2 q2)))))
theorem d_M_alike_39 : decode y_M_alike.2.1 39 = .ok (.aload_n 0, 1) := by decide +kernel
theorem d_M_alike_40 : decode y_M_alike.2.1 40 = .ok (.iload_n 2, 1) := by decide +kernel
theorem d_M_alike_41 : decode y_M_alike.2.1 41 = .ok (.iload 4, 2) := by decide +kernel
theorem d_M_alike_43 : decode y_M_alike.2.1 43 = .ok (.iload_n 3, 1) := by decide +kernel
theorem s_M_alike_39 : aw_VS y_M_alike 39 [o_ald 0, o_ild 2, o_ild 4, o_ild 3] 44 := .cons (v_aload_n (i := 0) d_M_alike_39 rfl) (.cons (v_iload_n (i := 2) d_M_alike_40 rfl) (.cons (v_iload (i := 4) d_M_alike_41) (.cons (v_iload_n (i := 3) d_M_alike_43 rfl) .nil)))
theorem d_M_alike_44 : decode y_M_alike.2.1 44 = .ok (.invokevirtual 467, 3) := by decide +kernel
theorem b_M_alike_39 {X : aw_X} {d : Nat} {Q : Option Value → aw_H → Prop} {I : Nat → Nat → Int32} {L : Nat → Nat → Int64} {D : Nat → Nat} {v1 : Int32} {v2 : Int32} {v3 : Int32} {v4 : Int32} {s0 : Int32}
    (h1 : aw_m X d y_M_outcome [.ref 69, .int v2, .int v4, .int v3] (aw_s I L D) (fun r A => aw_z X (d + 1) y_M_alike Q 47 [some (.ref 69), some (.int v1), some (.int v2), some (.int v3), some (.int v4)] (r.toList ++ [.int s0]) A)) :
    aw_z X (d + 1) y_M_alike Q 39 [some (.ref 69), some (.int v1), some (.int v2), some (.int v3), some (.int v4)] [.int s0] (aw_s I L D) :=
  (s_M_alike_39.go [some (.ref 69), some (.int v1), some (.int v2), some (.int v3), some (.int v4)] [.int v3, .int v4, .int v2, .ref 69, .int s0] (aw_s I L D) rfl (z_callV (av := [.int v2, .int v4, .int v3]) (st := [.int s0]) ok_M_outcome (Or.inl w_2035) w_2037 w_123 k_M d_M_alike_44 rfl (aw_lt (o := 69) rfl) rfl rfl (Nat.le_of_ble_eq_true rfl) (Nat.le_refl _) (Nat.le_refl _) (h1)))
theorem d_M_alike_47 : decode y_M_alike.2.1 47 = .ok (.if_icmp .eq (6), 3) := by decide +kernel
theorem d_M_alike_53 : decode y_M_alike.2.1 53 = .ok (.iinc 4 (1), 3) := by decide +kernel
theorem s_M_alike_53 : aw_VS y_M_alike 53 [o_inc 4 (1 : Int32)] 56 := .cons (v_iinc (k0 := (1 : Int32)) d_M_alike_53 (by decide +kernel)) .nil
theorem d_M_alike_56 : decode y_M_alike.2.1 56 = .ok (.goto (-34), 3) := by decide +kernel
theorem d_M_alike_50 : decode y_M_alike.2.1 50 = .ok (.iload 4, 2) := by decide +kernel
theorem s_M_alike_50 : aw_VS y_M_alike 50 [o_ild 4] 52 := .cons (v_iload (i := 4) d_M_alike_50) .nil
theorem d_M_alike_52 : decode y_M_alike.2.1 52 = .ok (.ireturn, 1) := by decide +kernel
theorem b_M_alike_47 {X : aw_X} {d : Nat} {Q : Option Value → aw_H → Prop} {I : Nat → Nat → Int32} {L : Nat → Nat → Int64} {D : Nat → Nat} {v1 : Int32} {v2 : Int32} {v3 : Int32} {v4 : Int32} {s1 : Int32} {s0 : Int32}
    (h1 : s0 = s1 → aw_z X (d + 1) y_M_alike Q 22 [some (.ref 69), some (.int v1), some (.int v2), some (.int v3), some (.int (v4 + (1 : Int32)))] [] (aw_s I L D))
    (h2 : ¬ s0 = s1 → Q (some (.int v4)) (aw_s I L D)) :
    aw_z X (d + 1) y_M_alike Q 47 [some (.ref 69), some (.int v1), some (.int v2), some (.int v3), some (.int v4)] [.int s1, .int s0] (aw_s I L D) :=
  (z_icmp_eq (tgt := 53) d_M_alike_47 rfl (fun q1 => (s_M_alike_53.go [some (.ref 69), some (.int v1), some (.int v2), some (.int v3), some (.int (v4 + (1 : Int32)))] [] (aw_s I L D) rfl (z_goto (tgt := 22) d_M_alike_56 rfl (h1 q1)))) (fun q2 => (s_M_alike_50.go [some (.ref 69), some (.int v1), some (.int v2), some (.int v3), some (.int v4)] [.int v4] (aw_s I L D) rfl (z_iret d_M_alike_52 rfl rfl (h2 q2)))))
/-! M_outcome -/
theorem d_M_outcome_0 : decode y_M_outcome.2.1 0 = .ok (.aload_n 0, 1) := by decide +kernel
theorem d_M_outcome_1 : decode y_M_outcome.2.1 1 = .ok (.iload_n 1, 1) := by decide +kernel
theorem d_M_outcome_2 : decode y_M_outcome.2.1 2 = .ok (.iload_n 2, 1) := by decide +kernel
theorem d_M_outcome_3 : decode y_M_outcome.2.1 3 = .ok (.iload_n 3, 1) := by decide +kernel
theorem d_M_outcome_4 : decode y_M_outcome.2.1 4 = .ok (.iconst (-1), 1) := by decide +kernel
theorem s_M_outcome_0 : aw_VS y_M_outcome 0 [o_ald 0, o_ild 1, o_ild 2, o_ild 3, o_c (.int (-1 : Int32))] 5 := .cons (v_aload_n (i := 0) d_M_outcome_0 rfl) (.cons (v_iload_n (i := 1) d_M_outcome_1 rfl) (.cons (v_iload_n (i := 2) d_M_outcome_2 rfl) (.cons (v_iload_n (i := 3) d_M_outcome_3 rfl) (.cons (v_iconst (v := (-1 : Int32)) d_M_outcome_4 (by decide +kernel)) .nil))))
theorem d_M_outcome_5 : decode y_M_outcome.2.1 5 = .ok (.invokevirtual 434, 3) := by decide +kernel
theorem b_M_outcome_0 {X : aw_X} {d : Nat} {Q : Option Value → aw_H → Prop} {I : Nat → Nat → Int32} {L : Nat → Nat → Int64} {D : Nat → Nat} {v1 : Int32} {v2 : Int32} {v3 : Int32}
    (h1 : aw_m X d y_M_runs [.ref 69, .int v1, .int v2, .int v3, .int (-1 : Int32)] (aw_s I L D) (fun r A => aw_z X (d + 1) y_M_outcome Q 8 [some (.ref 69), none, none, none, none] (r.toList ++ []) A)) :
    aw_z X (d + 1) y_M_outcome Q 0 [some (.ref 69), some (.int v1), some (.int v2), some (.int v3), none] [] (aw_s I L D) :=
  (s_M_outcome_0.go [some (.ref 69), some (.int v1), some (.int v2), some (.int v3), none] [.int (-1 : Int32), .int v3, .int v2, .int v1, .ref 69] (aw_s I L D) rfl (z_callV (av := [.int v1, .int v2, .int v3, .int (-1 : Int32)]) (st := []) ok_M_runs (Or.inl w_1923) w_1925 w_107 k_M d_M_outcome_5 rfl (aw_lt (o := 69) rfl) rfl rfl (Nat.le_of_ble_eq_true rfl) (Nat.le_refl _) (Nat.le_refl _) (aw_C.mono (h1) (fun _ _ zz => aw_Z.weak (ls' := [some (.ref 69), none, none, none, none]) zz (Nat.le_of_ble_eq_true rfl) ⟨Or.inr rfl, ⟨Or.inl rfl, ⟨Or.inl rfl, ⟨Or.inl rfl, ⟨Or.inl rfl, trivial⟩⟩⟩⟩⟩))))
theorem d_M_outcome_8 : decode y_M_outcome.2.1 8 = .ok (.istore 4, 2) := by decide +kernel
theorem d_M_outcome_10 : decode y_M_outcome.2.1 10 = .ok (.iload 4, 2) := by decide +kernel
theorem s_M_outcome_8 : aw_VS y_M_outcome 8 [o_ist 4, o_ild 4] 12 := .cons (v_istore d_M_outcome_8) (.cons (v_iload (i := 4) d_M_outcome_10) .nil)
theorem d_M_outcome_12 : decode y_M_outcome.2.1 12 = .ok (.ifCond .ne (16), 3) := by decide +kernel
theorem d_M_outcome_28 : decode y_M_outcome.2.1 28 = .ok (.iload 4, 2) := by decide +kernel
theorem s_M_outcome_28 : aw_VS y_M_outcome 28 [o_ild 4] 30 := .cons (v_iload (i := 4) d_M_outcome_28) .nil
theorem d_M_outcome_30 : decode y_M_outcome.2.1 30 = .ok (.ireturn, 1) := by decide +kernel
theorem d_M_outcome_15 : decode y_M_outcome.2.1 15 = .ok (.bipush 100, 2) := by decide +kernel
theorem d_M_outcome_17 : decode y_M_outcome.2.1 17 = .ok (.aload_n 0, 1) := by decide +kernel
theorem d_M_outcome_18 : decode y_M_outcome.2.1 18 = .ok (.getfield 60, 3) := by decide +kernel
theorem d_M_outcome_21 : decode y_M_outcome.2.1 21 = .ok (.bipush 7, 2) := by decide +kernel
theorem s_M_outcome_15 : aw_VS y_M_outcome 15 [o_c (.int (100 : Int32)), o_ald 0, o_getA 9 37, o_c (.int (7 : Int32))] 23 := .cons (v_bipush (v := (100 : Int32)) d_M_outcome_15 (by decide +kernel)) (.cons (v_aload_n (i := 0) d_M_outcome_17 rfl) (.cons (v_getA (k := 37) k_M (by decide) rfl (Or.inl w_1498) d_M_outcome_18) (.cons (v_bipush (v := (7 : Int32)) d_M_outcome_21 (by decide +kernel)) .nil)))
theorem d_M_outcome_23 : decode y_M_outcome.2.1 23 = .ok (.iaload, 1) := by decide +kernel
theorem d_M_outcome_24 : decode y_M_outcome.2.1 24 = .ok (.iadd, 1) := by decide +kernel
theorem s_M_outcome_24 : aw_VS y_M_outcome 24 [o_i2 (fun x z => x + z)] 25 := .cons (v_iadd d_M_outcome_24) .nil
theorem d_M_outcome_25 : decode y_M_outcome.2.1 25 = .ok (.goto (5), 3) := by decide +kernel
theorem b_M_outcome_8 {X : aw_X} {d : Nat} {Q : Option Value → aw_H → Prop} {I : Nat → Nat → Int32} {L : Nat → Nat → Int64} {D : Nat → Nat} {s0 : Int32}
    (h1 : ¬ s0 = 0 → Q (some (.int s0)) (aw_s I L D))
    (h2 : s0 = 0 → Q (some (.int ((100 : Int32) + (I 84 7)))) (aw_s I L D)) :
    aw_z X (d + 1) y_M_outcome Q 8 [some (.ref 69), none, none, none, none] [.int s0] (aw_s I L D) :=
  (s_M_outcome_8.go [some (.ref 69), none, none, none, some (.int s0)] [.int s0] (aw_s I L D) rfl (z_if_ne (tgt := 28) d_M_outcome_12 rfl (fun q1 => (s_M_outcome_28.go [some (.ref 69), none, none, none, some (.int s0)] [.int s0] (aw_s I L D) rfl (z_iret d_M_outcome_30 rfl rfl (h1 q1)))) (fun q2 => (s_M_outcome_15.go [some (.ref 69), none, none, none, some (.int s0)] [.int (7 : Int32), .ref 84, .int (100 : Int32)] (aw_s I L D) rfl (z_iald (n := 8) rfl (aw_lt (o := 84) rfl) (aw_lin (by decide +kernel) (by decide +kernel)) d_M_outcome_23 (s_M_outcome_24.go [some (.ref 69), none, none, none, some (.int s0)] [.int ((100 : Int32) + (I 84 7))] (aw_s I L D) rfl (z_goto (tgt := 30) d_M_outcome_25 rfl (z_iret d_M_outcome_30 rfl rfl (h2 q2)))))))))
/-! M_reach -/
theorem d_M_reach_0 : decode y_M_reach.2.1 0 = .ok (.aload_n 0, 1) := by decide +kernel
theorem d_M_reach_1 : decode y_M_reach.2.1 1 = .ok (.iload_n 1, 1) := by decide +kernel
theorem d_M_reach_2 : decode y_M_reach.2.1 2 = .ok (.iload_n 3, 1) := by decide +kernel
theorem s_M_reach_0 : aw_VS y_M_reach 0 [o_ald 0, o_ild 1, o_ild 3] 3 := .cons (v_aload_n (i := 0) d_M_reach_0 rfl) (.cons (v_iload_n (i := 1) d_M_reach_1 rfl) (.cons (v_iload_n (i := 3) d_M_reach_2 rfl) .nil))
theorem d_M_reach_3 : decode y_M_reach.2.1 3 = .ok (.invokevirtual 411, 3) := by decide +kernel
theorem b_M_reach_0 {X : aw_X} {d : Nat} {Q : Option Value → aw_H → Prop} {I : Nat → Nat → Int32} {L : Nat → Nat → Int64} {D : Nat → Nat} {v1 : Int32} {v2 : Int32} {v3 : Int32}
    (h1 : aw_m X d y_M_areTold [.ref 69, .int v1, .int v3] (aw_s I L D) (fun r A => aw_z X (d + 1) y_M_reach Q 6 [some (.ref 69), some (.int v1), some (.int v2), some (.int v3), none] (r.toList ++ []) A)) :
    aw_z X (d + 1) y_M_reach Q 0 [some (.ref 69), some (.int v1), some (.int v2), some (.int v3), none] [] (aw_s I L D) :=
  (s_M_reach_0.go [some (.ref 69), some (.int v1), some (.int v2), some (.int v3), none] [.int v3, .int v1, .ref 69] (aw_s I L D) rfl (z_callV (av := [.int v1, .int v3]) (st := []) ok_M_areTold (Or.inl w_1908) w_1910 w_104 k_M d_M_reach_3 rfl (aw_lt (o := 69) rfl) rfl rfl (Nat.le_of_ble_eq_true rfl) (Nat.le_refl _) (Nat.le_refl _) (h1)))
theorem d_M_reach_6 : decode y_M_reach.2.1 6 = .ok (.ifCond .eq (15), 3) := by decide +kernel
theorem d_M_reach_21 : decode y_M_reach.2.1 21 = .ok (.bipush (-2), 2) := by decide +kernel
theorem s_M_reach_21 : aw_VS y_M_reach 21 [o_c (.int (-2 : Int32))] 23 := .cons (v_bipush (v := (-2 : Int32)) d_M_reach_21 (by decide +kernel)) .nil
theorem d_M_reach_23 : decode y_M_reach.2.1 23 = .ok (.ireturn, 1) := by decide +kernel
theorem d_M_reach_9 : decode y_M_reach.2.1 9 = .ok (.iload_n 2, 1) := by decide +kernel
theorem d_M_reach_10 : decode y_M_reach.2.1 10 = .ok (.iconst 0, 1) := by decide +kernel
theorem d_M_reach_11 : decode y_M_reach.2.1 11 = .ok (.aload_n 0, 1) := by decide +kernel
theorem s_M_reach_9 : aw_VS y_M_reach 9 [o_ild 2, o_c (.int (0 : Int32)), o_ald 0] 12 := .cons (v_iload_n (i := 2) d_M_reach_9 rfl) (.cons (v_iconst (v := (0 : Int32)) d_M_reach_10 (by decide +kernel)) (.cons (v_aload_n (i := 0) d_M_reach_11 rfl) .nil))
theorem d_M_reach_12 : decode y_M_reach.2.1 12 = .ok (.invokevirtual 366, 3) := by decide +kernel
theorem b_M_reach_6 {X : aw_X} {d : Nat} {Q : Option Value → aw_H → Prop} {I : Nat → Nat → Int32} {L : Nat → Nat → Int64} {D : Nat → Nat} {v1 : Int32} {v2 : Int32} {v3 : Int32} {s0 : Int32}
    (h1 : s0 = 0 → Q (some (.int (-2 : Int32))) (aw_s I L D))
    (h2 : ¬ s0 = 0 → aw_m X d y_M_mask [.ref 69] (aw_s I L D) (fun r A => aw_z X (d + 1) y_M_reach Q 15 [some (.ref 69), some (.int v1), some (.int v2), some (.int v3), none] (r.toList ++ [.int (0 : Int32), .int v2]) A)) :
    aw_z X (d + 1) y_M_reach Q 6 [some (.ref 69), some (.int v1), some (.int v2), some (.int v3), none] [.int s0] (aw_s I L D) :=
  (z_if_eq (tgt := 21) d_M_reach_6 rfl (fun q1 => (s_M_reach_21.go [some (.ref 69), some (.int v1), some (.int v2), some (.int v3), none] [.int (-2 : Int32)] (aw_s I L D) rfl (z_iret d_M_reach_23 rfl rfl (h1 q1)))) (fun q2 => (s_M_reach_9.go [some (.ref 69), some (.int v1), some (.int v2), some (.int v3), none] [.ref 69, .int (0 : Int32), .int v2] (aw_s I L D) rfl (z_callV (av := []) (st := [.int (0 : Int32), .int v2]) ok_M_mask (Or.inl w_1931) w_1933 w_109 k_M d_M_reach_12 rfl (aw_lt (o := 69) rfl) rfl rfl (Nat.le_of_ble_eq_true rfl) (Nat.le_refl _) (Nat.le_refl _) (h2 q2)))))
theorem d_M_reach_15 : decode y_M_reach.2.1 15 = .ok (.invokestatic 234, 3) := by decide +kernel
theorem b_M_reach_15 {X : aw_X} {d : Nat} {Q : Option Value → aw_H → Prop} {I : Nat → Nat → Int32} {L : Nat → Nat → Int64} {D : Nat → Nat} {v1 : Int32} {v2 : Int32} {v3 : Int32} {s2 : Int32} {s1 : Int32} {s0 : Int32}
    (h1 : aw_m X d y_M_isIn [.int s0, .int s1, .int s2] (aw_s I L D) (fun r A => aw_z X (d + 1) y_M_reach Q 18 [some (.ref 69), some (.int v1), some (.int v2), some (.int v3), none] (r.toList ++ []) A)) :
    aw_z X (d + 1) y_M_reach Q 15 [some (.ref 69), some (.int v1), some (.int v2), some (.int v3), none] [.int s2, .int s1, .int s0] (aw_s I L D) :=
  (z_callS (av := [.int s0, .int s1, .int s2]) (st := []) ok_M_isIn (Or.inl w_1873) w_1874 d_M_reach_15 rfl rfl (Nat.le_of_ble_eq_true rfl) (Nat.le_refl _) (Nat.le_refl _) (h1))
theorem d_M_reach_18 : decode y_M_reach.2.1 18 = .ok (.ifCond .ne (6), 3) := by decide +kernel
theorem d_M_reach_24 : decode y_M_reach.2.1 24 = .ok (.iconst 0, 1) := by decide +kernel
theorem d_M_reach_25 : decode y_M_reach.2.1 25 = .ok (.istore 4, 2) := by decide +kernel
theorem s_M_reach_24 : aw_VS y_M_reach 24 [o_c (.int (0 : Int32)), o_ist 4] 27 := .cons (v_iconst (v := (0 : Int32)) d_M_reach_24 (by decide +kernel)) (.cons (v_istore d_M_reach_25) .nil)
theorem b_M_reach_18 {X : aw_X} {d : Nat} {Q : Option Value → aw_H → Prop} {I : Nat → Nat → Int32} {L : Nat → Nat → Int64} {D : Nat → Nat} {v1 : Int32} {v2 : Int32} {v3 : Int32} {s0 : Int32}
    (h1 : ¬ s0 = 0 → aw_z X (d + 1) y_M_reach Q 27 [some (.ref 69), some (.int v1), some (.int v2), some (.int v3), some (.int (0 : Int32))] [] (aw_s I L D))
    (h2 : s0 = 0 → Q (some (.int (-2 : Int32))) (aw_s I L D)) :
    aw_z X (d + 1) y_M_reach Q 18 [some (.ref 69), some (.int v1), some (.int v2), some (.int v3), none] [.int s0] (aw_s I L D) :=
  (z_if_ne (tgt := 24) d_M_reach_18 rfl (fun q1 => (s_M_reach_24.go [some (.ref 69), some (.int v1), some (.int v2), some (.int v3), some (.int (0 : Int32))] [] (aw_s I L D) rfl (h1 q1))) (fun q2 => (s_M_reach_21.go [some (.ref 69), some (.int v1), some (.int v2), some (.int v3), none] [.int (-2 : Int32)] (aw_s I L D) rfl (z_iret d_M_reach_23 rfl rfl (h2 q2)))))
theorem d_M_reach_27 : decode y_M_reach.2.1 27 = .ok (.iload 4, 2) := by decide +kernel
theorem d_M_reach_29 : decode y_M_reach.2.1 29 = .ok (.aload_n 0, 1) := by decide +kernel
theorem s_M_reach_27 : aw_VS y_M_reach 27 [o_ild 4, o_ald 0] 30 := .cons (v_iload (i := 4) d_M_reach_27) (.cons (v_aload_n (i := 0) d_M_reach_29 rfl) .nil)
theorem d_M_reach_30 : decode y_M_reach.2.1 30 = .ok (.invokevirtual 423, 3) := by decide +kernel
theorem b_M_reach_27 {X : aw_X} {d : Nat} {Q : Option Value → aw_H → Prop} {I : Nat → Nat → Int32} {L : Nat → Nat → Int64} {D : Nat → Nat} {v1 : Int32} {v2 : Int32} {v3 : Int32} {v4 : Int32}
    (h1 : aw_m X d y_M_rows [.ref 69] (aw_s I L D) (fun r A => aw_z X (d + 1) y_M_reach Q 33 [some (.ref 69), some (.int v1), some (.int v2), some (.int v3), some (.int v4)] (r.toList ++ [.int v4]) A)) :
    aw_z X (d + 1) y_M_reach Q 27 [some (.ref 69), some (.int v1), some (.int v2), some (.int v3), some (.int v4)] [] (aw_s I L D) :=
  (s_M_reach_27.go [some (.ref 69), some (.int v1), some (.int v2), some (.int v3), some (.int v4)] [.ref 69, .int v4] (aw_s I L D) rfl (z_callV (av := []) (st := [.int v4]) ok_M_rows (Or.inl w_1915) w_1917 w_105 k_M d_M_reach_30 rfl (aw_lt (o := 69) rfl) rfl rfl (Nat.le_of_ble_eq_true rfl) (Nat.le_refl _) (Nat.le_refl _) (h1)))
theorem d_M_reach_33 : decode y_M_reach.2.1 33 = .ok (.if_icmp .ge (27), 3) := by decide +kernel
theorem d_M_reach_60 : decode y_M_reach.2.1 60 = .ok (.iconst (-1), 1) := by decide +kernel
theorem s_M_reach_60 : aw_VS y_M_reach 60 [o_c (.int (-1 : Int32))] 61 := .cons (v_iconst (v := (-1 : Int32)) d_M_reach_60 (by decide +kernel)) .nil
theorem d_M_reach_61 : decode y_M_reach.2.1 61 = .ok (.ireturn, 1) := by decide +kernel
theorem d_M_reach_36 : decode y_M_reach.2.1 36 = .ok (.aload_n 0, 1) := by decide +kernel
theorem d_M_reach_37 : decode y_M_reach.2.1 37 = .ok (.iload_n 1, 1) := by decide +kernel
theorem d_M_reach_38 : decode y_M_reach.2.1 38 = .ok (.iload 4, 2) := by decide +kernel
theorem d_M_reach_40 : decode y_M_reach.2.1 40 = .ok (.iload_n 3, 1) := by decide +kernel
theorem s_M_reach_36 : aw_VS y_M_reach 36 [o_ald 0, o_ild 1, o_ild 4, o_ild 3] 41 := .cons (v_aload_n (i := 0) d_M_reach_36 rfl) (.cons (v_iload_n (i := 1) d_M_reach_37 rfl) (.cons (v_iload (i := 4) d_M_reach_38) (.cons (v_iload_n (i := 3) d_M_reach_40 rfl) .nil)))
theorem d_M_reach_41 : decode y_M_reach.2.1 41 = .ok (.invokevirtual 467, 3) := by decide +kernel
theorem b_M_reach_33 {X : aw_X} {d : Nat} {Q : Option Value → aw_H → Prop} {I : Nat → Nat → Int32} {L : Nat → Nat → Int64} {D : Nat → Nat} {v1 : Int32} {v2 : Int32} {v3 : Int32} {v4 : Int32} {s1 : Int32} {s0 : Int32}
    (h1 : s1 ≤ s0 → Q (some (.int (-1 : Int32))) (aw_s I L D))
    (h2 : ¬ s1 ≤ s0 → aw_m X d y_M_outcome [.ref 69, .int v1, .int v4, .int v3] (aw_s I L D) (fun r A => aw_z X (d + 1) y_M_reach Q 44 [some (.ref 69), some (.int v1), some (.int v2), some (.int v3), some (.int v4)] (r.toList ++ []) A)) :
    aw_z X (d + 1) y_M_reach Q 33 [some (.ref 69), some (.int v1), some (.int v2), some (.int v3), some (.int v4)] [.int s1, .int s0] (aw_s I L D) :=
  (z_icmp_ge (tgt := 60) d_M_reach_33 rfl (fun q1 => (s_M_reach_60.go [some (.ref 69), some (.int v1), some (.int v2), some (.int v3), some (.int v4)] [.int (-1 : Int32)] (aw_s I L D) rfl (z_iret d_M_reach_61 rfl rfl (h1 q1)))) (fun q2 => (s_M_reach_36.go [some (.ref 69), some (.int v1), some (.int v2), some (.int v3), some (.int v4)] [.int v3, .int v4, .int v1, .ref 69] (aw_s I L D) rfl (z_callV (av := [.int v1, .int v4, .int v3]) (st := []) ok_M_outcome (Or.inl w_2035) w_2037 w_123 k_M d_M_reach_41 rfl (aw_lt (o := 69) rfl) rfl rfl (Nat.le_of_ble_eq_true rfl) (Nat.le_refl _) (Nat.le_refl _) (h2 q2)))))
theorem d_M_reach_44 : decode y_M_reach.2.1 44 = .ok (.bipush 100, 2) := by decide +kernel
theorem d_M_reach_46 : decode y_M_reach.2.1 46 = .ok (.iload_n 2, 1) := by decide +kernel
theorem d_M_reach_47 : decode y_M_reach.2.1 47 = .ok (.iadd, 1) := by decide +kernel
theorem s_M_reach_44 : aw_VS y_M_reach 44 [o_c (.int (100 : Int32)), o_ild 2, o_i2 (fun x z => x + z)] 48 := .cons (v_bipush (v := (100 : Int32)) d_M_reach_44 (by decide +kernel)) (.cons (v_iload_n (i := 2) d_M_reach_46 rfl) (.cons (v_iadd d_M_reach_47) .nil))
theorem d_M_reach_48 : decode y_M_reach.2.1 48 = .ok (.if_icmp .ne (6), 3) := by decide +kernel
theorem d_M_reach_54 : decode y_M_reach.2.1 54 = .ok (.iinc 4 (1), 3) := by decide +kernel
theorem s_M_reach_54 : aw_VS y_M_reach 54 [o_inc 4 (1 : Int32)] 57 := .cons (v_iinc (k0 := (1 : Int32)) d_M_reach_54 (by decide +kernel)) .nil
theorem d_M_reach_57 : decode y_M_reach.2.1 57 = .ok (.goto (-30), 3) := by decide +kernel
theorem d_M_reach_51 : decode y_M_reach.2.1 51 = .ok (.iload 4, 2) := by decide +kernel
theorem s_M_reach_51 : aw_VS y_M_reach 51 [o_ild 4] 53 := .cons (v_iload (i := 4) d_M_reach_51) .nil
theorem d_M_reach_53 : decode y_M_reach.2.1 53 = .ok (.ireturn, 1) := by decide +kernel
theorem b_M_reach_44 {X : aw_X} {d : Nat} {Q : Option Value → aw_H → Prop} {I : Nat → Nat → Int32} {L : Nat → Nat → Int64} {D : Nat → Nat} {v1 : Int32} {v2 : Int32} {v3 : Int32} {v4 : Int32} {s0 : Int32}
    (h1 : ¬ s0 = ((100 : Int32) + v2) → aw_z X (d + 1) y_M_reach Q 27 [some (.ref 69), some (.int v1), some (.int v2), some (.int v3), some (.int (v4 + (1 : Int32)))] [] (aw_s I L D))
    (h2 : s0 = ((100 : Int32) + v2) → Q (some (.int v4)) (aw_s I L D)) :
    aw_z X (d + 1) y_M_reach Q 44 [some (.ref 69), some (.int v1), some (.int v2), some (.int v3), some (.int v4)] [.int s0] (aw_s I L D) :=
  (s_M_reach_44.go [some (.ref 69), some (.int v1), some (.int v2), some (.int v3), some (.int v4)] [.int ((100 : Int32) + v2), .int s0] (aw_s I L D) rfl (z_icmp_ne (tgt := 54) d_M_reach_48 rfl (fun q1 => (s_M_reach_54.go [some (.ref 69), some (.int v1), some (.int v2), some (.int v3), some (.int (v4 + (1 : Int32)))] [] (aw_s I L D) rfl (z_goto (tgt := 27) d_M_reach_57 rfl (h1 q1)))) (fun q2 => (s_M_reach_51.go [some (.ref 69), some (.int v1), some (.int v2), some (.int v3), some (.int v4)] [.int v4] (aw_s I L D) rfl (z_iret d_M_reach_53 rfl rfl (h2 q2))))))
/-! M_hangs -/
theorem d_M_hangs_0 : decode y_M_hangs.2.1 0 = .ok (.aload_n 0, 1) := by decide +kernel
theorem d_M_hangs_1 : decode y_M_hangs.2.1 1 = .ok (.iload_n 1, 1) := by decide +kernel
theorem d_M_hangs_2 : decode y_M_hangs.2.1 2 = .ok (.iload_n 3, 1) := by decide +kernel
theorem s_M_hangs_0 : aw_VS y_M_hangs 0 [o_ald 0, o_ild 1, o_ild 3] 3 := .cons (v_aload_n (i := 0) d_M_hangs_0 rfl) (.cons (v_iload_n (i := 1) d_M_hangs_1 rfl) (.cons (v_iload_n (i := 3) d_M_hangs_2 rfl) .nil))
theorem d_M_hangs_3 : decode y_M_hangs.2.1 3 = .ok (.invokevirtual 411, 3) := by decide +kernel
theorem b_M_hangs_0 {X : aw_X} {d : Nat} {Q : Option Value → aw_H → Prop} {I : Nat → Nat → Int32} {L : Nat → Nat → Int64} {D : Nat → Nat} {v1 : Int32} {v2 : Int32} {v3 : Int32}
    (h1 : aw_m X d y_M_areTold [.ref 69, .int v1, .int v3] (aw_s I L D) (fun r A => aw_z X (d + 1) y_M_hangs Q 6 [some (.ref 69), some (.int v1), some (.int v2), some (.int v3), none, none, none] (r.toList ++ []) A)) :
    aw_z X (d + 1) y_M_hangs Q 0 [some (.ref 69), some (.int v1), some (.int v2), some (.int v3), none, none, none] [] (aw_s I L D) :=
  (s_M_hangs_0.go [some (.ref 69), some (.int v1), some (.int v2), some (.int v3), none, none, none] [.int v3, .int v1, .ref 69] (aw_s I L D) rfl (z_callV (av := [.int v1, .int v3]) (st := []) ok_M_areTold (Or.inl w_1908) w_1910 w_104 k_M d_M_hangs_3 rfl (aw_lt (o := 69) rfl) rfl rfl (Nat.le_of_ble_eq_true rfl) (Nat.le_refl _) (Nat.le_refl _) (h1)))
theorem d_M_hangs_6 : decode y_M_hangs.2.1 6 = .ok (.ifCond .eq (17), 3) := by decide +kernel
theorem d_M_hangs_23 : decode y_M_hangs.2.1 23 = .ok (.bipush (-2), 2) := by decide +kernel
theorem s_M_hangs_23 : aw_VS y_M_hangs 23 [o_c (.int (-2 : Int32))] 25 := .cons (v_bipush (v := (-2 : Int32)) d_M_hangs_23 (by decide +kernel)) .nil
theorem d_M_hangs_25 : decode y_M_hangs.2.1 25 = .ok (.ireturn, 1) := by decide +kernel
theorem d_M_hangs_9 : decode y_M_hangs.2.1 9 = .ok (.iload_n 2, 1) := by decide +kernel
theorem d_M_hangs_10 : decode y_M_hangs.2.1 10 = .ok (.iconst 0, 1) := by decide +kernel
theorem d_M_hangs_11 : decode y_M_hangs.2.1 11 = .ok (.aload_n 0, 1) := by decide +kernel
theorem d_M_hangs_12 : decode y_M_hangs.2.1 12 = .ok (.getfield 57, 3) := by decide +kernel
theorem d_M_hangs_15 : decode y_M_hangs.2.1 15 = .ok (.iconst 1, 1) := by decide +kernel
theorem d_M_hangs_16 : decode y_M_hangs.2.1 16 = .ok (.isub, 1) := by decide +kernel
theorem s_M_hangs_9 : aw_VS y_M_hangs 9 [o_ild 2, o_c (.int (0 : Int32)), o_ald 0, o_getI 9 34, o_c (.int (1 : Int32)), o_i2 (fun x z => x - z)] 17 := .cons (v_iload_n (i := 2) d_M_hangs_9 rfl) (.cons (v_iconst (v := (0 : Int32)) d_M_hangs_10 (by decide +kernel)) (.cons (v_aload_n (i := 0) d_M_hangs_11 rfl) (.cons (v_getI (k := 34) k_M (by decide) (Or.inl rfl) (Or.inl w_1495) d_M_hangs_12) (.cons (v_iconst (v := (1 : Int32)) d_M_hangs_15 (by decide +kernel)) (.cons (v_isub d_M_hangs_16) .nil)))))
theorem d_M_hangs_17 : decode y_M_hangs.2.1 17 = .ok (.invokestatic 234, 3) := by decide +kernel
theorem b_M_hangs_6 {X : aw_X} {d : Nat} {Q : Option Value → aw_H → Prop} {I : Nat → Nat → Int32} {L : Nat → Nat → Int64} {D : Nat → Nat} {v1 : Int32} {v2 : Int32} {v3 : Int32} {s0 : Int32}
    (h1 : s0 = 0 → Q (some (.int (-2 : Int32))) (aw_s I L D))
    (h2 : ¬ s0 = 0 → aw_m X d y_M_isIn [.int v2, .int (0 : Int32), .int ((I 69 34) - (1 : Int32))] (aw_s I L D) (fun r A => aw_z X (d + 1) y_M_hangs Q 20 [some (.ref 69), some (.int v1), some (.int v2), some (.int v3), none, none, none] (r.toList ++ []) A)) :
    aw_z X (d + 1) y_M_hangs Q 6 [some (.ref 69), some (.int v1), some (.int v2), some (.int v3), none, none, none] [.int s0] (aw_s I L D) :=
  (z_if_eq (tgt := 23) d_M_hangs_6 rfl (fun q1 => (s_M_hangs_23.go [some (.ref 69), some (.int v1), some (.int v2), some (.int v3), none, none, none] [.int (-2 : Int32)] (aw_s I L D) rfl (z_iret d_M_hangs_25 rfl rfl (h1 q1)))) (fun q2 => (s_M_hangs_9.go [some (.ref 69), some (.int v1), some (.int v2), some (.int v3), none, none, none] [.int ((I 69 34) - (1 : Int32)), .int (0 : Int32), .int v2] (aw_s I L D) rfl (z_callS (av := [.int v2, .int (0 : Int32), .int ((I 69 34) - (1 : Int32))]) (st := []) ok_M_isIn (Or.inl w_1873) w_1874 d_M_hangs_17 rfl rfl (Nat.le_of_ble_eq_true rfl) (Nat.le_refl _) (Nat.le_refl _) (h2 q2)))))
theorem d_M_hangs_20 : decode y_M_hangs.2.1 20 = .ok (.ifCond .ne (6), 3) := by decide +kernel
theorem d_M_hangs_26 : decode y_M_hangs.2.1 26 = .ok (.iconst 0, 1) := by decide +kernel
theorem d_M_hangs_27 : decode y_M_hangs.2.1 27 = .ok (.istore 4, 2) := by decide +kernel
theorem s_M_hangs_26 : aw_VS y_M_hangs 26 [o_c (.int (0 : Int32)), o_ist 4] 29 := .cons (v_iconst (v := (0 : Int32)) d_M_hangs_26 (by decide +kernel)) (.cons (v_istore d_M_hangs_27) .nil)
theorem b_M_hangs_20 {X : aw_X} {d : Nat} {Q : Option Value → aw_H → Prop} {I : Nat → Nat → Int32} {L : Nat → Nat → Int64} {D : Nat → Nat} {v1 : Int32} {v2 : Int32} {v3 : Int32} {s0 : Int32}
    (h1 : ¬ s0 = 0 → aw_z X (d + 1) y_M_hangs Q 29 [some (.ref 69), some (.int v1), some (.int v2), some (.int v3), some (.int (0 : Int32)), none, none] [] (aw_s I L D))
    (h2 : s0 = 0 → Q (some (.int (-2 : Int32))) (aw_s I L D)) :
    aw_z X (d + 1) y_M_hangs Q 20 [some (.ref 69), some (.int v1), some (.int v2), some (.int v3), none, none, none] [.int s0] (aw_s I L D) :=
  (z_if_ne (tgt := 26) d_M_hangs_20 rfl (fun q1 => (s_M_hangs_26.go [some (.ref 69), some (.int v1), some (.int v2), some (.int v3), some (.int (0 : Int32)), none, none] [] (aw_s I L D) rfl (h1 q1))) (fun q2 => (s_M_hangs_23.go [some (.ref 69), some (.int v1), some (.int v2), some (.int v3), none, none, none] [.int (-2 : Int32)] (aw_s I L D) rfl (z_iret d_M_hangs_25 rfl rfl (h2 q2)))))
theorem d_M_hangs_29 : decode y_M_hangs.2.1 29 = .ok (.iload 4, 2) := by decide +kernel
theorem d_M_hangs_31 : decode y_M_hangs.2.1 31 = .ok (.aload_n 0, 1) := by decide +kernel
theorem s_M_hangs_29 : aw_VS y_M_hangs 29 [o_ild 4, o_ald 0] 32 := .cons (v_iload (i := 4) d_M_hangs_29) (.cons (v_aload_n (i := 0) d_M_hangs_31 rfl) .nil)
theorem d_M_hangs_32 : decode y_M_hangs.2.1 32 = .ok (.invokevirtual 423, 3) := by decide +kernel
theorem b_M_hangs_29 {X : aw_X} {d : Nat} {Q : Option Value → aw_H → Prop} {I : Nat → Nat → Int32} {L : Nat → Nat → Int64} {D : Nat → Nat} {v1 : Int32} {v2 : Int32} {v3 : Int32} {v4 : Int32}
    (h1 : aw_m X d y_M_rows [.ref 69] (aw_s I L D) (fun r A => aw_z X (d + 1) y_M_hangs Q 35 [some (.ref 69), some (.int v1), some (.int v2), some (.int v3), some (.int v4), none, none] (r.toList ++ [.int v4]) A)) :
    aw_z X (d + 1) y_M_hangs Q 29 [some (.ref 69), some (.int v1), some (.int v2), some (.int v3), some (.int v4), none, none] [] (aw_s I L D) :=
  (s_M_hangs_29.go [some (.ref 69), some (.int v1), some (.int v2), some (.int v3), some (.int v4), none, none] [.ref 69, .int v4] (aw_s I L D) rfl (z_callV (av := []) (st := [.int v4]) ok_M_rows (Or.inl w_1915) w_1917 w_105 k_M d_M_hangs_32 rfl (aw_lt (o := 69) rfl) rfl rfl (Nat.le_of_ble_eq_true rfl) (Nat.le_refl _) (Nat.le_refl _) (h1)))
theorem d_M_hangs_35 : decode y_M_hangs.2.1 35 = .ok (.if_icmp .ge (24), 3) := by decide +kernel
theorem d_M_hangs_59 : decode y_M_hangs.2.1 59 = .ok (.iconst 0, 1) := by decide +kernel
theorem d_M_hangs_60 : decode y_M_hangs.2.1 60 = .ok (.istore 4, 2) := by decide +kernel
theorem s_M_hangs_59 : aw_VS y_M_hangs 59 [o_c (.int (0 : Int32)), o_ist 4] 62 := .cons (v_iconst (v := (0 : Int32)) d_M_hangs_59 (by decide +kernel)) (.cons (v_istore d_M_hangs_60) .nil)
theorem d_M_hangs_38 : decode y_M_hangs.2.1 38 = .ok (.aload_n 0, 1) := by decide +kernel
theorem d_M_hangs_39 : decode y_M_hangs.2.1 39 = .ok (.getfield 118, 3) := by decide +kernel
theorem d_M_hangs_42 : decode y_M_hangs.2.1 42 = .ok (.iload 4, 2) := by decide +kernel
theorem d_M_hangs_44 : decode y_M_hangs.2.1 44 = .ok (.aload_n 0, 1) := by decide +kernel
theorem d_M_hangs_45 : decode y_M_hangs.2.1 45 = .ok (.iload_n 1, 1) := by decide +kernel
theorem d_M_hangs_46 : decode y_M_hangs.2.1 46 = .ok (.iload 4, 2) := by decide +kernel
theorem d_M_hangs_48 : decode y_M_hangs.2.1 48 = .ok (.iload_n 3, 1) := by decide +kernel
theorem s_M_hangs_38 : aw_VS y_M_hangs 38 [o_ald 0, o_getA 9 63, o_ild 4, o_ald 0, o_ild 1, o_ild 4, o_ild 3] 49 := .cons (v_aload_n (i := 0) d_M_hangs_38 rfl) (.cons (v_getA (k := 63) k_M (by decide) rfl (Or.inl w_1524) d_M_hangs_39) (.cons (v_iload (i := 4) d_M_hangs_42) (.cons (v_aload_n (i := 0) d_M_hangs_44 rfl) (.cons (v_iload_n (i := 1) d_M_hangs_45 rfl) (.cons (v_iload (i := 4) d_M_hangs_46) (.cons (v_iload_n (i := 3) d_M_hangs_48 rfl) .nil))))))
theorem d_M_hangs_49 : decode y_M_hangs.2.1 49 = .ok (.invokevirtual 467, 3) := by decide +kernel
theorem b_M_hangs_35 {X : aw_X} {d : Nat} {Q : Option Value → aw_H → Prop} {I : Nat → Nat → Int32} {L : Nat → Nat → Int64} {D : Nat → Nat} {v1 : Int32} {v2 : Int32} {v3 : Int32} {v4 : Int32} {s1 : Int32} {s0 : Int32}
    (h1 : s1 ≤ s0 → aw_z X (d + 1) y_M_hangs Q 62 [some (.ref 69), none, some (.int v2), none, some (.int (0 : Int32)), none, none] [] (aw_s I L D))
    (h2 : ¬ s1 ≤ s0 → aw_m X d y_M_outcome [.ref 69, .int v1, .int v4, .int v3] (aw_s I L D) (fun r A => aw_z X (d + 1) y_M_hangs Q 52 [some (.ref 69), some (.int v1), some (.int v2), some (.int v3), some (.int v4), none, none] (r.toList ++ [.int v4, .ref 103]) A)) :
    aw_z X (d + 1) y_M_hangs Q 35 [some (.ref 69), some (.int v1), some (.int v2), some (.int v3), some (.int v4), none, none] [.int s1, .int s0] (aw_s I L D) :=
  (z_icmp_ge (tgt := 59) d_M_hangs_35 rfl (fun q1 => (s_M_hangs_59.go [some (.ref 69), some (.int v1), some (.int v2), some (.int v3), some (.int (0 : Int32)), none, none] [] (aw_s I L D) rfl (aw_Z.weak (ls' := [some (.ref 69), none, some (.int v2), none, some (.int (0 : Int32)), none, none]) (h1 q1) (Nat.le_of_ble_eq_true rfl) ⟨Or.inr rfl, ⟨Or.inl rfl, ⟨Or.inr rfl, ⟨Or.inl rfl, ⟨Or.inr rfl, ⟨Or.inl rfl, ⟨Or.inl rfl, trivial⟩⟩⟩⟩⟩⟩⟩))) (fun q2 => (s_M_hangs_38.go [some (.ref 69), some (.int v1), some (.int v2), some (.int v3), some (.int v4), none, none] [.int v3, .int v4, .int v1, .ref 69, .int v4, .ref 103] (aw_s I L D) rfl (z_callV (av := [.int v1, .int v4, .int v3]) (st := [.int v4, .ref 103]) ok_M_outcome (Or.inl w_2035) w_2037 w_123 k_M d_M_hangs_49 rfl (aw_lt (o := 69) rfl) rfl rfl (Nat.le_of_ble_eq_true rfl) (Nat.le_refl _) (Nat.le_refl _) (h2 q2)))))
theorem d_M_hangs_62 : decode y_M_hangs.2.1 62 = .ok (.iload 4, 2) := by decide +kernel
theorem d_M_hangs_64 : decode y_M_hangs.2.1 64 = .ok (.aload_n 0, 1) := by decide +kernel
theorem s_M_hangs_62 : aw_VS y_M_hangs 62 [o_ild 4, o_ald 0] 65 := .cons (v_iload (i := 4) d_M_hangs_62) (.cons (v_aload_n (i := 0) d_M_hangs_64 rfl) .nil)
theorem d_M_hangs_65 : decode y_M_hangs.2.1 65 = .ok (.invokevirtual 423, 3) := by decide +kernel
theorem b_M_hangs_62 {X : aw_X} {d : Nat} {Q : Option Value → aw_H → Prop} {I : Nat → Nat → Int32} {L : Nat → Nat → Int64} {D : Nat → Nat} {v2 : Int32} {v4 : Int32}
    (h1 : aw_m X d y_M_rows [.ref 69] (aw_s I L D) (fun r A => aw_z X (d + 1) y_M_hangs Q 68 [some (.ref 69), none, some (.int v2), none, some (.int v4), none, none] (r.toList ++ [.int v4]) A)) :
    aw_z X (d + 1) y_M_hangs Q 62 [some (.ref 69), none, some (.int v2), none, some (.int v4), none, none] [] (aw_s I L D) :=
  (s_M_hangs_62.go [some (.ref 69), none, some (.int v2), none, some (.int v4), none, none] [.ref 69, .int v4] (aw_s I L D) rfl (z_callV (av := []) (st := [.int v4]) ok_M_rows (Or.inl w_1915) w_1917 w_105 k_M d_M_hangs_65 rfl (aw_lt (o := 69) rfl) rfl rfl (Nat.le_of_ble_eq_true rfl) (Nat.le_refl _) (Nat.le_refl _) (h1)))
theorem d_M_hangs_52 : decode y_M_hangs.2.1 52 = .ok (.iastore, 1) := by decide +kernel
theorem d_M_hangs_53 : decode y_M_hangs.2.1 53 = .ok (.iinc 4 (1), 3) := by decide +kernel
theorem s_M_hangs_53 : aw_VS y_M_hangs 53 [o_inc 4 (1 : Int32)] 56 := .cons (v_iinc (k0 := (1 : Int32)) d_M_hangs_53 (by decide +kernel)) .nil
theorem d_M_hangs_56 : decode y_M_hangs.2.1 56 = .ok (.goto (-27), 3) := by decide +kernel
theorem b_M_hangs_52 {X : aw_X} {d : Nat} {Q : Option Value → aw_H → Prop} {I : Nat → Nat → Int32} {L : Nat → Nat → Int64} {D : Nat → Nat} {v1 : Int32} {v2 : Int32} {v3 : Int32} {v4 : Int32} {s2 : Int32} {s1 : Int32}
    (h1 : vp_in s1 4096)
    (h2 : aw_z X (d + 1) y_M_hangs Q 29 [some (.ref 69), some (.int v1), some (.int v2), some (.int v3), some (.int (v4 + (1 : Int32))), none, none] [] (aw_s (aw_u I 103 s1.toNatClampNeg s2) L D)) :
    aw_z X (d + 1) y_M_hangs Q 52 [some (.ref 69), some (.int v1), some (.int v2), some (.int v3), some (.int v4), none, none] [.int s2, .int s1, .ref 103] (aw_s I L D) :=
  (z_iast (n := 4096) rfl (aw_lt (o := 103) rfl) (h1) d_M_hangs_52 (s_M_hangs_53.go [some (.ref 69), some (.int v1), some (.int v2), some (.int v3), some (.int (v4 + (1 : Int32))), none, none] [] (aw_s (aw_u I 103 s1.toNatClampNeg s2) L D) rfl (z_goto (tgt := 29) d_M_hangs_56 rfl (h2))))
theorem d_M_hangs_68 : decode y_M_hangs.2.1 68 = .ok (.if_icmp .ge (75), 3) := by decide +kernel
theorem d_M_hangs_143 : decode y_M_hangs.2.1 143 = .ok (.iconst (-1), 1) := by decide +kernel
theorem s_M_hangs_143 : aw_VS y_M_hangs 143 [o_c (.int (-1 : Int32))] 144 := .cons (v_iconst (v := (-1 : Int32)) d_M_hangs_143 (by decide +kernel)) .nil
theorem d_M_hangs_144 : decode y_M_hangs.2.1 144 = .ok (.ireturn, 1) := by decide +kernel
theorem d_M_hangs_71 : decode y_M_hangs.2.1 71 = .ok (.iload 4, 2) := by decide +kernel
theorem d_M_hangs_73 : decode y_M_hangs.2.1 73 = .ok (.aload_n 0, 1) := by decide +kernel
theorem s_M_hangs_71 : aw_VS y_M_hangs 71 [o_ild 4, o_ald 0] 74 := .cons (v_iload (i := 4) d_M_hangs_71) (.cons (v_aload_n (i := 0) d_M_hangs_73 rfl) .nil)
theorem d_M_hangs_74 : decode y_M_hangs.2.1 74 = .ok (.invokevirtual 366, 3) := by decide +kernel
theorem b_M_hangs_68 {X : aw_X} {d : Nat} {Q : Option Value → aw_H → Prop} {I : Nat → Nat → Int32} {L : Nat → Nat → Int64} {D : Nat → Nat} {v2 : Int32} {v4 : Int32} {s1 : Int32} {s0 : Int32}
    (h1 : s1 ≤ s0 → Q (some (.int (-1 : Int32))) (aw_s I L D))
    (h2 : ¬ s1 ≤ s0 → aw_m X d y_M_mask [.ref 69] (aw_s I L D) (fun r A => aw_z X (d + 1) y_M_hangs Q 77 [some (.ref 69), none, some (.int v2), none, some (.int v4), none, none] (r.toList ++ [.int v4]) A)) :
    aw_z X (d + 1) y_M_hangs Q 68 [some (.ref 69), none, some (.int v2), none, some (.int v4), none, none] [.int s1, .int s0] (aw_s I L D) :=
  (z_icmp_ge (tgt := 143) d_M_hangs_68 rfl (fun q1 => (s_M_hangs_143.go [some (.ref 69), none, some (.int v2), none, some (.int v4), none, none] [.int (-1 : Int32)] (aw_s I L D) rfl (z_iret d_M_hangs_144 rfl rfl (h1 q1)))) (fun q2 => (s_M_hangs_71.go [some (.ref 69), none, some (.int v2), none, some (.int v4), none, none] [.ref 69, .int v4] (aw_s I L D) rfl (z_callV (av := []) (st := [.int v4]) ok_M_mask (Or.inl w_1931) w_1933 w_109 k_M d_M_hangs_74 rfl (aw_lt (o := 69) rfl) rfl rfl (Nat.le_of_ble_eq_true rfl) (Nat.le_refl _) (Nat.le_refl _) (h2 q2)))))
theorem d_M_hangs_77 : decode y_M_hangs.2.1 77 = .ok (.aload_n 0, 1) := by decide +kernel
theorem d_M_hangs_78 : decode y_M_hangs.2.1 78 = .ok (.getfield 53, 3) := by decide +kernel
theorem d_M_hangs_81 : decode y_M_hangs.2.1 81 = .ok (.iload_n 2, 1) := by decide +kernel
theorem d_M_hangs_82 : decode y_M_hangs.2.1 82 = .ok (.imul, 1) := by decide +kernel
theorem d_M_hangs_83 : decode y_M_hangs.2.1 83 = .ok (.ishl, 1) := by decide +kernel
theorem d_M_hangs_84 : decode y_M_hangs.2.1 84 = .ok (.iconst (-1), 1) := by decide +kernel
theorem d_M_hangs_85 : decode y_M_hangs.2.1 85 = .ok (.ixor, 1) := by decide +kernel
theorem d_M_hangs_86 : decode y_M_hangs.2.1 86 = .ok (.iand, 1) := by decide +kernel
theorem d_M_hangs_87 : decode y_M_hangs.2.1 87 = .ok (.istore 5, 2) := by decide +kernel
theorem d_M_hangs_89 : decode y_M_hangs.2.1 89 = .ok (.iconst 0, 1) := by decide +kernel
theorem d_M_hangs_90 : decode y_M_hangs.2.1 90 = .ok (.istore 6, 2) := by decide +kernel
theorem s_M_hangs_77 : aw_VS y_M_hangs 77 [o_ald 0, o_getI 9 33, o_ild 2, o_i2 (fun x z => x * z), o_i2 (fun x z => x <<< (z &&& 31)), o_c (.int (-1 : Int32)), o_i2 (fun x z => x ^^^ z), o_i2 (fun x z => x &&& z), o_ist 5, o_c (.int (0 : Int32)), o_ist 6] 92 := .cons (v_aload_n (i := 0) d_M_hangs_77 rfl) (.cons (v_getI (k := 33) k_M (by decide) (Or.inl rfl) (Or.inl w_1494) d_M_hangs_78) (.cons (v_iload_n (i := 2) d_M_hangs_81 rfl) (.cons (v_imul d_M_hangs_82) (.cons (v_ishl d_M_hangs_83) (.cons (v_iconst (v := (-1 : Int32)) d_M_hangs_84 (by decide +kernel)) (.cons (v_ixor d_M_hangs_85) (.cons (v_iand d_M_hangs_86) (.cons (v_istore d_M_hangs_87) (.cons (v_iconst (v := (0 : Int32)) d_M_hangs_89 (by decide +kernel)) (.cons (v_istore d_M_hangs_90) .nil))))))))))
theorem b_M_hangs_77 {X : aw_X} {d : Nat} {Q : Option Value → aw_H → Prop} {I : Nat → Nat → Int32} {L : Nat → Nat → Int64} {D : Nat → Nat} {v2 : Int32} {v4 : Int32} {s1 : Int32} {s0 : Int32}
    (h1 : aw_z X (d + 1) y_M_hangs Q 92 [some (.ref 69), none, some (.int v2), none, some (.int v4), some (.int (s0 &&& ((s1 <<< (((I 69 33) * v2) &&& 31)) ^^^ (-1 : Int32)))), some (.int (0 : Int32))] [] (aw_s I L D)) :
    aw_z X (d + 1) y_M_hangs Q 77 [some (.ref 69), none, some (.int v2), none, some (.int v4), none, none] [.int s1, .int s0] (aw_s I L D) :=
  (s_M_hangs_77.go [some (.ref 69), none, some (.int v2), none, some (.int v4), some (.int (s0 &&& ((s1 <<< (((I 69 33) * v2) &&& 31)) ^^^ (-1 : Int32)))), some (.int (0 : Int32))] [] (aw_s I L D) rfl (h1))
theorem d_M_hangs_92 : decode y_M_hangs.2.1 92 = .ok (.iload 6, 2) := by decide +kernel
theorem d_M_hangs_94 : decode y_M_hangs.2.1 94 = .ok (.aload_n 0, 1) := by decide +kernel
theorem s_M_hangs_92 : aw_VS y_M_hangs 92 [o_ild 6, o_ald 0] 95 := .cons (v_iload (i := 6) d_M_hangs_92) (.cons (v_aload_n (i := 0) d_M_hangs_94 rfl) .nil)
theorem d_M_hangs_95 : decode y_M_hangs.2.1 95 = .ok (.invokevirtual 366, 3) := by decide +kernel
theorem b_M_hangs_92 {X : aw_X} {d : Nat} {Q : Option Value → aw_H → Prop} {I : Nat → Nat → Int32} {L : Nat → Nat → Int64} {D : Nat → Nat} {v2 : Int32} {v4 : Int32} {v5 : Int32} {v6 : Int32}
    (h1 : aw_m X d y_M_mask [.ref 69] (aw_s I L D) (fun r A => aw_z X (d + 1) y_M_hangs Q 98 [some (.ref 69), none, some (.int v2), none, some (.int v4), some (.int v5), some (.int v6)] (r.toList ++ [.int v6]) A)) :
    aw_z X (d + 1) y_M_hangs Q 92 [some (.ref 69), none, some (.int v2), none, some (.int v4), some (.int v5), some (.int v6)] [] (aw_s I L D) :=
  (s_M_hangs_92.go [some (.ref 69), none, some (.int v2), none, some (.int v4), some (.int v5), some (.int v6)] [.ref 69, .int v6] (aw_s I L D) rfl (z_callV (av := []) (st := [.int v6]) ok_M_mask (Or.inl w_1931) w_1933 w_109 k_M d_M_hangs_95 rfl (aw_lt (o := 69) rfl) rfl rfl (Nat.le_of_ble_eq_true rfl) (Nat.le_refl _) (Nat.le_refl _) (h1)))
theorem d_M_hangs_98 : decode y_M_hangs.2.1 98 = .ok (.if_icmp .gt (39), 3) := by decide +kernel
theorem d_M_hangs_137 : decode y_M_hangs.2.1 137 = .ok (.iinc 4 (1), 3) := by decide +kernel
theorem s_M_hangs_137 : aw_VS y_M_hangs 137 [o_inc 4 (1 : Int32)] 140 := .cons (v_iinc (k0 := (1 : Int32)) d_M_hangs_137 (by decide +kernel)) .nil
theorem d_M_hangs_140 : decode y_M_hangs.2.1 140 = .ok (.goto (-78), 3) := by decide +kernel
theorem d_M_hangs_101 : decode y_M_hangs.2.1 101 = .ok (.aload_n 0, 1) := by decide +kernel
theorem d_M_hangs_102 : decode y_M_hangs.2.1 102 = .ok (.getfield 118, 3) := by decide +kernel
theorem d_M_hangs_105 : decode y_M_hangs.2.1 105 = .ok (.iload 5, 2) := by decide +kernel
theorem d_M_hangs_107 : decode y_M_hangs.2.1 107 = .ok (.iload 6, 2) := by decide +kernel
theorem d_M_hangs_109 : decode y_M_hangs.2.1 109 = .ok (.aload_n 0, 1) := by decide +kernel
theorem d_M_hangs_110 : decode y_M_hangs.2.1 110 = .ok (.getfield 53, 3) := by decide +kernel
theorem d_M_hangs_113 : decode y_M_hangs.2.1 113 = .ok (.iload_n 2, 1) := by decide +kernel
theorem d_M_hangs_114 : decode y_M_hangs.2.1 114 = .ok (.imul, 1) := by decide +kernel
theorem d_M_hangs_115 : decode y_M_hangs.2.1 115 = .ok (.ishl, 1) := by decide +kernel
theorem d_M_hangs_116 : decode y_M_hangs.2.1 116 = .ok (.ior, 1) := by decide +kernel
theorem s_M_hangs_101 : aw_VS y_M_hangs 101 [o_ald 0, o_getA 9 63, o_ild 5, o_ild 6, o_ald 0, o_getI 9 33, o_ild 2, o_i2 (fun x z => x * z), o_i2 (fun x z => x <<< (z &&& 31)), o_i2 (fun x z => x ||| z)] 117 := .cons (v_aload_n (i := 0) d_M_hangs_101 rfl) (.cons (v_getA (k := 63) k_M (by decide) rfl (Or.inl w_1524) d_M_hangs_102) (.cons (v_iload (i := 5) d_M_hangs_105) (.cons (v_iload (i := 6) d_M_hangs_107) (.cons (v_aload_n (i := 0) d_M_hangs_109 rfl) (.cons (v_getI (k := 33) k_M (by decide) (Or.inl rfl) (Or.inl w_1494) d_M_hangs_110) (.cons (v_iload_n (i := 2) d_M_hangs_113 rfl) (.cons (v_imul d_M_hangs_114) (.cons (v_ishl d_M_hangs_115) (.cons (v_ior d_M_hangs_116) .nil)))))))))
theorem d_M_hangs_117 : decode y_M_hangs.2.1 117 = .ok (.iaload, 1) := by decide +kernel
theorem d_M_hangs_118 : decode y_M_hangs.2.1 118 = .ok (.aload_n 0, 1) := by decide +kernel
theorem d_M_hangs_119 : decode y_M_hangs.2.1 119 = .ok (.getfield 118, 3) := by decide +kernel
theorem d_M_hangs_122 : decode y_M_hangs.2.1 122 = .ok (.iload 4, 2) := by decide +kernel
theorem s_M_hangs_118 : aw_VS y_M_hangs 118 [o_ald 0, o_getA 9 63, o_ild 4] 124 := .cons (v_aload_n (i := 0) d_M_hangs_118 rfl) (.cons (v_getA (k := 63) k_M (by decide) rfl (Or.inl w_1524) d_M_hangs_119) (.cons (v_iload (i := 4) d_M_hangs_122) .nil))
theorem d_M_hangs_124 : decode y_M_hangs.2.1 124 = .ok (.iaload, 1) := by decide +kernel
theorem d_M_hangs_125 : decode y_M_hangs.2.1 125 = .ok (.if_icmp .eq (6), 3) := by decide +kernel
theorem d_M_hangs_131 : decode y_M_hangs.2.1 131 = .ok (.iinc 6 (1), 3) := by decide +kernel
theorem s_M_hangs_131 : aw_VS y_M_hangs 131 [o_inc 6 (1 : Int32)] 134 := .cons (v_iinc (k0 := (1 : Int32)) d_M_hangs_131 (by decide +kernel)) .nil
theorem d_M_hangs_134 : decode y_M_hangs.2.1 134 = .ok (.goto (-42), 3) := by decide +kernel
theorem d_M_hangs_128 : decode y_M_hangs.2.1 128 = .ok (.iload 4, 2) := by decide +kernel
theorem s_M_hangs_128 : aw_VS y_M_hangs 128 [o_ild 4] 130 := .cons (v_iload (i := 4) d_M_hangs_128) .nil
theorem d_M_hangs_130 : decode y_M_hangs.2.1 130 = .ok (.ireturn, 1) := by decide +kernel
theorem b_M_hangs_98 {X : aw_X} {d : Nat} {Q : Option Value → aw_H → Prop} {I : Nat → Nat → Int32} {L : Nat → Nat → Int64} {D : Nat → Nat} {v2 : Int32} {v4 : Int32} {v5 : Int32} {v6 : Int32} {s1 : Int32} {s0 : Int32}
    (h1 : s1 < s0 → aw_z X (d + 1) y_M_hangs Q 62 [some (.ref 69), none, some (.int v2), none, some (.int (v4 + (1 : Int32))), none, none] [] (aw_s I L D))
    (h2 : ¬ s1 < s0 → vp_in (v5 ||| (v6 <<< (((I 69 33) * v2) &&& 31))) 4096)
    (h3 : ¬ s1 < s0 → vp_in v4 4096)
    (h4 : ¬ s1 < s0 → (I 103 ((v5 ||| (v6 <<< (((I 69 33) * v2) &&& 31))).toNatClampNeg)) = (I 103 v4.toNatClampNeg) → aw_z X (d + 1) y_M_hangs Q 92 [some (.ref 69), none, some (.int v2), none, some (.int v4), some (.int v5), some (.int (v6 + (1 : Int32)))] [] (aw_s I L D))
    (h5 : ¬ s1 < s0 → ¬ (I 103 ((v5 ||| (v6 <<< (((I 69 33) * v2) &&& 31))).toNatClampNeg)) = (I 103 v4.toNatClampNeg) → Q (some (.int v4)) (aw_s I L D)) :
    aw_z X (d + 1) y_M_hangs Q 98 [some (.ref 69), none, some (.int v2), none, some (.int v4), some (.int v5), some (.int v6)] [.int s1, .int s0] (aw_s I L D) :=
  (z_icmp_gt (tgt := 137) d_M_hangs_98 rfl (fun q1 => (s_M_hangs_137.go [some (.ref 69), none, some (.int v2), none, some (.int (v4 + (1 : Int32))), some (.int v5), some (.int v6)] [] (aw_s I L D) rfl (z_goto (tgt := 62) d_M_hangs_140 rfl (aw_Z.weak (ls' := [some (.ref 69), none, some (.int v2), none, some (.int (v4 + (1 : Int32))), none, none]) (h1 q1) (Nat.le_of_ble_eq_true rfl) ⟨Or.inr rfl, ⟨Or.inl rfl, ⟨Or.inr rfl, ⟨Or.inl rfl, ⟨Or.inr rfl, ⟨Or.inl rfl, ⟨Or.inl rfl, trivial⟩⟩⟩⟩⟩⟩⟩)))) (fun q2 => (s_M_hangs_101.go [some (.ref 69), none, some (.int v2), none, some (.int v4), some (.int v5), some (.int v6)] [.int (v5 ||| (v6 <<< (((I 69 33) * v2) &&& 31))), .ref 103] (aw_s I L D) rfl (z_iald (n := 4096) rfl (aw_lt (o := 103) rfl) (h2 q2) d_M_hangs_117 (s_M_hangs_118.go [some (.ref 69), none, some (.int v2), none, some (.int v4), some (.int v5), some (.int v6)] [.int v4, .ref 103, .int (I 103 ((v5 ||| (v6 <<< (((I 69 33) * v2) &&& 31))).toNatClampNeg))] (aw_s I L D) rfl (z_iald (n := 4096) rfl (aw_lt (o := 103) rfl) (h3 q2) d_M_hangs_124 (z_icmp_eq (tgt := 131) d_M_hangs_125 rfl (fun q3 => (s_M_hangs_131.go [some (.ref 69), none, some (.int v2), none, some (.int v4), some (.int v5), some (.int (v6 + (1 : Int32)))] [] (aw_s I L D) rfl (z_goto (tgt := 92) d_M_hangs_134 rfl (h4 q2 q3)))) (fun q4 => (s_M_hangs_128.go [some (.ref 69), none, some (.int v2), none, some (.int v4), some (.int v5), some (.int v6)] [.int v4] (aw_s I L D) rfl (z_iret d_M_hangs_130 rfl rfl (h5 q2 q4)))))))))))
/-! M_safe -/
theorem d_M_safe_0 : decode y_M_safe.2.1 0 = .ok (.aload_n 0, 1) := by decide +kernel
theorem d_M_safe_1 : decode y_M_safe.2.1 1 = .ok (.iload_n 1, 1) := by decide +kernel
theorem d_M_safe_2 : decode y_M_safe.2.1 2 = .ok (.iload_n 2, 1) := by decide +kernel
theorem s_M_safe_0 : aw_VS y_M_safe 0 [o_ald 0, o_ild 1, o_ild 2] 3 := .cons (v_aload_n (i := 0) d_M_safe_0 rfl) (.cons (v_iload_n (i := 1) d_M_safe_1 rfl) (.cons (v_iload_n (i := 2) d_M_safe_2 rfl) .nil))
theorem d_M_safe_3 : decode y_M_safe.2.1 3 = .ok (.invokevirtual 411, 3) := by decide +kernel
theorem b_M_safe_0 {X : aw_X} {d : Nat} {Q : Option Value → aw_H → Prop} {I : Nat → Nat → Int32} {L : Nat → Nat → Int64} {D : Nat → Nat} {v1 : Int32} {v2 : Int32}
    (h1 : aw_m X d y_M_areTold [.ref 69, .int v1, .int v2] (aw_s I L D) (fun r A => aw_z X (d + 1) y_M_safe Q 6 [some (.ref 69), some (.int v1), some (.int v2), none, none, none, none, none, none] (r.toList ++ []) A)) :
    aw_z X (d + 1) y_M_safe Q 0 [some (.ref 69), some (.int v1), some (.int v2), none, none, none, none, none, none] [] (aw_s I L D) :=
  (s_M_safe_0.go [some (.ref 69), some (.int v1), some (.int v2), none, none, none, none, none, none] [.int v2, .int v1, .ref 69] (aw_s I L D) rfl (z_callV (av := [.int v1, .int v2]) (st := []) ok_M_areTold (Or.inl w_1908) w_1910 w_104 k_M d_M_safe_3 rfl (aw_lt (o := 69) rfl) rfl rfl (Nat.le_of_ble_eq_true rfl) (Nat.le_refl _) (Nat.le_refl _) (h1)))
theorem d_M_safe_6 : decode y_M_safe.2.1 6 = .ok (.ifCond .ne (5), 3) := by decide +kernel
theorem d_M_safe_11 : decode y_M_safe.2.1 11 = .ok (.iconst 1, 1) := by decide +kernel
theorem d_M_safe_12 : decode y_M_safe.2.1 12 = .ok (.aload_n 0, 1) := by decide +kernel
theorem d_M_safe_13 : decode y_M_safe.2.1 13 = .ok (.getfield 53, 3) := by decide +kernel
theorem d_M_safe_16 : decode y_M_safe.2.1 16 = .ok (.aload_n 0, 1) := by decide +kernel
theorem d_M_safe_17 : decode y_M_safe.2.1 17 = .ok (.getfield 57, 3) := by decide +kernel
theorem d_M_safe_20 : decode y_M_safe.2.1 20 = .ok (.imul, 1) := by decide +kernel
theorem d_M_safe_21 : decode y_M_safe.2.1 21 = .ok (.ishl, 1) := by decide +kernel
theorem d_M_safe_22 : decode y_M_safe.2.1 22 = .ok (.istore_n 3, 1) := by decide +kernel
theorem d_M_safe_23 : decode y_M_safe.2.1 23 = .ok (.iconst (-1), 1) := by decide +kernel
theorem d_M_safe_24 : decode y_M_safe.2.1 24 = .ok (.istore 4, 2) := by decide +kernel
theorem d_M_safe_26 : decode y_M_safe.2.1 26 = .ok (.iconst 0, 1) := by decide +kernel
theorem d_M_safe_27 : decode y_M_safe.2.1 27 = .ok (.istore 5, 2) := by decide +kernel
theorem d_M_safe_29 : decode y_M_safe.2.1 29 = .ok (.iconst 0, 1) := by decide +kernel
theorem d_M_safe_30 : decode y_M_safe.2.1 30 = .ok (.istore 6, 2) := by decide +kernel
theorem s_M_safe_11 : aw_VS y_M_safe 11 [o_c (.int (1 : Int32)), o_ald 0, o_getI 9 33, o_ald 0, o_getI 9 34, o_i2 (fun x z => x * z), o_i2 (fun x z => x <<< (z &&& 31)), o_ist 3, o_c (.int (-1 : Int32)), o_ist 4, o_c (.int (0 : Int32)), o_ist 5, o_c (.int (0 : Int32)), o_ist 6] 32 := .cons (v_iconst (v := (1 : Int32)) d_M_safe_11 (by decide +kernel)) (.cons (v_aload_n (i := 0) d_M_safe_12 rfl) (.cons (v_getI (k := 33) k_M (by decide) (Or.inl rfl) (Or.inl w_1494) d_M_safe_13) (.cons (v_aload_n (i := 0) d_M_safe_16 rfl) (.cons (v_getI (k := 34) k_M (by decide) (Or.inl rfl) (Or.inl w_1495) d_M_safe_17) (.cons (v_imul d_M_safe_20) (.cons (v_ishl d_M_safe_21) (.cons (v_istore_n d_M_safe_22) (.cons (v_iconst (v := (-1 : Int32)) d_M_safe_23 (by decide +kernel)) (.cons (v_istore d_M_safe_24) (.cons (v_iconst (v := (0 : Int32)) d_M_safe_26 (by decide +kernel)) (.cons (v_istore d_M_safe_27) (.cons (v_iconst (v := (0 : Int32)) d_M_safe_29 (by decide +kernel)) (.cons (v_istore d_M_safe_30) .nil)))))))))))))
theorem d_M_safe_9 : decode y_M_safe.2.1 9 = .ok (.iconst (-1), 1) := by decide +kernel
theorem s_M_safe_9 : aw_VS y_M_safe 9 [o_c (.int (-1 : Int32))] 10 := .cons (v_iconst (v := (-1 : Int32)) d_M_safe_9 (by decide +kernel)) .nil
theorem d_M_safe_10 : decode y_M_safe.2.1 10 = .ok (.ireturn, 1) := by decide +kernel
theorem b_M_safe_6 {X : aw_X} {d : Nat} {Q : Option Value → aw_H → Prop} {I : Nat → Nat → Int32} {L : Nat → Nat → Int64} {D : Nat → Nat} {v1 : Int32} {v2 : Int32} {s0 : Int32}
    (h1 : ¬ s0 = 0 → aw_z X (d + 1) y_M_safe Q 32 [some (.ref 69), some (.int v1), some (.int v2), some (.int ((1 : Int32) <<< (((I 69 33) * (I 69 34)) &&& 31))), some (.int (-1 : Int32)), some (.int (0 : Int32)), some (.int (0 : Int32)), none, none] [] (aw_s I L D))
    (h2 : s0 = 0 → Q (some (.int (-1 : Int32))) (aw_s I L D)) :
    aw_z X (d + 1) y_M_safe Q 6 [some (.ref 69), some (.int v1), some (.int v2), none, none, none, none, none, none] [.int s0] (aw_s I L D) :=
  (z_if_ne (tgt := 11) d_M_safe_6 rfl (fun q1 => (s_M_safe_11.go [some (.ref 69), some (.int v1), some (.int v2), some (.int ((1 : Int32) <<< (((I 69 33) * (I 69 34)) &&& 31))), some (.int (-1 : Int32)), some (.int (0 : Int32)), some (.int (0 : Int32)), none, none] [] (aw_s I L D) rfl (h1 q1))) (fun q2 => (s_M_safe_9.go [some (.ref 69), some (.int v1), some (.int v2), none, none, none, none, none, none] [.int (-1 : Int32)] (aw_s I L D) rfl (z_iret d_M_safe_10 rfl rfl (h2 q2)))))
theorem d_M_safe_32 : decode y_M_safe.2.1 32 = .ok (.iload 6, 2) := by decide +kernel
theorem d_M_safe_34 : decode y_M_safe.2.1 34 = .ok (.iload_n 3, 1) := by decide +kernel
theorem s_M_safe_32 : aw_VS y_M_safe 32 [o_ild 6, o_ild 3] 35 := .cons (v_iload (i := 6) d_M_safe_32) (.cons (v_iload_n (i := 3) d_M_safe_34 rfl) .nil)
theorem d_M_safe_35 : decode y_M_safe.2.1 35 = .ok (.if_icmp .ge (82), 3) := by decide +kernel
theorem d_M_safe_117 : decode y_M_safe.2.1 117 = .ok (.aload_n 0, 1) := by decide +kernel
theorem d_M_safe_118 : decode y_M_safe.2.1 118 = .ok (.iload 4, 2) := by decide +kernel
theorem d_M_safe_120 : decode y_M_safe.2.1 120 = .ok (.putfield 127, 3) := by decide +kernel
theorem d_M_safe_123 : decode y_M_safe.2.1 123 = .ok (.iload 5, 2) := by decide +kernel
theorem s_M_safe_117 : aw_VS y_M_safe 117 [o_ald 0, o_ild 4, o_putI 9 72, o_ild 5] 125 := .cons (v_aload_n (i := 0) d_M_safe_117 rfl) (.cons (v_iload (i := 4) d_M_safe_118) (.cons (v_putI (k := 72) k_M (by decide) rfl (Or.inl ⟨rfl, Or.inl w_1533⟩) d_M_safe_120) (.cons (v_iload (i := 5) d_M_safe_123) .nil)))
theorem d_M_safe_125 : decode y_M_safe.2.1 125 = .ok (.ireturn, 1) := by decide +kernel
theorem d_M_safe_38 : decode y_M_safe.2.1 38 = .ok (.iconst 1, 1) := by decide +kernel
theorem d_M_safe_39 : decode y_M_safe.2.1 39 = .ok (.istore 7, 2) := by decide +kernel
theorem d_M_safe_41 : decode y_M_safe.2.1 41 = .ok (.iload 6, 2) := by decide +kernel
theorem d_M_safe_43 : decode y_M_safe.2.1 43 = .ok (.istore 8, 2) := by decide +kernel
theorem s_M_safe_38 : aw_VS y_M_safe 38 [o_c (.int (1 : Int32)), o_ist 7, o_ild 6, o_ist 8] 45 := .cons (v_iconst (v := (1 : Int32)) d_M_safe_38 (by decide +kernel)) (.cons (v_istore d_M_safe_39) (.cons (v_iload (i := 6) d_M_safe_41) (.cons (v_istore d_M_safe_43) .nil)))
theorem b_M_safe_32 {X : aw_X} {d : Nat} {Q : Option Value → aw_H → Prop} {I : Nat → Nat → Int32} {L : Nat → Nat → Int64} {D : Nat → Nat} {v1 : Int32} {v2 : Int32} {v3 : Int32} {v4 : Int32} {v5 : Int32} {v6 : Int32}
    (h1 : v3 ≤ v6 → Q (some (.int v5)) (aw_s (aw_u I 69 72 v4) L D))
    (h2 : ¬ v3 ≤ v6 → aw_z X (d + 1) y_M_safe Q 45 [some (.ref 69), some (.int v1), some (.int v2), some (.int v3), some (.int v4), some (.int v5), some (.int v6), some (.int (1 : Int32)), some (.int v6)] [] (aw_s I L D)) :
    aw_z X (d + 1) y_M_safe Q 32 [some (.ref 69), some (.int v1), some (.int v2), some (.int v3), some (.int v4), some (.int v5), some (.int v6), none, none] [] (aw_s I L D) :=
  (s_M_safe_32.go [some (.ref 69), some (.int v1), some (.int v2), some (.int v3), some (.int v4), some (.int v5), some (.int v6), none, none] [.int v3, .int v6] (aw_s I L D) rfl (z_icmp_ge (tgt := 117) d_M_safe_35 rfl (fun q1 => (s_M_safe_117.go [some (.ref 69), some (.int v1), some (.int v2), some (.int v3), some (.int v4), some (.int v5), some (.int v6), none, none] [.int v5] (aw_s (aw_u I 69 72 v4) L D) rfl (z_iret d_M_safe_125 rfl rfl (h1 q1)))) (fun q2 => (s_M_safe_38.go [some (.ref 69), some (.int v1), some (.int v2), some (.int v3), some (.int v4), some (.int v5), some (.int v6), some (.int (1 : Int32)), some (.int v6)] [] (aw_s I L D) rfl (h2 q2)))))
theorem d_M_safe_45 : decode y_M_safe.2.1 45 = .ok (.iload 8, 2) := by decide +kernel
theorem d_M_safe_47 : decode y_M_safe.2.1 47 = .ok (.aload_n 0, 1) := by decide +kernel
theorem s_M_safe_45 : aw_VS y_M_safe 45 [o_ild 8, o_ald 0] 48 := .cons (v_iload (i := 8) d_M_safe_45) (.cons (v_aload_n (i := 0) d_M_safe_47 rfl) .nil)
theorem d_M_safe_48 : decode y_M_safe.2.1 48 = .ok (.invokevirtual 423, 3) := by decide +kernel
theorem b_M_safe_45 {X : aw_X} {d : Nat} {Q : Option Value → aw_H → Prop} {I : Nat → Nat → Int32} {L : Nat → Nat → Int64} {D : Nat → Nat} {v1 : Int32} {v2 : Int32} {v3 : Int32} {v4 : Int32} {v5 : Int32} {v6 : Int32} {v7 : Int32} {v8 : Int32}
    (h1 : aw_m X d y_M_rows [.ref 69] (aw_s I L D) (fun r A => aw_z X (d + 1) y_M_safe Q 51 [some (.ref 69), some (.int v1), some (.int v2), some (.int v3), some (.int v4), some (.int v5), some (.int v6), some (.int v7), some (.int v8)] (r.toList ++ [.int v8]) A)) :
    aw_z X (d + 1) y_M_safe Q 45 [some (.ref 69), some (.int v1), some (.int v2), some (.int v3), some (.int v4), some (.int v5), some (.int v6), some (.int v7), some (.int v8)] [] (aw_s I L D) :=
  (s_M_safe_45.go [some (.ref 69), some (.int v1), some (.int v2), some (.int v3), some (.int v4), some (.int v5), some (.int v6), some (.int v7), some (.int v8)] [.ref 69, .int v8] (aw_s I L D) rfl (z_callV (av := []) (st := [.int v8]) ok_M_rows (Or.inl w_1915) w_1917 w_105 k_M d_M_safe_48 rfl (aw_lt (o := 69) rfl) rfl rfl (Nat.le_of_ble_eq_true rfl) (Nat.le_refl _) (Nat.le_refl _) (h1)))
theorem d_M_safe_51 : decode y_M_safe.2.1 51 = .ok (.if_icmp .ge (39), 3) := by decide +kernel
theorem d_M_safe_54 : decode y_M_safe.2.1 54 = .ok (.iload 7, 2) := by decide +kernel
theorem s_M_safe_54 : aw_VS y_M_safe 54 [o_ild 7] 56 := .cons (v_iload (i := 7) d_M_safe_54) .nil
theorem d_M_safe_56 : decode y_M_safe.2.1 56 = .ok (.ifCond .eq (34), 3) := by decide +kernel
theorem d_M_safe_59 : decode y_M_safe.2.1 59 = .ok (.aload_n 0, 1) := by decide +kernel
theorem d_M_safe_60 : decode y_M_safe.2.1 60 = .ok (.iload_n 1, 1) := by decide +kernel
theorem d_M_safe_61 : decode y_M_safe.2.1 61 = .ok (.iload 8, 2) := by decide +kernel
theorem d_M_safe_63 : decode y_M_safe.2.1 63 = .ok (.iload_n 2, 1) := by decide +kernel
theorem d_M_safe_64 : decode y_M_safe.2.1 64 = .ok (.iconst (-1), 1) := by decide +kernel
theorem s_M_safe_59 : aw_VS y_M_safe 59 [o_ald 0, o_ild 1, o_ild 8, o_ild 2, o_c (.int (-1 : Int32))] 65 := .cons (v_aload_n (i := 0) d_M_safe_59 rfl) (.cons (v_iload_n (i := 1) d_M_safe_60 rfl) (.cons (v_iload (i := 8) d_M_safe_61) (.cons (v_iload_n (i := 2) d_M_safe_63 rfl) (.cons (v_iconst (v := (-1 : Int32)) d_M_safe_64 (by decide +kernel)) .nil))))
theorem d_M_safe_65 : decode y_M_safe.2.1 65 = .ok (.invokevirtual 434, 3) := by decide +kernel
theorem b_M_safe_51 {X : aw_X} {d : Nat} {Q : Option Value → aw_H → Prop} {I : Nat → Nat → Int32} {L : Nat → Nat → Int64} {D : Nat → Nat} {v1 : Int32} {v2 : Int32} {v3 : Int32} {v4 : Int32} {v5 : Int32} {v6 : Int32} {v7 : Int32} {v8 : Int32} {s1 : Int32} {s0 : Int32}
    (h1 : s1 ≤ s0 → aw_z X (d + 1) y_M_safe Q 90 [some (.ref 69), some (.int v1), some (.int v2), some (.int v3), some (.int v4), some (.int v5), some (.int v6), some (.int v7), none] [] (aw_s I L D))
    (h2 : ¬ s1 ≤ s0 → v7 = 0 → aw_z X (d + 1) y_M_safe Q 90 [some (.ref 69), some (.int v1), some (.int v2), some (.int v3), some (.int v4), some (.int v5), some (.int v6), some (.int v7), none] [] (aw_s I L D))
    (h3 : ¬ s1 ≤ s0 → ¬ v7 = 0 → aw_m X d y_M_runs [.ref 69, .int v1, .int v8, .int v2, .int (-1 : Int32)] (aw_s I L D) (fun r A => aw_z X (d + 1) y_M_safe Q 68 [some (.ref 69), some (.int v1), some (.int v2), some (.int v3), some (.int v4), some (.int v5), some (.int v6), none, some (.int v8)] (r.toList ++ []) A)) :
    aw_z X (d + 1) y_M_safe Q 51 [some (.ref 69), some (.int v1), some (.int v2), some (.int v3), some (.int v4), some (.int v5), some (.int v6), some (.int v7), some (.int v8)] [.int s1, .int s0] (aw_s I L D) :=
  (z_icmp_ge (tgt := 90) d_M_safe_51 rfl (fun q1 => (aw_Z.weak (ls' := [some (.ref 69), some (.int v1), some (.int v2), some (.int v3), some (.int v4), some (.int v5), some (.int v6), some (.int v7), none]) (h1 q1) (Nat.le_of_ble_eq_true rfl) ⟨Or.inr rfl, ⟨Or.inr rfl, ⟨Or.inr rfl, ⟨Or.inr rfl, ⟨Or.inr rfl, ⟨Or.inr rfl, ⟨Or.inr rfl, ⟨Or.inr rfl, ⟨Or.inl rfl, trivial⟩⟩⟩⟩⟩⟩⟩⟩⟩)) (fun q2 => (s_M_safe_54.go [some (.ref 69), some (.int v1), some (.int v2), some (.int v3), some (.int v4), some (.int v5), some (.int v6), some (.int v7), some (.int v8)] [.int v7] (aw_s I L D) rfl (z_if_eq (tgt := 90) d_M_safe_56 rfl (fun q3 => (aw_Z.weak (ls' := [some (.ref 69), some (.int v1), some (.int v2), some (.int v3), some (.int v4), some (.int v5), some (.int v6), some (.int v7), none]) (h2 q2 q3) (Nat.le_of_ble_eq_true rfl) ⟨Or.inr rfl, ⟨Or.inr rfl, ⟨Or.inr rfl, ⟨Or.inr rfl, ⟨Or.inr rfl, ⟨Or.inr rfl, ⟨Or.inr rfl, ⟨Or.inr rfl, ⟨Or.inl rfl, trivial⟩⟩⟩⟩⟩⟩⟩⟩⟩)) (fun q4 => (s_M_safe_59.go [some (.ref 69), some (.int v1), some (.int v2), some (.int v3), some (.int v4), some (.int v5), some (.int v6), some (.int v7), some (.int v8)] [.int (-1 : Int32), .int v2, .int v8, .int v1, .ref 69] (aw_s I L D) rfl (z_callV (av := [.int v1, .int v8, .int v2, .int (-1 : Int32)]) (st := []) ok_M_runs (Or.inl w_1923) w_1925 w_107 k_M d_M_safe_65 rfl (aw_lt (o := 69) rfl) rfl rfl (Nat.le_of_ble_eq_true rfl) (Nat.le_refl _) (Nat.le_refl _) (aw_C.mono (h3 q2 q4) (fun _ _ zz => aw_Z.weak (ls' := [some (.ref 69), some (.int v1), some (.int v2), some (.int v3), some (.int v4), some (.int v5), some (.int v6), none, some (.int v8)]) zz (Nat.le_of_ble_eq_true rfl) ⟨Or.inr rfl, ⟨Or.inr rfl, ⟨Or.inr rfl, ⟨Or.inr rfl, ⟨Or.inr rfl, ⟨Or.inr rfl, ⟨Or.inr rfl, ⟨Or.inl rfl, ⟨Or.inr rfl, trivial⟩⟩⟩⟩⟩⟩⟩⟩⟩)))))))))
theorem d_M_safe_90 : decode y_M_safe.2.1 90 = .ok (.iload 7, 2) := by decide +kernel
theorem s_M_safe_90 : aw_VS y_M_safe 90 [o_ild 7] 92 := .cons (v_iload (i := 7) d_M_safe_90) .nil
theorem d_M_safe_92 : decode y_M_safe.2.1 92 = .ok (.ifCond .eq (9), 3) := by decide +kernel
theorem d_M_safe_101 : decode y_M_safe.2.1 101 = .ok (.iload 4, 2) := by decide +kernel
theorem d_M_safe_103 : decode y_M_safe.2.1 103 = .ok (.iconst (-1), 1) := by decide +kernel
theorem s_M_safe_101 : aw_VS y_M_safe 101 [o_ild 4, o_c (.int (-1 : Int32))] 104 := .cons (v_iload (i := 4) d_M_safe_101) (.cons (v_iconst (v := (-1 : Int32)) d_M_safe_103 (by decide +kernel)) .nil)
theorem d_M_safe_104 : decode y_M_safe.2.1 104 = .ok (.if_icmp .ne (7), 3) := by decide +kernel
theorem d_M_safe_111 : decode y_M_safe.2.1 111 = .ok (.iinc 6 (1), 3) := by decide +kernel
theorem s_M_safe_111 : aw_VS y_M_safe 111 [o_inc 6 (1 : Int32)] 114 := .cons (v_iinc (k0 := (1 : Int32)) d_M_safe_111 (by decide +kernel)) .nil
theorem d_M_safe_114 : decode y_M_safe.2.1 114 = .ok (.goto (-82), 3) := by decide +kernel
theorem d_M_safe_107 : decode y_M_safe.2.1 107 = .ok (.iload 6, 2) := by decide +kernel
theorem d_M_safe_109 : decode y_M_safe.2.1 109 = .ok (.istore 4, 2) := by decide +kernel
theorem s_M_safe_107 : aw_VS y_M_safe 107 [o_ild 6, o_ist 4] 111 := .cons (v_iload (i := 6) d_M_safe_107) (.cons (v_istore d_M_safe_109) .nil)
theorem d_M_safe_95 : decode y_M_safe.2.1 95 = .ok (.iinc 5 (1), 3) := by decide +kernel
theorem s_M_safe_95 : aw_VS y_M_safe 95 [o_inc 5 (1 : Int32)] 98 := .cons (v_iinc (k0 := (1 : Int32)) d_M_safe_95 (by decide +kernel)) .nil
theorem d_M_safe_98 : decode y_M_safe.2.1 98 = .ok (.goto (13), 3) := by decide +kernel
theorem b_M_safe_90 {X : aw_X} {d : Nat} {Q : Option Value → aw_H → Prop} {I : Nat → Nat → Int32} {L : Nat → Nat → Int64} {D : Nat → Nat} {v1 : Int32} {v2 : Int32} {v3 : Int32} {v4 : Int32} {v5 : Int32} {v6 : Int32} {v7 : Int32}
    (h1 : v7 = 0 → ¬ v4 = (-1 : Int32) → aw_z X (d + 1) y_M_safe Q 32 [some (.ref 69), some (.int v1), some (.int v2), some (.int v3), some (.int v4), some (.int v5), some (.int (v6 + (1 : Int32))), none, none] [] (aw_s I L D))
    (h2 : v7 = 0 → v4 = (-1 : Int32) → aw_z X (d + 1) y_M_safe Q 32 [some (.ref 69), some (.int v1), some (.int v2), some (.int v3), some (.int v6), some (.int v5), some (.int (v6 + (1 : Int32))), none, none] [] (aw_s I L D))
    (h3 : ¬ v7 = 0 → aw_z X (d + 1) y_M_safe Q 32 [some (.ref 69), some (.int v1), some (.int v2), some (.int v3), some (.int v4), some (.int (v5 + (1 : Int32))), some (.int (v6 + (1 : Int32))), none, none] [] (aw_s I L D)) :
    aw_z X (d + 1) y_M_safe Q 90 [some (.ref 69), some (.int v1), some (.int v2), some (.int v3), some (.int v4), some (.int v5), some (.int v6), some (.int v7), none] [] (aw_s I L D) :=
  (s_M_safe_90.go [some (.ref 69), some (.int v1), some (.int v2), some (.int v3), some (.int v4), some (.int v5), some (.int v6), some (.int v7), none] [.int v7] (aw_s I L D) rfl (z_if_eq (tgt := 101) d_M_safe_92 rfl (fun q1 => (s_M_safe_101.go [some (.ref 69), some (.int v1), some (.int v2), some (.int v3), some (.int v4), some (.int v5), some (.int v6), some (.int v7), none] [.int (-1 : Int32), .int v4] (aw_s I L D) rfl (z_icmp_ne (tgt := 111) d_M_safe_104 rfl (fun q3 => (s_M_safe_111.go [some (.ref 69), some (.int v1), some (.int v2), some (.int v3), some (.int v4), some (.int v5), some (.int (v6 + (1 : Int32))), some (.int v7), none] [] (aw_s I L D) rfl (z_goto (tgt := 32) d_M_safe_114 rfl (aw_Z.weak (ls' := [some (.ref 69), some (.int v1), some (.int v2), some (.int v3), some (.int v4), some (.int v5), some (.int (v6 + (1 : Int32))), none, none]) (h1 q1 q3) (Nat.le_of_ble_eq_true rfl) ⟨Or.inr rfl, ⟨Or.inr rfl, ⟨Or.inr rfl, ⟨Or.inr rfl, ⟨Or.inr rfl, ⟨Or.inr rfl, ⟨Or.inr rfl, ⟨Or.inl rfl, ⟨Or.inl rfl, trivial⟩⟩⟩⟩⟩⟩⟩⟩⟩)))) (fun q4 => (s_M_safe_107.go [some (.ref 69), some (.int v1), some (.int v2), some (.int v3), some (.int v6), some (.int v5), some (.int v6), some (.int v7), none] [] (aw_s I L D) rfl (s_M_safe_111.go [some (.ref 69), some (.int v1), some (.int v2), some (.int v3), some (.int v6), some (.int v5), some (.int (v6 + (1 : Int32))), some (.int v7), none] [] (aw_s I L D) rfl (z_goto (tgt := 32) d_M_safe_114 rfl (aw_Z.weak (ls' := [some (.ref 69), some (.int v1), some (.int v2), some (.int v3), some (.int v6), some (.int v5), some (.int (v6 + (1 : Int32))), none, none]) (h2 q1 q4) (Nat.le_of_ble_eq_true rfl) ⟨Or.inr rfl, ⟨Or.inr rfl, ⟨Or.inr rfl, ⟨Or.inr rfl, ⟨Or.inr rfl, ⟨Or.inr rfl, ⟨Or.inr rfl, ⟨Or.inl rfl, ⟨Or.inl rfl, trivial⟩⟩⟩⟩⟩⟩⟩⟩⟩)))))))) (fun q2 => (s_M_safe_95.go [some (.ref 69), some (.int v1), some (.int v2), some (.int v3), some (.int v4), some (.int (v5 + (1 : Int32))), some (.int v6), some (.int v7), none] [] (aw_s I L D) rfl (z_goto (tgt := 111) d_M_safe_98 rfl (s_M_safe_111.go [some (.ref 69), some (.int v1), some (.int v2), some (.int v3), some (.int v4), some (.int (v5 + (1 : Int32))), some (.int (v6 + (1 : Int32))), some (.int v7), none] [] (aw_s I L D) rfl (z_goto (tgt := 32) d_M_safe_114 rfl (aw_Z.weak (ls' := [some (.ref 69), some (.int v1), some (.int v2), some (.int v3), some (.int v4), some (.int (v5 + (1 : Int32))), some (.int (v6 + (1 : Int32))), none, none]) (h3 q2) (Nat.le_of_ble_eq_true rfl) ⟨Or.inr rfl, ⟨Or.inr rfl, ⟨Or.inr rfl, ⟨Or.inr rfl, ⟨Or.inr rfl, ⟨Or.inr rfl, ⟨Or.inr rfl, ⟨Or.inl rfl, ⟨Or.inl rfl, trivial⟩⟩⟩⟩⟩⟩⟩⟩⟩))))))))
theorem d_M_safe_68 : decode y_M_safe.2.1 68 = .ok (.invokestatic 470, 3) := by decide +kernel
theorem b_M_safe_68 {X : aw_X} {d : Nat} {Q : Option Value → aw_H → Prop} {I : Nat → Nat → Int32} {L : Nat → Nat → Int64} {D : Nat → Nat} {v1 : Int32} {v2 : Int32} {v3 : Int32} {v4 : Int32} {v5 : Int32} {v6 : Int32} {v8 : Int32} {s0 : Int32}
    (h1 : aw_m X d y_M_isHarm [.int s0] (aw_s I L D) (fun r A => aw_z X (d + 1) y_M_safe Q 71 [some (.ref 69), some (.int v1), some (.int v2), some (.int v3), some (.int v4), some (.int v5), some (.int v6), none, some (.int v8)] (r.toList ++ []) A)) :
    aw_z X (d + 1) y_M_safe Q 68 [some (.ref 69), some (.int v1), some (.int v2), some (.int v3), some (.int v4), some (.int v5), some (.int v6), none, some (.int v8)] [.int s0] (aw_s I L D) :=
  (z_callS (av := [.int s0]) (st := []) ok_M_isHarm (Or.inl w_2051) w_2052 d_M_safe_68 rfl rfl (Nat.le_of_ble_eq_true rfl) (Nat.le_refl _) (Nat.le_refl _) (h1))
theorem d_M_safe_71 : decode y_M_safe.2.1 71 = .ok (.ifCond .ne (7), 3) := by decide +kernel
theorem d_M_safe_78 : decode y_M_safe.2.1 78 = .ok (.iconst 0, 1) := by decide +kernel
theorem s_M_safe_78 : aw_VS y_M_safe 78 [o_c (.int (0 : Int32))] 79 := .cons (v_iconst (v := (0 : Int32)) d_M_safe_78 (by decide +kernel)) .nil
theorem d_M_safe_79 : decode y_M_safe.2.1 79 = .ok (.istore 7, 2) := by decide +kernel
theorem d_M_safe_81 : decode y_M_safe.2.1 81 = .ok (.iload 8, 2) := by decide +kernel
theorem d_M_safe_83 : decode y_M_safe.2.1 83 = .ok (.iload_n 3, 1) := by decide +kernel
theorem d_M_safe_84 : decode y_M_safe.2.1 84 = .ok (.iadd, 1) := by decide +kernel
theorem d_M_safe_85 : decode y_M_safe.2.1 85 = .ok (.istore 8, 2) := by decide +kernel
theorem s_M_safe_79 : aw_VS y_M_safe 79 [o_ist 7, o_ild 8, o_ild 3, o_i2 (fun x z => x + z), o_ist 8] 87 := .cons (v_istore d_M_safe_79) (.cons (v_iload (i := 8) d_M_safe_81) (.cons (v_iload_n (i := 3) d_M_safe_83 rfl) (.cons (v_iadd d_M_safe_84) (.cons (v_istore d_M_safe_85) .nil))))
theorem d_M_safe_87 : decode y_M_safe.2.1 87 = .ok (.goto (-42), 3) := by decide +kernel
theorem d_M_safe_74 : decode y_M_safe.2.1 74 = .ok (.iconst 1, 1) := by decide +kernel
theorem s_M_safe_74 : aw_VS y_M_safe 74 [o_c (.int (1 : Int32))] 75 := .cons (v_iconst (v := (1 : Int32)) d_M_safe_74 (by decide +kernel)) .nil
theorem d_M_safe_75 : decode y_M_safe.2.1 75 = .ok (.goto (4), 3) := by decide +kernel
theorem b_M_safe_71 {X : aw_X} {d : Nat} {Q : Option Value → aw_H → Prop} {I : Nat → Nat → Int32} {L : Nat → Nat → Int64} {D : Nat → Nat} {v1 : Int32} {v2 : Int32} {v3 : Int32} {v4 : Int32} {v5 : Int32} {v6 : Int32} {v8 : Int32} {s0 : Int32}
    (h1 : ¬ s0 = 0 → aw_z X (d + 1) y_M_safe Q 45 [some (.ref 69), some (.int v1), some (.int v2), some (.int v3), some (.int v4), some (.int v5), some (.int v6), some (.int (0 : Int32)), some (.int (v8 + v3))] [] (aw_s I L D))
    (h2 : s0 = 0 → aw_z X (d + 1) y_M_safe Q 45 [some (.ref 69), some (.int v1), some (.int v2), some (.int v3), some (.int v4), some (.int v5), some (.int v6), some (.int (1 : Int32)), some (.int (v8 + v3))] [] (aw_s I L D)) :
    aw_z X (d + 1) y_M_safe Q 71 [some (.ref 69), some (.int v1), some (.int v2), some (.int v3), some (.int v4), some (.int v5), some (.int v6), none, some (.int v8)] [.int s0] (aw_s I L D) :=
  (z_if_ne (tgt := 78) d_M_safe_71 rfl (fun q1 => (s_M_safe_78.go [some (.ref 69), some (.int v1), some (.int v2), some (.int v3), some (.int v4), some (.int v5), some (.int v6), none, some (.int v8)] [.int (0 : Int32)] (aw_s I L D) rfl (s_M_safe_79.go [some (.ref 69), some (.int v1), some (.int v2), some (.int v3), some (.int v4), some (.int v5), some (.int v6), some (.int (0 : Int32)), some (.int (v8 + v3))] [] (aw_s I L D) rfl (z_goto (tgt := 45) d_M_safe_87 rfl (h1 q1))))) (fun q2 => (s_M_safe_74.go [some (.ref 69), some (.int v1), some (.int v2), some (.int v3), some (.int v4), some (.int v5), some (.int v6), none, some (.int v8)] [.int (1 : Int32)] (aw_s I L D) rfl (z_goto (tgt := 79) d_M_safe_75 rfl (s_M_safe_79.go [some (.ref 69), some (.int v1), some (.int v2), some (.int v3), some (.int v4), some (.int v5), some (.int v6), some (.int (1 : Int32)), some (.int (v8 + v3))] [] (aw_s I L D) rfl (z_goto (tgt := 45) d_M_safe_87 rfl (h2 q2)))))))
/-! M_isHarm -/
theorem d_M_isHarm_0 : decode y_M_isHarm.2.1 0 = .ok (.iload_n 0, 1) := by decide +kernel
theorem d_M_isHarm_1 : decode y_M_isHarm.2.1 1 = .ok (.iconst 1, 1) := by decide +kernel
theorem s_M_isHarm_0 : aw_VS y_M_isHarm 0 [o_ild 0, o_c (.int (1 : Int32))] 2 := .cons (v_iload_n (i := 0) d_M_isHarm_0 rfl) (.cons (v_iconst (v := (1 : Int32)) d_M_isHarm_1 (by decide +kernel)) .nil)
theorem d_M_isHarm_2 : decode y_M_isHarm.2.1 2 = .ok (.if_icmp .lt (12), 3) := by decide +kernel
theorem d_M_isHarm_14 : decode y_M_isHarm.2.1 14 = .ok (.iconst 0, 1) := by decide +kernel
theorem s_M_isHarm_14 : aw_VS y_M_isHarm 14 [o_c (.int (0 : Int32))] 15 := .cons (v_iconst (v := (0 : Int32)) d_M_isHarm_14 (by decide +kernel)) .nil
theorem d_M_isHarm_15 : decode y_M_isHarm.2.1 15 = .ok (.ireturn, 1) := by decide +kernel
theorem d_M_isHarm_5 : decode y_M_isHarm.2.1 5 = .ok (.iload_n 0, 1) := by decide +kernel
theorem d_M_isHarm_6 : decode y_M_isHarm.2.1 6 = .ok (.iconst 3, 1) := by decide +kernel
theorem s_M_isHarm_5 : aw_VS y_M_isHarm 5 [o_ild 0, o_c (.int (3 : Int32))] 7 := .cons (v_iload_n (i := 0) d_M_isHarm_5 rfl) (.cons (v_iconst (v := (3 : Int32)) d_M_isHarm_6 (by decide +kernel)) .nil)
theorem d_M_isHarm_7 : decode y_M_isHarm.2.1 7 = .ok (.if_icmp .gt (7), 3) := by decide +kernel
theorem d_M_isHarm_10 : decode y_M_isHarm.2.1 10 = .ok (.iconst 1, 1) := by decide +kernel
theorem s_M_isHarm_10 : aw_VS y_M_isHarm 10 [o_c (.int (1 : Int32))] 11 := .cons (v_iconst (v := (1 : Int32)) d_M_isHarm_10 (by decide +kernel)) .nil
theorem d_M_isHarm_11 : decode y_M_isHarm.2.1 11 = .ok (.goto (4), 3) := by decide +kernel
theorem b_M_isHarm_0 {X : aw_X} {d : Nat} {Q : Option Value → aw_H → Prop} {I : Nat → Nat → Int32} {L : Nat → Nat → Int64} {D : Nat → Nat} {v0 : Int32}
    (h1 : v0 < (1 : Int32) → Q (some (.int (0 : Int32))) (aw_s I L D))
    (h2 : ¬ v0 < (1 : Int32) → (3 : Int32) < v0 → Q (some (.int (0 : Int32))) (aw_s I L D))
    (h3 : ¬ v0 < (1 : Int32) → ¬ (3 : Int32) < v0 → Q (some (.int (1 : Int32))) (aw_s I L D)) :
    aw_z X d y_M_isHarm Q 0 [some (.int v0)] [] (aw_s I L D) :=
  (s_M_isHarm_0.go [some (.int v0)] [.int (1 : Int32), .int v0] (aw_s I L D) rfl (z_icmp_lt (tgt := 14) d_M_isHarm_2 rfl (fun q1 => (s_M_isHarm_14.go [some (.int v0)] [.int (0 : Int32)] (aw_s I L D) rfl (z_iret d_M_isHarm_15 rfl (aw_nz (by decide +kernel)) (h1 q1)))) (fun q2 => (s_M_isHarm_5.go [some (.int v0)] [.int (3 : Int32), .int v0] (aw_s I L D) rfl (z_icmp_gt (tgt := 14) d_M_isHarm_7 rfl (fun q3 => (s_M_isHarm_14.go [some (.int v0)] [.int (0 : Int32)] (aw_s I L D) rfl (z_iret d_M_isHarm_15 rfl (aw_nz (by decide +kernel)) (h2 q2 q3)))) (fun q4 => (s_M_isHarm_10.go [some (.int v0)] [.int (1 : Int32)] (aw_s I L D) rfl (z_goto (tgt := 15) d_M_isHarm_11 rfl (z_iret d_M_isHarm_15 rfl (aw_nz (by decide +kernel)) (h3 q2 q4))))))))))
/-! M_unsafe -/
theorem d_M_unsafe_0 : decode y_M_unsafe.2.1 0 = .ok (.aload_n 0, 1) := by decide +kernel
theorem d_M_unsafe_1 : decode y_M_unsafe.2.1 1 = .ok (.iconst 0, 1) := by decide +kernel
theorem d_M_unsafe_2 : decode y_M_unsafe.2.1 2 = .ok (.putfield 160, 3) := by decide +kernel
theorem d_M_unsafe_5 : decode y_M_unsafe.2.1 5 = .ok (.aload_n 0, 1) := by decide +kernel
theorem d_M_unsafe_6 : decode y_M_unsafe.2.1 6 = .ok (.getfield 127, 3) := by decide +kernel
theorem s_M_unsafe_0 : aw_VS y_M_unsafe 0 [o_ald 0, o_c (.int (0 : Int32)), o_putI 9 0, o_ald 0, o_getI 9 72] 9 := .cons (v_aload_n (i := 0) d_M_unsafe_0 rfl) (.cons (v_iconst (v := (0 : Int32)) d_M_unsafe_1 (by decide +kernel)) (.cons (v_putI (k := 0) k_M (by decide) rfl (Or.inl ⟨rfl, Or.inl w_1461⟩) d_M_unsafe_2) (.cons (v_aload_n (i := 0) d_M_unsafe_5 rfl) (.cons (v_getI (k := 72) k_M (by decide) (Or.inl rfl) (Or.inl w_1533) d_M_unsafe_6) .nil))))
theorem d_M_unsafe_9 : decode y_M_unsafe.2.1 9 = .ok (.ireturn, 1) := by decide +kernel
theorem b_M_unsafe_0 {X : aw_X} {d : Nat} {Q : Option Value → aw_H → Prop} {I : Nat → Nat → Int32} {L : Nat → Nat → Int64} {D : Nat → Nat} 
    (h1 : Q (some (.int (I 69 72))) (aw_s (aw_u I 69 0 (0 : Int32)) L D)) :
    aw_z X d y_M_unsafe Q 0 [some (.ref 69)] [] (aw_s I L D) :=
  (s_M_unsafe_0.go [some (.ref 69)] [.int (I 69 72)] (aw_s (aw_u I 69 0 (0 : Int32)) L D) rfl (z_iret d_M_unsafe_9 rfl rfl (h1)))
/-! M_rule -/
theorem d_M_rule_0 : decode y_M_rule.2.1 0 = .ok (.aload_n 0, 1) := by decide +kernel
theorem d_M_rule_1 : decode y_M_rule.2.1 1 = .ok (.iload_n 1, 1) := by decide +kernel
theorem d_M_rule_2 : decode y_M_rule.2.1 2 = .ok (.iload_n 2, 1) := by decide +kernel
theorem s_M_rule_0 : aw_VS y_M_rule 0 [o_ald 0, o_ild 1, o_ild 2] 3 := .cons (v_aload_n (i := 0) d_M_rule_0 rfl) (.cons (v_iload_n (i := 1) d_M_rule_1 rfl) (.cons (v_iload_n (i := 2) d_M_rule_2 rfl) .nil))
theorem d_M_rule_3 : decode y_M_rule.2.1 3 = .ok (.invokevirtual 411, 3) := by decide +kernel
theorem b_M_rule_0 {X : aw_X} {d : Nat} {Q : Option Value → aw_H → Prop} {I : Nat → Nat → Int32} {L : Nat → Nat → Int64} {D : Nat → Nat} {v1 : Int32} {v2 : Int32}
    (h1 : aw_m X d y_M_areTold [.ref 69, .int v1, .int v2] (aw_s I L D) (fun r A => aw_z X (d + 1) y_M_rule Q 6 [some (.ref 69), some (.int v1), some (.int v2), none, none, none] (r.toList ++ []) A)) :
    aw_z X (d + 1) y_M_rule Q 0 [some (.ref 69), some (.int v1), some (.int v2), none, none, none] [] (aw_s I L D) :=
  (s_M_rule_0.go [some (.ref 69), some (.int v1), some (.int v2), none, none, none] [.int v2, .int v1, .ref 69] (aw_s I L D) rfl (z_callV (av := [.int v1, .int v2]) (st := []) ok_M_areTold (Or.inl w_1908) w_1910 w_104 k_M d_M_rule_3 rfl (aw_lt (o := 69) rfl) rfl rfl (Nat.le_of_ble_eq_true rfl) (Nat.le_refl _) (Nat.le_refl _) (h1)))
theorem d_M_rule_6 : decode y_M_rule.2.1 6 = .ok (.ifCond .ne (6), 3) := by decide +kernel
theorem d_M_rule_12 : decode y_M_rule.2.1 12 = .ok (.iconst 0, 1) := by decide +kernel
theorem d_M_rule_13 : decode y_M_rule.2.1 13 = .ok (.istore_n 3, 1) := by decide +kernel
theorem s_M_rule_12 : aw_VS y_M_rule 12 [o_c (.int (0 : Int32)), o_ist 3] 14 := .cons (v_iconst (v := (0 : Int32)) d_M_rule_12 (by decide +kernel)) (.cons (v_istore_n d_M_rule_13) .nil)
theorem d_M_rule_9 : decode y_M_rule.2.1 9 = .ok (.bipush (-2), 2) := by decide +kernel
theorem s_M_rule_9 : aw_VS y_M_rule 9 [o_c (.int (-2 : Int32))] 11 := .cons (v_bipush (v := (-2 : Int32)) d_M_rule_9 (by decide +kernel)) .nil
theorem d_M_rule_11 : decode y_M_rule.2.1 11 = .ok (.ireturn, 1) := by decide +kernel
theorem b_M_rule_6 {X : aw_X} {d : Nat} {Q : Option Value → aw_H → Prop} {I : Nat → Nat → Int32} {L : Nat → Nat → Int64} {D : Nat → Nat} {v1 : Int32} {v2 : Int32} {s0 : Int32}
    (h1 : ¬ s0 = 0 → aw_z X (d + 1) y_M_rule Q 14 [some (.ref 69), some (.int v1), some (.int v2), some (.int (0 : Int32)), none, none] [] (aw_s I L D))
    (h2 : s0 = 0 → Q (some (.int (-2 : Int32))) (aw_s I L D)) :
    aw_z X (d + 1) y_M_rule Q 6 [some (.ref 69), some (.int v1), some (.int v2), none, none, none] [.int s0] (aw_s I L D) :=
  (z_if_ne (tgt := 12) d_M_rule_6 rfl (fun q1 => (s_M_rule_12.go [some (.ref 69), some (.int v1), some (.int v2), some (.int (0 : Int32)), none, none] [] (aw_s I L D) rfl (h1 q1))) (fun q2 => (s_M_rule_9.go [some (.ref 69), some (.int v1), some (.int v2), none, none, none] [.int (-2 : Int32)] (aw_s I L D) rfl (z_iret d_M_rule_11 rfl rfl (h2 q2)))))
theorem d_M_rule_14 : decode y_M_rule.2.1 14 = .ok (.iload_n 3, 1) := by decide +kernel
theorem d_M_rule_15 : decode y_M_rule.2.1 15 = .ok (.aload_n 0, 1) := by decide +kernel
theorem s_M_rule_14 : aw_VS y_M_rule 14 [o_ild 3, o_ald 0] 16 := .cons (v_iload_n (i := 3) d_M_rule_14 rfl) (.cons (v_aload_n (i := 0) d_M_rule_15 rfl) .nil)
theorem d_M_rule_16 : decode y_M_rule.2.1 16 = .ok (.invokevirtual 366, 3) := by decide +kernel
theorem b_M_rule_14 {X : aw_X} {d : Nat} {Q : Option Value → aw_H → Prop} {I : Nat → Nat → Int32} {L : Nat → Nat → Int64} {D : Nat → Nat} {v1 : Int32} {v2 : Int32} {v3 : Int32}
    (h1 : aw_m X d y_M_mask [.ref 69] (aw_s I L D) (fun r A => aw_z X (d + 1) y_M_rule Q 19 [some (.ref 69), some (.int v1), some (.int v2), some (.int v3), none, none] (r.toList ++ [.int v3]) A)) :
    aw_z X (d + 1) y_M_rule Q 14 [some (.ref 69), some (.int v1), some (.int v2), some (.int v3), none, none] [] (aw_s I L D) :=
  (s_M_rule_14.go [some (.ref 69), some (.int v1), some (.int v2), some (.int v3), none, none] [.ref 69, .int v3] (aw_s I L D) rfl (z_callV (av := []) (st := [.int v3]) ok_M_mask (Or.inl w_1931) w_1933 w_109 k_M d_M_rule_16 rfl (aw_lt (o := 69) rfl) rfl rfl (Nat.le_of_ble_eq_true rfl) (Nat.le_refl _) (Nat.le_refl _) (h1)))
theorem d_M_rule_19 : decode y_M_rule.2.1 19 = .ok (.if_icmp .gt (71), 3) := by decide +kernel
theorem d_M_rule_90 : decode y_M_rule.2.1 90 = .ok (.iconst (-1), 1) := by decide +kernel
theorem s_M_rule_90 : aw_VS y_M_rule 90 [o_c (.int (-1 : Int32))] 91 := .cons (v_iconst (v := (-1 : Int32)) d_M_rule_90 (by decide +kernel)) .nil
theorem d_M_rule_91 : decode y_M_rule.2.1 91 = .ok (.ireturn, 1) := by decide +kernel
theorem d_M_rule_22 : decode y_M_rule.2.1 22 = .ok (.iconst 1, 1) := by decide +kernel
theorem d_M_rule_23 : decode y_M_rule.2.1 23 = .ok (.istore 4, 2) := by decide +kernel
theorem d_M_rule_25 : decode y_M_rule.2.1 25 = .ok (.iconst 0, 1) := by decide +kernel
theorem d_M_rule_26 : decode y_M_rule.2.1 26 = .ok (.istore 5, 2) := by decide +kernel
theorem s_M_rule_22 : aw_VS y_M_rule 22 [o_c (.int (1 : Int32)), o_ist 4, o_c (.int (0 : Int32)), o_ist 5] 28 := .cons (v_iconst (v := (1 : Int32)) d_M_rule_22 (by decide +kernel)) (.cons (v_istore d_M_rule_23) (.cons (v_iconst (v := (0 : Int32)) d_M_rule_25 (by decide +kernel)) (.cons (v_istore d_M_rule_26) .nil)))
theorem b_M_rule_19 {X : aw_X} {d : Nat} {Q : Option Value → aw_H → Prop} {I : Nat → Nat → Int32} {L : Nat → Nat → Int64} {D : Nat → Nat} {v1 : Int32} {v2 : Int32} {v3 : Int32} {s1 : Int32} {s0 : Int32}
    (h1 : s1 < s0 → Q (some (.int (-1 : Int32))) (aw_s I L D))
    (h2 : ¬ s1 < s0 → aw_z X (d + 1) y_M_rule Q 28 [some (.ref 69), some (.int v1), some (.int v2), some (.int v3), some (.int (1 : Int32)), some (.int (0 : Int32))] [] (aw_s I L D)) :
    aw_z X (d + 1) y_M_rule Q 19 [some (.ref 69), some (.int v1), some (.int v2), some (.int v3), none, none] [.int s1, .int s0] (aw_s I L D) :=
  (z_icmp_gt (tgt := 90) d_M_rule_19 rfl (fun q1 => (s_M_rule_90.go [some (.ref 69), some (.int v1), some (.int v2), some (.int v3), none, none] [.int (-1 : Int32)] (aw_s I L D) rfl (z_iret d_M_rule_91 rfl rfl (h1 q1)))) (fun q2 => (s_M_rule_22.go [some (.ref 69), some (.int v1), some (.int v2), some (.int v3), some (.int (1 : Int32)), some (.int (0 : Int32))] [] (aw_s I L D) rfl (h2 q2))))
theorem d_M_rule_28 : decode y_M_rule.2.1 28 = .ok (.iload 5, 2) := by decide +kernel
theorem d_M_rule_30 : decode y_M_rule.2.1 30 = .ok (.iconst 1, 1) := by decide +kernel
theorem d_M_rule_31 : decode y_M_rule.2.1 31 = .ok (.aload_n 0, 1) := by decide +kernel
theorem d_M_rule_32 : decode y_M_rule.2.1 32 = .ok (.getfield 53, 3) := by decide +kernel
theorem d_M_rule_35 : decode y_M_rule.2.1 35 = .ok (.aload_n 0, 1) := by decide +kernel
theorem d_M_rule_36 : decode y_M_rule.2.1 36 = .ok (.getfield 57, 3) := by decide +kernel
theorem d_M_rule_39 : decode y_M_rule.2.1 39 = .ok (.imul, 1) := by decide +kernel
theorem d_M_rule_40 : decode y_M_rule.2.1 40 = .ok (.ishl, 1) := by decide +kernel
theorem s_M_rule_28 : aw_VS y_M_rule 28 [o_ild 5, o_c (.int (1 : Int32)), o_ald 0, o_getI 9 33, o_ald 0, o_getI 9 34, o_i2 (fun x z => x * z), o_i2 (fun x z => x <<< (z &&& 31))] 41 := .cons (v_iload (i := 5) d_M_rule_28) (.cons (v_iconst (v := (1 : Int32)) d_M_rule_30 (by decide +kernel)) (.cons (v_aload_n (i := 0) d_M_rule_31 rfl) (.cons (v_getI (k := 33) k_M (by decide) (Or.inl rfl) (Or.inl w_1494) d_M_rule_32) (.cons (v_aload_n (i := 0) d_M_rule_35 rfl) (.cons (v_getI (k := 34) k_M (by decide) (Or.inl rfl) (Or.inl w_1495) d_M_rule_36) (.cons (v_imul d_M_rule_39) (.cons (v_ishl d_M_rule_40) .nil)))))))
theorem d_M_rule_41 : decode y_M_rule.2.1 41 = .ok (.if_icmp .ge (36), 3) := by decide +kernel
theorem d_M_rule_44 : decode y_M_rule.2.1 44 = .ok (.iload 4, 2) := by decide +kernel
theorem s_M_rule_44 : aw_VS y_M_rule 44 [o_ild 4] 46 := .cons (v_iload (i := 4) d_M_rule_44) .nil
theorem d_M_rule_46 : decode y_M_rule.2.1 46 = .ok (.ifCond .eq (31), 3) := by decide +kernel
theorem d_M_rule_49 : decode y_M_rule.2.1 49 = .ok (.aload_n 0, 1) := by decide +kernel
theorem d_M_rule_50 : decode y_M_rule.2.1 50 = .ok (.iload_n 1, 1) := by decide +kernel
theorem d_M_rule_51 : decode y_M_rule.2.1 51 = .ok (.iload 5, 2) := by decide +kernel
theorem d_M_rule_53 : decode y_M_rule.2.1 53 = .ok (.iload_n 2, 1) := by decide +kernel
theorem d_M_rule_54 : decode y_M_rule.2.1 54 = .ok (.iload_n 3, 1) := by decide +kernel
theorem s_M_rule_49 : aw_VS y_M_rule 49 [o_ald 0, o_ild 1, o_ild 5, o_ild 2, o_ild 3] 55 := .cons (v_aload_n (i := 0) d_M_rule_49 rfl) (.cons (v_iload_n (i := 1) d_M_rule_50 rfl) (.cons (v_iload (i := 5) d_M_rule_51) (.cons (v_iload_n (i := 2) d_M_rule_53 rfl) (.cons (v_iload_n (i := 3) d_M_rule_54 rfl) .nil))))
theorem d_M_rule_55 : decode y_M_rule.2.1 55 = .ok (.invokevirtual 434, 3) := by decide +kernel
theorem b_M_rule_28 {X : aw_X} {d : Nat} {Q : Option Value → aw_H → Prop} {I : Nat → Nat → Int32} {L : Nat → Nat → Int64} {D : Nat → Nat} {v1 : Int32} {v2 : Int32} {v3 : Int32} {v4 : Int32} {v5 : Int32}
    (h1 : ((1 : Int32) <<< (((I 69 33) * (I 69 34)) &&& 31)) ≤ v5 → aw_z X (d + 1) y_M_rule Q 77 [some (.ref 69), some (.int v1), some (.int v2), some (.int v3), some (.int v4), none] [] (aw_s I L D))
    (h2 : ¬ ((1 : Int32) <<< (((I 69 33) * (I 69 34)) &&& 31)) ≤ v5 → v4 = 0 → aw_z X (d + 1) y_M_rule Q 77 [some (.ref 69), some (.int v1), some (.int v2), some (.int v3), some (.int v4), none] [] (aw_s I L D))
    (h3 : ¬ ((1 : Int32) <<< (((I 69 33) * (I 69 34)) &&& 31)) ≤ v5 → ¬ v4 = 0 → aw_m X d y_M_runs [.ref 69, .int v1, .int v5, .int v2, .int v3] (aw_s I L D) (fun r A => aw_z X (d + 1) y_M_rule Q 58 [some (.ref 69), some (.int v1), some (.int v2), some (.int v3), none, some (.int v5)] (r.toList ++ []) A)) :
    aw_z X (d + 1) y_M_rule Q 28 [some (.ref 69), some (.int v1), some (.int v2), some (.int v3), some (.int v4), some (.int v5)] [] (aw_s I L D) :=
  (s_M_rule_28.go [some (.ref 69), some (.int v1), some (.int v2), some (.int v3), some (.int v4), some (.int v5)] [.int ((1 : Int32) <<< (((I 69 33) * (I 69 34)) &&& 31)), .int v5] (aw_s I L D) rfl (z_icmp_ge (tgt := 77) d_M_rule_41 rfl (fun q1 => (aw_Z.weak (ls' := [some (.ref 69), some (.int v1), some (.int v2), some (.int v3), some (.int v4), none]) (h1 q1) (Nat.le_of_ble_eq_true rfl) ⟨Or.inr rfl, ⟨Or.inr rfl, ⟨Or.inr rfl, ⟨Or.inr rfl, ⟨Or.inr rfl, ⟨Or.inl rfl, trivial⟩⟩⟩⟩⟩⟩)) (fun q2 => (s_M_rule_44.go [some (.ref 69), some (.int v1), some (.int v2), some (.int v3), some (.int v4), some (.int v5)] [.int v4] (aw_s I L D) rfl (z_if_eq (tgt := 77) d_M_rule_46 rfl (fun q3 => (aw_Z.weak (ls' := [some (.ref 69), some (.int v1), some (.int v2), some (.int v3), some (.int v4), none]) (h2 q2 q3) (Nat.le_of_ble_eq_true rfl) ⟨Or.inr rfl, ⟨Or.inr rfl, ⟨Or.inr rfl, ⟨Or.inr rfl, ⟨Or.inr rfl, ⟨Or.inl rfl, trivial⟩⟩⟩⟩⟩⟩)) (fun q4 => (s_M_rule_49.go [some (.ref 69), some (.int v1), some (.int v2), some (.int v3), some (.int v4), some (.int v5)] [.int v3, .int v2, .int v5, .int v1, .ref 69] (aw_s I L D) rfl (z_callV (av := [.int v1, .int v5, .int v2, .int v3]) (st := []) ok_M_runs (Or.inl w_1923) w_1925 w_107 k_M d_M_rule_55 rfl (aw_lt (o := 69) rfl) rfl rfl (Nat.le_of_ble_eq_true rfl) (Nat.le_refl _) (Nat.le_refl _) (aw_C.mono (h3 q2 q4) (fun _ _ zz => aw_Z.weak (ls' := [some (.ref 69), some (.int v1), some (.int v2), some (.int v3), none, some (.int v5)]) zz (Nat.le_of_ble_eq_true rfl) ⟨Or.inr rfl, ⟨Or.inr rfl, ⟨Or.inr rfl, ⟨Or.inr rfl, ⟨Or.inl rfl, ⟨Or.inr rfl, trivial⟩⟩⟩⟩⟩⟩))))))))))
theorem d_M_rule_77 : decode y_M_rule.2.1 77 = .ok (.iload 4, 2) := by decide +kernel
theorem s_M_rule_77 : aw_VS y_M_rule 77 [o_ild 4] 79 := .cons (v_iload (i := 4) d_M_rule_77) .nil
theorem d_M_rule_79 : decode y_M_rule.2.1 79 = .ok (.ifCond .eq (5), 3) := by decide +kernel
theorem d_M_rule_84 : decode y_M_rule.2.1 84 = .ok (.iinc 3 (1), 3) := by decide +kernel
theorem s_M_rule_84 : aw_VS y_M_rule 84 [o_inc 3 (1 : Int32)] 87 := .cons (v_iinc (k0 := (1 : Int32)) d_M_rule_84 (by decide +kernel)) .nil
theorem d_M_rule_87 : decode y_M_rule.2.1 87 = .ok (.goto (-73), 3) := by decide +kernel
theorem d_M_rule_82 : decode y_M_rule.2.1 82 = .ok (.iload_n 3, 1) := by decide +kernel
theorem s_M_rule_82 : aw_VS y_M_rule 82 [o_ild 3] 83 := .cons (v_iload_n (i := 3) d_M_rule_82 rfl) .nil
theorem d_M_rule_83 : decode y_M_rule.2.1 83 = .ok (.ireturn, 1) := by decide +kernel
theorem b_M_rule_77 {X : aw_X} {d : Nat} {Q : Option Value → aw_H → Prop} {I : Nat → Nat → Int32} {L : Nat → Nat → Int64} {D : Nat → Nat} {v1 : Int32} {v2 : Int32} {v3 : Int32} {v4 : Int32}
    (h1 : v4 = 0 → aw_z X (d + 1) y_M_rule Q 14 [some (.ref 69), some (.int v1), some (.int v2), some (.int (v3 + (1 : Int32))), none, none] [] (aw_s I L D))
    (h2 : ¬ v4 = 0 → Q (some (.int v3)) (aw_s I L D)) :
    aw_z X (d + 1) y_M_rule Q 77 [some (.ref 69), some (.int v1), some (.int v2), some (.int v3), some (.int v4), none] [] (aw_s I L D) :=
  (s_M_rule_77.go [some (.ref 69), some (.int v1), some (.int v2), some (.int v3), some (.int v4), none] [.int v4] (aw_s I L D) rfl (z_if_eq (tgt := 84) d_M_rule_79 rfl (fun q1 => (s_M_rule_84.go [some (.ref 69), some (.int v1), some (.int v2), some (.int (v3 + (1 : Int32))), some (.int v4), none] [] (aw_s I L D) rfl (z_goto (tgt := 14) d_M_rule_87 rfl (aw_Z.weak (ls' := [some (.ref 69), some (.int v1), some (.int v2), some (.int (v3 + (1 : Int32))), none, none]) (h1 q1) (Nat.le_of_ble_eq_true rfl) ⟨Or.inr rfl, ⟨Or.inr rfl, ⟨Or.inr rfl, ⟨Or.inr rfl, ⟨Or.inl rfl, ⟨Or.inl rfl, trivial⟩⟩⟩⟩⟩⟩)))) (fun q2 => (s_M_rule_82.go [some (.ref 69), some (.int v1), some (.int v2), some (.int v3), some (.int v4), none] [.int v3] (aw_s I L D) rfl (z_iret d_M_rule_83 rfl rfl (h2 q2))))))
theorem d_M_rule_58 : decode y_M_rule.2.1 58 = .ok (.invokestatic 470, 3) := by decide +kernel
theorem b_M_rule_58 {X : aw_X} {d : Nat} {Q : Option Value → aw_H → Prop} {I : Nat → Nat → Int32} {L : Nat → Nat → Int64} {D : Nat → Nat} {v1 : Int32} {v2 : Int32} {v3 : Int32} {v5 : Int32} {s0 : Int32}
    (h1 : aw_m X d y_M_isHarm [.int s0] (aw_s I L D) (fun r A => aw_z X (d + 1) y_M_rule Q 61 [some (.ref 69), some (.int v1), some (.int v2), some (.int v3), none, some (.int v5)] (r.toList ++ []) A)) :
    aw_z X (d + 1) y_M_rule Q 58 [some (.ref 69), some (.int v1), some (.int v2), some (.int v3), none, some (.int v5)] [.int s0] (aw_s I L D) :=
  (z_callS (av := [.int s0]) (st := []) ok_M_isHarm (Or.inl w_2051) w_2052 d_M_rule_58 rfl rfl (Nat.le_of_ble_eq_true rfl) (Nat.le_refl _) (Nat.le_refl _) (h1))
theorem d_M_rule_61 : decode y_M_rule.2.1 61 = .ok (.ifCond .ne (7), 3) := by decide +kernel
theorem d_M_rule_68 : decode y_M_rule.2.1 68 = .ok (.iconst 0, 1) := by decide +kernel
theorem s_M_rule_68 : aw_VS y_M_rule 68 [o_c (.int (0 : Int32))] 69 := .cons (v_iconst (v := (0 : Int32)) d_M_rule_68 (by decide +kernel)) .nil
theorem d_M_rule_69 : decode y_M_rule.2.1 69 = .ok (.istore 4, 2) := by decide +kernel
theorem d_M_rule_71 : decode y_M_rule.2.1 71 = .ok (.iinc 5 (1), 3) := by decide +kernel
theorem s_M_rule_69 : aw_VS y_M_rule 69 [o_ist 4, o_inc 5 (1 : Int32)] 74 := .cons (v_istore d_M_rule_69) (.cons (v_iinc (k0 := (1 : Int32)) d_M_rule_71 (by decide +kernel)) .nil)
theorem d_M_rule_74 : decode y_M_rule.2.1 74 = .ok (.goto (-46), 3) := by decide +kernel
theorem d_M_rule_64 : decode y_M_rule.2.1 64 = .ok (.iconst 1, 1) := by decide +kernel
theorem s_M_rule_64 : aw_VS y_M_rule 64 [o_c (.int (1 : Int32))] 65 := .cons (v_iconst (v := (1 : Int32)) d_M_rule_64 (by decide +kernel)) .nil
theorem d_M_rule_65 : decode y_M_rule.2.1 65 = .ok (.goto (4), 3) := by decide +kernel
theorem b_M_rule_61 {X : aw_X} {d : Nat} {Q : Option Value → aw_H → Prop} {I : Nat → Nat → Int32} {L : Nat → Nat → Int64} {D : Nat → Nat} {v1 : Int32} {v2 : Int32} {v3 : Int32} {v5 : Int32} {s0 : Int32}
    (h1 : ¬ s0 = 0 → aw_z X (d + 1) y_M_rule Q 28 [some (.ref 69), some (.int v1), some (.int v2), some (.int v3), some (.int (0 : Int32)), some (.int (v5 + (1 : Int32)))] [] (aw_s I L D))
    (h2 : s0 = 0 → aw_z X (d + 1) y_M_rule Q 28 [some (.ref 69), some (.int v1), some (.int v2), some (.int v3), some (.int (1 : Int32)), some (.int (v5 + (1 : Int32)))] [] (aw_s I L D)) :
    aw_z X (d + 1) y_M_rule Q 61 [some (.ref 69), some (.int v1), some (.int v2), some (.int v3), none, some (.int v5)] [.int s0] (aw_s I L D) :=
  (z_if_ne (tgt := 68) d_M_rule_61 rfl (fun q1 => (s_M_rule_68.go [some (.ref 69), some (.int v1), some (.int v2), some (.int v3), none, some (.int v5)] [.int (0 : Int32)] (aw_s I L D) rfl (s_M_rule_69.go [some (.ref 69), some (.int v1), some (.int v2), some (.int v3), some (.int (0 : Int32)), some (.int (v5 + (1 : Int32)))] [] (aw_s I L D) rfl (z_goto (tgt := 28) d_M_rule_74 rfl (h1 q1))))) (fun q2 => (s_M_rule_64.go [some (.ref 69), some (.int v1), some (.int v2), some (.int v3), none, some (.int v5)] [.int (1 : Int32)] (aw_s I L D) rfl (z_goto (tgt := 69) d_M_rule_65 rfl (s_M_rule_69.go [some (.ref 69), some (.int v1), some (.int v2), some (.int v3), some (.int (1 : Int32)), some (.int (v5 + (1 : Int32)))] [] (aw_s I L D) rfl (z_goto (tgt := 28) d_M_rule_74 rfl (h2 q2)))))))
/-! M_mend -/
theorem d_M_mend_0 : decode y_M_mend.2.1 0 = .ok (.aload_n 0, 1) := by decide +kernel
theorem d_M_mend_1 : decode y_M_mend.2.1 1 = .ok (.iload_n 1, 1) := by decide +kernel
theorem d_M_mend_2 : decode y_M_mend.2.1 2 = .ok (.iload_n 2, 1) := by decide +kernel
theorem s_M_mend_0 : aw_VS y_M_mend 0 [o_ald 0, o_ild 1, o_ild 2] 3 := .cons (v_aload_n (i := 0) d_M_mend_0 rfl) (.cons (v_iload_n (i := 1) d_M_mend_1 rfl) (.cons (v_iload_n (i := 2) d_M_mend_2 rfl) .nil))
theorem d_M_mend_3 : decode y_M_mend.2.1 3 = .ok (.invokevirtual 411, 3) := by decide +kernel
theorem b_M_mend_0 {X : aw_X} {d : Nat} {Q : Option Value → aw_H → Prop} {I : Nat → Nat → Int32} {L : Nat → Nat → Int64} {D : Nat → Nat} {v1 : Int32} {v2 : Int32}
    (h1 : aw_m X d y_M_areTold [.ref 69, .int v1, .int v2] (aw_s I L D) (fun r A => aw_z X (d + 1) y_M_mend Q 6 [some (.ref 69), some (.int v1), some (.int v2), none, none, none, none] (r.toList ++ []) A)) :
    aw_z X (d + 1) y_M_mend Q 0 [some (.ref 69), some (.int v1), some (.int v2), none, none, none, none] [] (aw_s I L D) :=
  (s_M_mend_0.go [some (.ref 69), some (.int v1), some (.int v2), none, none, none, none] [.int v2, .int v1, .ref 69] (aw_s I L D) rfl (z_callV (av := [.int v1, .int v2]) (st := []) ok_M_areTold (Or.inl w_1908) w_1910 w_104 k_M d_M_mend_3 rfl (aw_lt (o := 69) rfl) rfl rfl (Nat.le_of_ble_eq_true rfl) (Nat.le_refl _) (Nat.le_refl _) (h1)))
theorem d_M_mend_6 : decode y_M_mend.2.1 6 = .ok (.ifCond .eq (10), 3) := by decide +kernel
theorem d_M_mend_16 : decode y_M_mend.2.1 16 = .ok (.bipush (-2), 2) := by decide +kernel
theorem s_M_mend_16 : aw_VS y_M_mend 16 [o_c (.int (-2 : Int32))] 18 := .cons (v_bipush (v := (-2 : Int32)) d_M_mend_16 (by decide +kernel)) .nil
theorem d_M_mend_18 : decode y_M_mend.2.1 18 = .ok (.ireturn, 1) := by decide +kernel
theorem d_M_mend_9 : decode y_M_mend.2.1 9 = .ok (.aload_n 0, 1) := by decide +kernel
theorem s_M_mend_9 : aw_VS y_M_mend 9 [o_ald 0] 10 := .cons (v_aload_n (i := 0) d_M_mend_9 rfl) .nil
theorem d_M_mend_10 : decode y_M_mend.2.1 10 = .ok (.invokevirtual 473, 3) := by decide +kernel
theorem b_M_mend_6 {X : aw_X} {d : Nat} {Q : Option Value → aw_H → Prop} {I : Nat → Nat → Int32} {L : Nat → Nat → Int64} {D : Nat → Nat} {v1 : Int32} {v2 : Int32} {s0 : Int32}
    (h1 : s0 = 0 → Q (some (.int (-2 : Int32))) (aw_s I L D))
    (h2 : ¬ s0 = 0 → aw_m X d y_M_isSmall [.ref 69] (aw_s I L D) (fun r A => aw_z X (d + 1) y_M_mend Q 13 [some (.ref 69), some (.int v1), some (.int v2), none, none, none, none] (r.toList ++ []) A)) :
    aw_z X (d + 1) y_M_mend Q 6 [some (.ref 69), some (.int v1), some (.int v2), none, none, none, none] [.int s0] (aw_s I L D) :=
  (z_if_eq (tgt := 16) d_M_mend_6 rfl (fun q1 => (s_M_mend_16.go [some (.ref 69), some (.int v1), some (.int v2), none, none, none, none] [.int (-2 : Int32)] (aw_s I L D) rfl (z_iret d_M_mend_18 rfl rfl (h1 q1)))) (fun q2 => (s_M_mend_9.go [some (.ref 69), some (.int v1), some (.int v2), none, none, none, none] [.ref 69] (aw_s I L D) rfl (z_callV (av := []) (st := []) ok_M_isSmall (Or.inl w_2066) w_2068 w_124 k_M d_M_mend_10 rfl (aw_lt (o := 69) rfl) rfl rfl (Nat.le_of_ble_eq_true rfl) (Nat.le_refl _) (Nat.le_refl _) (h2 q2)))))
theorem d_M_mend_13 : decode y_M_mend.2.1 13 = .ok (.ifCond .ne (6), 3) := by decide +kernel
theorem d_M_mend_19 : decode y_M_mend.2.1 19 = .ok (.aload_n 0, 1) := by decide +kernel
theorem d_M_mend_20 : decode y_M_mend.2.1 20 = .ok (.iload_n 1, 1) := by decide +kernel
theorem d_M_mend_21 : decode y_M_mend.2.1 21 = .ok (.iload_n 2, 1) := by decide +kernel
theorem s_M_mend_19 : aw_VS y_M_mend 19 [o_ald 0, o_ild 1, o_ild 2] 22 := .cons (v_aload_n (i := 0) d_M_mend_19 rfl) (.cons (v_iload_n (i := 1) d_M_mend_20 rfl) (.cons (v_iload_n (i := 2) d_M_mend_21 rfl) .nil))
theorem d_M_mend_22 : decode y_M_mend.2.1 22 = .ok (.invokevirtual 476, 3) := by decide +kernel
theorem b_M_mend_13 {X : aw_X} {d : Nat} {Q : Option Value → aw_H → Prop} {I : Nat → Nat → Int32} {L : Nat → Nat → Int64} {D : Nat → Nat} {v1 : Int32} {v2 : Int32} {s0 : Int32}
    (h1 : ¬ s0 = 0 → aw_m X d y_M_isHarmless [.ref 69, .int v1, .int v2] (aw_s I L D) (fun r A => aw_z X (d + 1) y_M_mend Q 25 [some (.ref 69), some (.int v1), some (.int v2), none, none, none, none] (r.toList ++ []) A))
    (h2 : s0 = 0 → Q (some (.int (-2 : Int32))) (aw_s I L D)) :
    aw_z X (d + 1) y_M_mend Q 13 [some (.ref 69), some (.int v1), some (.int v2), none, none, none, none] [.int s0] (aw_s I L D) :=
  (z_if_ne (tgt := 19) d_M_mend_13 rfl (fun q1 => (s_M_mend_19.go [some (.ref 69), some (.int v1), some (.int v2), none, none, none, none] [.int v2, .int v1, .ref 69] (aw_s I L D) rfl (z_callV (av := [.int v1, .int v2]) (st := []) ok_M_isHarmless (Or.inl w_2070) w_2072 w_125 k_M d_M_mend_22 rfl (aw_lt (o := 69) rfl) rfl rfl (Nat.le_of_ble_eq_true rfl) (Nat.le_refl _) (Nat.le_refl _) (h1 q1)))) (fun q2 => (s_M_mend_16.go [some (.ref 69), some (.int v1), some (.int v2), none, none, none, none] [.int (-2 : Int32)] (aw_s I L D) rfl (z_iret d_M_mend_18 rfl rfl (h2 q2)))))
theorem d_M_mend_25 : decode y_M_mend.2.1 25 = .ok (.ifCond .eq (5), 3) := by decide +kernel
theorem d_M_mend_30 : decode y_M_mend.2.1 30 = .ok (.aload_n 0, 1) := by decide +kernel
theorem d_M_mend_31 : decode y_M_mend.2.1 31 = .ok (.iload_n 1, 1) := by decide +kernel
theorem d_M_mend_32 : decode y_M_mend.2.1 32 = .ok (.iconst 5, 1) := by decide +kernel
theorem s_M_mend_30 : aw_VS y_M_mend 30 [o_ald 0, o_ild 1, o_c (.int (5 : Int32))] 33 := .cons (v_aload_n (i := 0) d_M_mend_30 rfl) (.cons (v_iload_n (i := 1) d_M_mend_31 rfl) (.cons (v_iconst (v := (5 : Int32)) d_M_mend_32 (by decide +kernel)) .nil))
theorem d_M_mend_33 : decode y_M_mend.2.1 33 = .ok (.invokevirtual 353, 3) := by decide +kernel
theorem d_M_mend_28 : decode y_M_mend.2.1 28 = .ok (.iconst (-1), 1) := by decide +kernel
theorem s_M_mend_28 : aw_VS y_M_mend 28 [o_c (.int (-1 : Int32))] 29 := .cons (v_iconst (v := (-1 : Int32)) d_M_mend_28 (by decide +kernel)) .nil
theorem d_M_mend_29 : decode y_M_mend.2.1 29 = .ok (.ireturn, 1) := by decide +kernel
theorem b_M_mend_25 {X : aw_X} {d : Nat} {Q : Option Value → aw_H → Prop} {I : Nat → Nat → Int32} {L : Nat → Nat → Int64} {D : Nat → Nat} {v1 : Int32} {v2 : Int32} {s0 : Int32}
    (h1 : s0 = 0 → aw_m X d y_M_copy [.ref 69, .int v1, .int (5 : Int32)] (aw_s I L D) (fun r A => aw_z X (d + 1) y_M_mend Q 36 [some (.ref 69), none, some (.int v2), none, none, none, none] (r.toList ++ []) A))
    (h2 : ¬ s0 = 0 → Q (some (.int (-1 : Int32))) (aw_s I L D)) :
    aw_z X (d + 1) y_M_mend Q 25 [some (.ref 69), some (.int v1), some (.int v2), none, none, none, none] [.int s0] (aw_s I L D) :=
  (z_if_eq (tgt := 30) d_M_mend_25 rfl (fun q1 => (s_M_mend_30.go [some (.ref 69), some (.int v1), some (.int v2), none, none, none, none] [.int (5 : Int32), .int v1, .ref 69] (aw_s I L D) rfl (z_callV (av := [.int v1, .int (5 : Int32)]) (st := []) ok_M_copy (Or.inl w_1892) w_1894 w_103 k_M d_M_mend_33 rfl (aw_lt (o := 69) rfl) rfl rfl (Nat.le_of_ble_eq_true rfl) (Nat.le_refl _) (Nat.le_refl _) (aw_C.mono (h1 q1) (fun _ _ zz => aw_Z.weak (ls' := [some (.ref 69), none, some (.int v2), none, none, none, none]) zz (Nat.le_of_ble_eq_true rfl) ⟨Or.inr rfl, ⟨Or.inl rfl, ⟨Or.inr rfl, ⟨Or.inl rfl, ⟨Or.inl rfl, ⟨Or.inl rfl, ⟨Or.inl rfl, trivial⟩⟩⟩⟩⟩⟩⟩))))) (fun q2 => (s_M_mend_28.go [some (.ref 69), some (.int v1), some (.int v2), none, none, none, none] [.int (-1 : Int32)] (aw_s I L D) rfl (z_iret d_M_mend_29 rfl rfl (h2 q2)))))
theorem d_M_mend_36 : decode y_M_mend.2.1 36 = .ok (.iconst 0, 1) := by decide +kernel
theorem d_M_mend_37 : decode y_M_mend.2.1 37 = .ok (.istore_n 3, 1) := by decide +kernel
theorem s_M_mend_36 : aw_VS y_M_mend 36 [o_c (.int (0 : Int32)), o_ist 3] 38 := .cons (v_iconst (v := (0 : Int32)) d_M_mend_36 (by decide +kernel)) (.cons (v_istore_n d_M_mend_37) .nil)
theorem b_M_mend_36 {X : aw_X} {d : Nat} {Q : Option Value → aw_H → Prop} {I : Nat → Nat → Int32} {L : Nat → Nat → Int64} {D : Nat → Nat} {v2 : Int32}
    (h1 : aw_z X (d + 1) y_M_mend Q 38 [some (.ref 69), none, some (.int v2), some (.int (0 : Int32)), none, none, none] [] (aw_s I L D)) :
    aw_z X (d + 1) y_M_mend Q 36 [some (.ref 69), none, some (.int v2), none, none, none, none] [] (aw_s I L D) :=
  (s_M_mend_36.go [some (.ref 69), none, some (.int v2), some (.int (0 : Int32)), none, none, none] [] (aw_s I L D) rfl (h1))
theorem d_M_mend_38 : decode y_M_mend.2.1 38 = .ok (.iload_n 3, 1) := by decide +kernel
theorem d_M_mend_39 : decode y_M_mend.2.1 39 = .ok (.bipush 20, 2) := by decide +kernel
theorem s_M_mend_38 : aw_VS y_M_mend 38 [o_ild 3, o_c (.int (20 : Int32))] 41 := .cons (v_iload_n (i := 3) d_M_mend_38 rfl) (.cons (v_bipush (v := (20 : Int32)) d_M_mend_39 (by decide +kernel)) .nil)
theorem d_M_mend_41 : decode y_M_mend.2.1 41 = .ok (.if_icmp .ge (99), 3) := by decide +kernel
theorem d_M_mend_140 : decode y_M_mend.2.1 140 = .ok (.iconst (-1), 1) := by decide +kernel
theorem s_M_mend_140 : aw_VS y_M_mend 140 [o_c (.int (-1 : Int32))] 141 := .cons (v_iconst (v := (-1 : Int32)) d_M_mend_140 (by decide +kernel)) .nil
theorem d_M_mend_141 : decode y_M_mend.2.1 141 = .ok (.ireturn, 1) := by decide +kernel
theorem d_M_mend_44 : decode y_M_mend.2.1 44 = .ok (.iload_n 3, 1) := by decide +kernel
theorem d_M_mend_45 : decode y_M_mend.2.1 45 = .ok (.aload_n 0, 1) := by decide +kernel
theorem d_M_mend_46 : decode y_M_mend.2.1 46 = .ok (.getfield 28, 3) := by decide +kernel
theorem d_M_mend_49 : decode y_M_mend.2.1 49 = .ok (.iconst 5, 1) := by decide +kernel
theorem s_M_mend_44 : aw_VS y_M_mend 44 [o_ild 3, o_ald 0, o_getA 9 17, o_c (.int (5 : Int32))] 50 := .cons (v_iload_n (i := 3) d_M_mend_44 rfl) (.cons (v_aload_n (i := 0) d_M_mend_45 rfl) (.cons (v_getA (k := 17) k_M (by decide) rfl (Or.inl w_1478) d_M_mend_46) (.cons (v_iconst (v := (5 : Int32)) d_M_mend_49 (by decide +kernel)) .nil)))
theorem d_M_mend_50 : decode y_M_mend.2.1 50 = .ok (.iaload, 1) := by decide +kernel
theorem d_M_mend_51 : decode y_M_mend.2.1 51 = .ok (.if_icmp .ge (89), 3) := by decide +kernel
theorem d_M_mend_54 : decode y_M_mend.2.1 54 = .ok (.sipush 4000, 3) := by decide +kernel
theorem d_M_mend_57 : decode y_M_mend.2.1 57 = .ok (.aload_n 0, 1) := by decide +kernel
theorem d_M_mend_58 : decode y_M_mend.2.1 58 = .ok (.getfield 35, 3) := by decide +kernel
theorem d_M_mend_61 : decode y_M_mend.2.1 61 = .ok (.bipush 100, 2) := by decide +kernel
theorem d_M_mend_63 : decode y_M_mend.2.1 63 = .ok (.iload_n 3, 1) := by decide +kernel
theorem d_M_mend_64 : decode y_M_mend.2.1 64 = .ok (.iadd, 1) := by decide +kernel
theorem s_M_mend_54 : aw_VS y_M_mend 54 [o_c (.int (4000 : Int32)), o_ald 0, o_getA 9 19, o_c (.int (100 : Int32)), o_ild 3, o_i2 (fun x z => x + z)] 65 := .cons (v_sipush (v := (4000 : Int32)) d_M_mend_54 (by decide +kernel)) (.cons (v_aload_n (i := 0) d_M_mend_57 rfl) (.cons (v_getA (k := 19) k_M (by decide) rfl (Or.inl w_1480) d_M_mend_58) (.cons (v_bipush (v := (100 : Int32)) d_M_mend_61 (by decide +kernel)) (.cons (v_iload_n (i := 3) d_M_mend_63 rfl) (.cons (v_iadd d_M_mend_64) .nil)))))
theorem d_M_mend_65 : decode y_M_mend.2.1 65 = .ok (.iaload, 1) := by decide +kernel
theorem d_M_mend_66 : decode y_M_mend.2.1 66 = .ok (.iadd, 1) := by decide +kernel
theorem d_M_mend_67 : decode y_M_mend.2.1 67 = .ok (.istore 4, 2) := by decide +kernel
theorem d_M_mend_69 : decode y_M_mend.2.1 69 = .ok (.aload_n 0, 1) := by decide +kernel
theorem d_M_mend_70 : decode y_M_mend.2.1 70 = .ok (.getfield 16, 3) := by decide +kernel
theorem d_M_mend_73 : decode y_M_mend.2.1 73 = .ok (.iload 4, 2) := by decide +kernel
theorem s_M_mend_66 : aw_VS y_M_mend 66 [o_i2 (fun x z => x + z), o_ist 4, o_ald 0, o_getA 9 13, o_ild 4] 75 := .cons (v_iadd d_M_mend_66) (.cons (v_istore d_M_mend_67) (.cons (v_aload_n (i := 0) d_M_mend_69 rfl) (.cons (v_getA (k := 13) k_M (by decide) rfl (Or.inl w_1474) d_M_mend_70) (.cons (v_iload (i := 4) d_M_mend_73) .nil))))
theorem d_M_mend_75 : decode y_M_mend.2.1 75 = .ok (.iaload, 1) := by decide +kernel
theorem d_M_mend_76 : decode y_M_mend.2.1 76 = .ok (.istore 5, 2) := by decide +kernel
theorem d_M_mend_78 : decode y_M_mend.2.1 78 = .ok (.iconst 0, 1) := by decide +kernel
theorem d_M_mend_79 : decode y_M_mend.2.1 79 = .ok (.istore 6, 2) := by decide +kernel
theorem s_M_mend_76 : aw_VS y_M_mend 76 [o_ist 5, o_c (.int (0 : Int32)), o_ist 6] 81 := .cons (v_istore d_M_mend_76) (.cons (v_iconst (v := (0 : Int32)) d_M_mend_78 (by decide +kernel)) (.cons (v_istore d_M_mend_79) .nil))
theorem b_M_mend_38 {X : aw_X} {d : Nat} {Q : Option Value → aw_H → Prop} {I : Nat → Nat → Int32} {L : Nat → Nat → Int64} {D : Nat → Nat} {v2 : Int32} {v3 : Int32}
    (h1 : (20 : Int32) ≤ v3 → Q (some (.int (-1 : Int32))) (aw_s I L D))
    (h2 : ¬ (20 : Int32) ≤ v3 → (I 76 5) ≤ v3 → Q (some (.int (-1 : Int32))) (aw_s I L D))
    (h3 : ¬ (20 : Int32) ≤ v3 → ¬ (I 76 5) ≤ v3 → vp_in ((100 : Int32) + v3) 140)
    (h4 : ¬ (20 : Int32) ≤ v3 → ¬ (I 76 5) ≤ v3 → vp_in ((4000 : Int32) + (I 78 (((100 : Int32) + v3).toNatClampNeg))) 5600)
    (h5 : ¬ (20 : Int32) ≤ v3 → ¬ (I 76 5) ≤ v3 → aw_z X (d + 1) y_M_mend Q 81 [some (.ref 69), none, some (.int v2), some (.int v3), some (.int ((4000 : Int32) + (I 78 (((100 : Int32) + v3).toNatClampNeg)))), some (.int (I 72 (((4000 : Int32) + (I 78 (((100 : Int32) + v3).toNatClampNeg))).toNatClampNeg))), some (.int (0 : Int32))] [] (aw_s I L D)) :
    aw_z X (d + 1) y_M_mend Q 38 [some (.ref 69), none, some (.int v2), some (.int v3), none, none, none] [] (aw_s I L D) :=
  (s_M_mend_38.go [some (.ref 69), none, some (.int v2), some (.int v3), none, none, none] [.int (20 : Int32), .int v3] (aw_s I L D) rfl (z_icmp_ge (tgt := 140) d_M_mend_41 rfl (fun q1 => (s_M_mend_140.go [some (.ref 69), none, some (.int v2), some (.int v3), none, none, none] [.int (-1 : Int32)] (aw_s I L D) rfl (z_iret d_M_mend_141 rfl rfl (h1 q1)))) (fun q2 => (s_M_mend_44.go [some (.ref 69), none, some (.int v2), some (.int v3), none, none, none] [.int (5 : Int32), .ref 76, .int v3] (aw_s I L D) rfl (z_iald (n := 7) rfl (aw_lt (o := 76) rfl) (aw_lin (by decide +kernel) (by decide +kernel)) d_M_mend_50 (z_icmp_ge (tgt := 140) d_M_mend_51 rfl (fun q3 => (s_M_mend_140.go [some (.ref 69), none, some (.int v2), some (.int v3), none, none, none] [.int (-1 : Int32)] (aw_s I L D) rfl (z_iret d_M_mend_141 rfl rfl (h2 q2 q3)))) (fun q4 => (s_M_mend_54.go [some (.ref 69), none, some (.int v2), some (.int v3), none, none, none] [.int ((100 : Int32) + v3), .ref 78, .int (4000 : Int32)] (aw_s I L D) rfl (z_iald (n := 140) rfl (aw_lt (o := 78) rfl) (h3 q2 q4) d_M_mend_65 (s_M_mend_66.go [some (.ref 69), none, some (.int v2), some (.int v3), some (.int ((4000 : Int32) + (I 78 (((100 : Int32) + v3).toNatClampNeg)))), none, none] [.int ((4000 : Int32) + (I 78 (((100 : Int32) + v3).toNatClampNeg))), .ref 72] (aw_s I L D) rfl (z_iald (n := 5600) rfl (aw_lt (o := 72) rfl) (h4 q2 q4) d_M_mend_75 (s_M_mend_76.go [some (.ref 69), none, some (.int v2), some (.int v3), some (.int ((4000 : Int32) + (I 78 (((100 : Int32) + v3).toNatClampNeg)))), some (.int (I 72 (((4000 : Int32) + (I 78 (((100 : Int32) + v3).toNatClampNeg))).toNatClampNeg))), some (.int (0 : Int32))] [] (aw_s I L D) rfl (h5 q2 q4)))))))))))))
theorem d_M_mend_81 : decode y_M_mend.2.1 81 = .ok (.iload 6, 2) := by decide +kernel
theorem d_M_mend_83 : decode y_M_mend.2.1 83 = .ok (.aload_n 0, 1) := by decide +kernel
theorem s_M_mend_81 : aw_VS y_M_mend 81 [o_ild 6, o_ald 0] 84 := .cons (v_iload (i := 6) d_M_mend_81) (.cons (v_aload_n (i := 0) d_M_mend_83 rfl) .nil)
theorem d_M_mend_84 : decode y_M_mend.2.1 84 = .ok (.invokevirtual 366, 3) := by decide +kernel
theorem b_M_mend_81 {X : aw_X} {d : Nat} {Q : Option Value → aw_H → Prop} {I : Nat → Nat → Int32} {L : Nat → Nat → Int64} {D : Nat → Nat} {v2 : Int32} {v3 : Int32} {v4 : Int32} {v5 : Int32} {v6 : Int32}
    (h1 : aw_m X d y_M_mask [.ref 69] (aw_s I L D) (fun r A => aw_z X (d + 1) y_M_mend Q 87 [some (.ref 69), none, some (.int v2), some (.int v3), some (.int v4), some (.int v5), some (.int v6)] (r.toList ++ [.int v6]) A)) :
    aw_z X (d + 1) y_M_mend Q 81 [some (.ref 69), none, some (.int v2), some (.int v3), some (.int v4), some (.int v5), some (.int v6)] [] (aw_s I L D) :=
  (s_M_mend_81.go [some (.ref 69), none, some (.int v2), some (.int v3), some (.int v4), some (.int v5), some (.int v6)] [.ref 69, .int v6] (aw_s I L D) rfl (z_callV (av := []) (st := [.int v6]) ok_M_mask (Or.inl w_1931) w_1933 w_109 k_M d_M_mend_84 rfl (aw_lt (o := 69) rfl) rfl rfl (Nat.le_of_ble_eq_true rfl) (Nat.le_refl _) (Nat.le_refl _) (h1)))
theorem d_M_mend_87 : decode y_M_mend.2.1 87 = .ok (.if_icmp .gt (38), 3) := by decide +kernel
theorem d_M_mend_125 : decode y_M_mend.2.1 125 = .ok (.aload_n 0, 1) := by decide +kernel
theorem d_M_mend_126 : decode y_M_mend.2.1 126 = .ok (.getfield 16, 3) := by decide +kernel
theorem d_M_mend_129 : decode y_M_mend.2.1 129 = .ok (.iload 4, 2) := by decide +kernel
theorem d_M_mend_131 : decode y_M_mend.2.1 131 = .ok (.iload 5, 2) := by decide +kernel
theorem s_M_mend_125 : aw_VS y_M_mend 125 [o_ald 0, o_getA 9 13, o_ild 4, o_ild 5] 133 := .cons (v_aload_n (i := 0) d_M_mend_125 rfl) (.cons (v_getA (k := 13) k_M (by decide) rfl (Or.inl w_1474) d_M_mend_126) (.cons (v_iload (i := 4) d_M_mend_129) (.cons (v_iload (i := 5) d_M_mend_131) .nil)))
theorem d_M_mend_133 : decode y_M_mend.2.1 133 = .ok (.iastore, 1) := by decide +kernel
theorem d_M_mend_134 : decode y_M_mend.2.1 134 = .ok (.iinc 3 (1), 3) := by decide +kernel
theorem s_M_mend_134 : aw_VS y_M_mend 134 [o_inc 3 (1 : Int32)] 137 := .cons (v_iinc (k0 := (1 : Int32)) d_M_mend_134 (by decide +kernel)) .nil
theorem d_M_mend_137 : decode y_M_mend.2.1 137 = .ok (.goto (-99), 3) := by decide +kernel
theorem d_M_mend_90 : decode y_M_mend.2.1 90 = .ok (.aload_n 0, 1) := by decide +kernel
theorem d_M_mend_91 : decode y_M_mend.2.1 91 = .ok (.getfield 16, 3) := by decide +kernel
theorem d_M_mend_94 : decode y_M_mend.2.1 94 = .ok (.iload 4, 2) := by decide +kernel
theorem d_M_mend_96 : decode y_M_mend.2.1 96 = .ok (.iload 6, 2) := by decide +kernel
theorem s_M_mend_90 : aw_VS y_M_mend 90 [o_ald 0, o_getA 9 13, o_ild 4, o_ild 6] 98 := .cons (v_aload_n (i := 0) d_M_mend_90 rfl) (.cons (v_getA (k := 13) k_M (by decide) rfl (Or.inl w_1474) d_M_mend_91) (.cons (v_iload (i := 4) d_M_mend_94) (.cons (v_iload (i := 6) d_M_mend_96) .nil)))
theorem d_M_mend_98 : decode y_M_mend.2.1 98 = .ok (.iastore, 1) := by decide +kernel
theorem d_M_mend_99 : decode y_M_mend.2.1 99 = .ok (.aload_n 0, 1) := by decide +kernel
theorem d_M_mend_100 : decode y_M_mend.2.1 100 = .ok (.iconst 5, 1) := by decide +kernel
theorem d_M_mend_101 : decode y_M_mend.2.1 101 = .ok (.iload_n 2, 1) := by decide +kernel
theorem s_M_mend_99 : aw_VS y_M_mend 99 [o_ald 0, o_c (.int (5 : Int32)), o_ild 2] 102 := .cons (v_aload_n (i := 0) d_M_mend_99 rfl) (.cons (v_iconst (v := (5 : Int32)) d_M_mend_100 (by decide +kernel)) (.cons (v_iload_n (i := 2) d_M_mend_101 rfl) .nil))
theorem d_M_mend_102 : decode y_M_mend.2.1 102 = .ok (.invokevirtual 476, 3) := by decide +kernel
theorem b_M_mend_87 {X : aw_X} {d : Nat} {Q : Option Value → aw_H → Prop} {I : Nat → Nat → Int32} {L : Nat → Nat → Int64} {D : Nat → Nat} {v2 : Int32} {v3 : Int32} {v4 : Int32} {v5 : Int32} {v6 : Int32} {s1 : Int32} {s0 : Int32}
    (h1 : s1 < s0 → vp_in v4 5600)
    (h2 : s1 < s0 → aw_z X (d + 1) y_M_mend Q 38 [some (.ref 69), none, some (.int v2), some (.int (v3 + (1 : Int32))), none, none, none] [] (aw_s (aw_u I 72 v4.toNatClampNeg v5) L D))
    (h3 : ¬ s1 < s0 → vp_in v4 5600)
    (h4 : ¬ s1 < s0 → aw_m X d y_M_isHarmless [.ref 69, .int (5 : Int32), .int v2] (aw_s (aw_u I 72 v4.toNatClampNeg v6) L D) (fun r A => aw_z X (d + 1) y_M_mend Q 105 [some (.ref 69), none, some (.int v2), some (.int v3), some (.int v4), some (.int v5), some (.int v6)] (r.toList ++ []) A)) :
    aw_z X (d + 1) y_M_mend Q 87 [some (.ref 69), none, some (.int v2), some (.int v3), some (.int v4), some (.int v5), some (.int v6)] [.int s1, .int s0] (aw_s I L D) :=
  (z_icmp_gt (tgt := 125) d_M_mend_87 rfl (fun q1 => (s_M_mend_125.go [some (.ref 69), none, some (.int v2), some (.int v3), some (.int v4), some (.int v5), some (.int v6)] [.int v5, .int v4, .ref 72] (aw_s I L D) rfl (z_iast (n := 5600) rfl (aw_lt (o := 72) rfl) (h1 q1) d_M_mend_133 (s_M_mend_134.go [some (.ref 69), none, some (.int v2), some (.int (v3 + (1 : Int32))), some (.int v4), some (.int v5), some (.int v6)] [] (aw_s (aw_u I 72 v4.toNatClampNeg v5) L D) rfl (z_goto (tgt := 38) d_M_mend_137 rfl (aw_Z.weak (ls' := [some (.ref 69), none, some (.int v2), some (.int (v3 + (1 : Int32))), none, none, none]) (h2 q1) (Nat.le_of_ble_eq_true rfl) ⟨Or.inr rfl, ⟨Or.inl rfl, ⟨Or.inr rfl, ⟨Or.inr rfl, ⟨Or.inl rfl, ⟨Or.inl rfl, ⟨Or.inl rfl, trivial⟩⟩⟩⟩⟩⟩⟩)))))) (fun q2 => (s_M_mend_90.go [some (.ref 69), none, some (.int v2), some (.int v3), some (.int v4), some (.int v5), some (.int v6)] [.int v6, .int v4, .ref 72] (aw_s I L D) rfl (z_iast (n := 5600) rfl (aw_lt (o := 72) rfl) (h3 q2) d_M_mend_98 (s_M_mend_99.go [some (.ref 69), none, some (.int v2), some (.int v3), some (.int v4), some (.int v5), some (.int v6)] [.int v2, .int (5 : Int32), .ref 69] (aw_s (aw_u I 72 v4.toNatClampNeg v6) L D) rfl (z_callV (av := [.int (5 : Int32), .int v2]) (st := []) ok_M_isHarmless (Or.inl w_2070) w_2072 w_125 k_M d_M_mend_102 rfl (aw_lt (o := 69) rfl) rfl rfl (Nat.le_of_ble_eq_true rfl) (Nat.le_refl _) (Nat.le_refl _) (h4 q2)))))))
theorem d_M_mend_105 : decode y_M_mend.2.1 105 = .ok (.ifCond .ne (6), 3) := by decide +kernel
theorem d_M_mend_111 : decode y_M_mend.2.1 111 = .ok (.aload_n 0, 1) := by decide +kernel
theorem d_M_mend_112 : decode y_M_mend.2.1 112 = .ok (.iload 6, 2) := by decide +kernel
theorem d_M_mend_114 : decode y_M_mend.2.1 114 = .ok (.putfield 130, 3) := by decide +kernel
theorem d_M_mend_117 : decode y_M_mend.2.1 117 = .ok (.iload_n 3, 1) := by decide +kernel
theorem s_M_mend_111 : aw_VS y_M_mend 111 [o_ald 0, o_ild 6, o_putI 9 73, o_ild 3] 118 := .cons (v_aload_n (i := 0) d_M_mend_111 rfl) (.cons (v_iload (i := 6) d_M_mend_112) (.cons (v_putI (k := 73) k_M (by decide) rfl (Or.inl ⟨rfl, Or.inl w_1534⟩) d_M_mend_114) (.cons (v_iload_n (i := 3) d_M_mend_117 rfl) .nil)))
theorem d_M_mend_118 : decode y_M_mend.2.1 118 = .ok (.ireturn, 1) := by decide +kernel
theorem d_M_mend_108 : decode y_M_mend.2.1 108 = .ok (.goto (11), 3) := by decide +kernel
theorem d_M_mend_119 : decode y_M_mend.2.1 119 = .ok (.iinc 6 (1), 3) := by decide +kernel
theorem s_M_mend_119 : aw_VS y_M_mend 119 [o_inc 6 (1 : Int32)] 122 := .cons (v_iinc (k0 := (1 : Int32)) d_M_mend_119 (by decide +kernel)) .nil
theorem d_M_mend_122 : decode y_M_mend.2.1 122 = .ok (.goto (-41), 3) := by decide +kernel
theorem b_M_mend_105 {X : aw_X} {d : Nat} {Q : Option Value → aw_H → Prop} {I : Nat → Nat → Int32} {L : Nat → Nat → Int64} {D : Nat → Nat} {v2 : Int32} {v3 : Int32} {v4 : Int32} {v5 : Int32} {v6 : Int32} {s0 : Int32}
    (h1 : ¬ s0 = 0 → Q (some (.int v3)) (aw_s (aw_u I 69 73 v6) L D))
    (h2 : s0 = 0 → aw_z X (d + 1) y_M_mend Q 81 [some (.ref 69), none, some (.int v2), some (.int v3), some (.int v4), some (.int v5), some (.int (v6 + (1 : Int32)))] [] (aw_s I L D)) :
    aw_z X (d + 1) y_M_mend Q 105 [some (.ref 69), none, some (.int v2), some (.int v3), some (.int v4), some (.int v5), some (.int v6)] [.int s0] (aw_s I L D) :=
  (z_if_ne (tgt := 111) d_M_mend_105 rfl (fun q1 => (s_M_mend_111.go [some (.ref 69), none, some (.int v2), some (.int v3), some (.int v4), some (.int v5), some (.int v6)] [.int v3] (aw_s (aw_u I 69 73 v6) L D) rfl (z_iret d_M_mend_118 rfl rfl (h1 q1)))) (fun q2 => (z_goto (tgt := 119) d_M_mend_108 rfl (s_M_mend_119.go [some (.ref 69), none, some (.int v2), some (.int v3), some (.int v4), some (.int v5), some (.int (v6 + (1 : Int32)))] [] (aw_s I L D) rfl (z_goto (tgt := 81) d_M_mend_122 rfl (h2 q2))))))
/-! M_isSmall -/
theorem d_M_isSmall_0 : decode y_M_isSmall.2.1 0 = .ok (.aload_n 0, 1) := by decide +kernel
theorem d_M_isSmall_1 : decode y_M_isSmall.2.1 1 = .ok (.getfield 53, 3) := by decide +kernel
theorem d_M_isSmall_4 : decode y_M_isSmall.2.1 4 = .ok (.aload_n 0, 1) := by decide +kernel
theorem d_M_isSmall_5 : decode y_M_isSmall.2.1 5 = .ok (.getfield 57, 3) := by decide +kernel
theorem d_M_isSmall_8 : decode y_M_isSmall.2.1 8 = .ok (.aload_n 0, 1) := by decide +kernel
theorem d_M_isSmall_9 : decode y_M_isSmall.2.1 9 = .ok (.getfield 360, 3) := by decide +kernel
theorem d_M_isSmall_12 : decode y_M_isSmall.2.1 12 = .ok (.iadd, 1) := by decide +kernel
theorem d_M_isSmall_13 : decode y_M_isSmall.2.1 13 = .ok (.imul, 1) := by decide +kernel
theorem d_M_isSmall_14 : decode y_M_isSmall.2.1 14 = .ok (.bipush 8, 2) := by decide +kernel
theorem s_M_isSmall_0 : aw_VS y_M_isSmall 0 [o_ald 0, o_getI 9 33, o_ald 0, o_getI 9 34, o_ald 0, o_getI 9 35, o_i2 (fun x z => x + z), o_i2 (fun x z => x * z), o_c (.int (8 : Int32))] 16 := .cons (v_aload_n (i := 0) d_M_isSmall_0 rfl) (.cons (v_getI (k := 33) k_M (by decide) (Or.inl rfl) (Or.inl w_1494) d_M_isSmall_1) (.cons (v_aload_n (i := 0) d_M_isSmall_4 rfl) (.cons (v_getI (k := 34) k_M (by decide) (Or.inl rfl) (Or.inl w_1495) d_M_isSmall_5) (.cons (v_aload_n (i := 0) d_M_isSmall_8 rfl) (.cons (v_getI (k := 35) k_M (by decide) (Or.inl rfl) (Or.inl w_1496) d_M_isSmall_9) (.cons (v_iadd d_M_isSmall_12) (.cons (v_imul d_M_isSmall_13) (.cons (v_bipush (v := (8 : Int32)) d_M_isSmall_14 (by decide +kernel)) .nil))))))))
theorem d_M_isSmall_16 : decode y_M_isSmall.2.1 16 = .ok (.if_icmp .gt (7), 3) := by decide +kernel
theorem d_M_isSmall_23 : decode y_M_isSmall.2.1 23 = .ok (.iconst 0, 1) := by decide +kernel
theorem s_M_isSmall_23 : aw_VS y_M_isSmall 23 [o_c (.int (0 : Int32))] 24 := .cons (v_iconst (v := (0 : Int32)) d_M_isSmall_23 (by decide +kernel)) .nil
theorem d_M_isSmall_24 : decode y_M_isSmall.2.1 24 = .ok (.ireturn, 1) := by decide +kernel
theorem d_M_isSmall_19 : decode y_M_isSmall.2.1 19 = .ok (.iconst 1, 1) := by decide +kernel
theorem s_M_isSmall_19 : aw_VS y_M_isSmall 19 [o_c (.int (1 : Int32))] 20 := .cons (v_iconst (v := (1 : Int32)) d_M_isSmall_19 (by decide +kernel)) .nil
theorem d_M_isSmall_20 : decode y_M_isSmall.2.1 20 = .ok (.goto (4), 3) := by decide +kernel
theorem b_M_isSmall_0 {X : aw_X} {d : Nat} {Q : Option Value → aw_H → Prop} {I : Nat → Nat → Int32} {L : Nat → Nat → Int64} {D : Nat → Nat} 
    (h1 : (8 : Int32) < ((I 69 33) * ((I 69 34) + (I 69 35))) → Q (some (.int (0 : Int32))) (aw_s I L D))
    (h2 : ¬ (8 : Int32) < ((I 69 33) * ((I 69 34) + (I 69 35))) → Q (some (.int (1 : Int32))) (aw_s I L D)) :
    aw_z X d y_M_isSmall Q 0 [some (.ref 69)] [] (aw_s I L D) :=
  (s_M_isSmall_0.go [some (.ref 69)] [.int (8 : Int32), .int ((I 69 33) * ((I 69 34) + (I 69 35)))] (aw_s I L D) rfl (z_icmp_gt (tgt := 23) d_M_isSmall_16 rfl (fun q1 => (s_M_isSmall_23.go [some (.ref 69)] [.int (0 : Int32)] (aw_s I L D) rfl (z_iret d_M_isSmall_24 rfl (aw_nz (by decide +kernel)) (h1 q1)))) (fun q2 => (s_M_isSmall_19.go [some (.ref 69)] [.int (1 : Int32)] (aw_s I L D) rfl (z_goto (tgt := 24) d_M_isSmall_20 rfl (z_iret d_M_isSmall_24 rfl (aw_nz (by decide +kernel)) (h2 q2)))))))
/-! M_isHarmless -/
theorem d_M_isHarmless_0 : decode y_M_isHarmless.2.1 0 = .ok (.iconst 0, 1) := by decide +kernel
theorem d_M_isHarmless_1 : decode y_M_isHarmless.2.1 1 = .ok (.istore_n 3, 1) := by decide +kernel
theorem s_M_isHarmless_0 : aw_VS y_M_isHarmless 0 [o_c (.int (0 : Int32)), o_ist 3] 2 := .cons (v_iconst (v := (0 : Int32)) d_M_isHarmless_0 (by decide +kernel)) (.cons (v_istore_n d_M_isHarmless_1) .nil)
theorem b_M_isHarmless_0 {X : aw_X} {d : Nat} {Q : Option Value → aw_H → Prop} {I : Nat → Nat → Int32} {L : Nat → Nat → Int64} {D : Nat → Nat} {v1 : Int32} {v2 : Int32}
    (h1 : aw_z X (d + 1) y_M_isHarmless Q 2 [some (.ref 69), some (.int v1), some (.int v2), some (.int (0 : Int32))] [] (aw_s I L D)) :
    aw_z X (d + 1) y_M_isHarmless Q 0 [some (.ref 69), some (.int v1), some (.int v2), none] [] (aw_s I L D) :=
  (s_M_isHarmless_0.go [some (.ref 69), some (.int v1), some (.int v2), some (.int (0 : Int32))] [] (aw_s I L D) rfl (h1))
theorem d_M_isHarmless_2 : decode y_M_isHarmless.2.1 2 = .ok (.iload_n 3, 1) := by decide +kernel
theorem d_M_isHarmless_3 : decode y_M_isHarmless.2.1 3 = .ok (.aload_n 0, 1) := by decide +kernel
theorem s_M_isHarmless_2 : aw_VS y_M_isHarmless 2 [o_ild 3, o_ald 0] 4 := .cons (v_iload_n (i := 3) d_M_isHarmless_2 rfl) (.cons (v_aload_n (i := 0) d_M_isHarmless_3 rfl) .nil)
theorem d_M_isHarmless_4 : decode y_M_isHarmless.2.1 4 = .ok (.invokevirtual 423, 3) := by decide +kernel
theorem b_M_isHarmless_2 {X : aw_X} {d : Nat} {Q : Option Value → aw_H → Prop} {I : Nat → Nat → Int32} {L : Nat → Nat → Int64} {D : Nat → Nat} {v1 : Int32} {v2 : Int32} {v3 : Int32}
    (h1 : aw_m X d y_M_rows [.ref 69] (aw_s I L D) (fun r A => aw_z X (d + 1) y_M_isHarmless Q 7 [some (.ref 69), some (.int v1), some (.int v2), some (.int v3)] (r.toList ++ [.int v3]) A)) :
    aw_z X (d + 1) y_M_isHarmless Q 2 [some (.ref 69), some (.int v1), some (.int v2), some (.int v3)] [] (aw_s I L D) :=
  (s_M_isHarmless_2.go [some (.ref 69), some (.int v1), some (.int v2), some (.int v3)] [.ref 69, .int v3] (aw_s I L D) rfl (z_callV (av := []) (st := [.int v3]) ok_M_rows (Or.inl w_1915) w_1917 w_105 k_M d_M_isHarmless_4 rfl (aw_lt (o := 69) rfl) rfl rfl (Nat.le_of_ble_eq_true rfl) (Nat.le_refl _) (Nat.le_refl _) (h1)))
theorem d_M_isHarmless_7 : decode y_M_isHarmless.2.1 7 = .ok (.if_icmp .ge (25), 3) := by decide +kernel
theorem d_M_isHarmless_32 : decode y_M_isHarmless.2.1 32 = .ok (.iconst 1, 1) := by decide +kernel
theorem s_M_isHarmless_32 : aw_VS y_M_isHarmless 32 [o_c (.int (1 : Int32))] 33 := .cons (v_iconst (v := (1 : Int32)) d_M_isHarmless_32 (by decide +kernel)) .nil
theorem d_M_isHarmless_33 : decode y_M_isHarmless.2.1 33 = .ok (.ireturn, 1) := by decide +kernel
theorem d_M_isHarmless_10 : decode y_M_isHarmless.2.1 10 = .ok (.aload_n 0, 1) := by decide +kernel
theorem d_M_isHarmless_11 : decode y_M_isHarmless.2.1 11 = .ok (.iload_n 1, 1) := by decide +kernel
theorem d_M_isHarmless_12 : decode y_M_isHarmless.2.1 12 = .ok (.iload_n 3, 1) := by decide +kernel
theorem d_M_isHarmless_13 : decode y_M_isHarmless.2.1 13 = .ok (.iload_n 2, 1) := by decide +kernel
theorem d_M_isHarmless_14 : decode y_M_isHarmless.2.1 14 = .ok (.iconst (-1), 1) := by decide +kernel
theorem s_M_isHarmless_10 : aw_VS y_M_isHarmless 10 [o_ald 0, o_ild 1, o_ild 3, o_ild 2, o_c (.int (-1 : Int32))] 15 := .cons (v_aload_n (i := 0) d_M_isHarmless_10 rfl) (.cons (v_iload_n (i := 1) d_M_isHarmless_11 rfl) (.cons (v_iload_n (i := 3) d_M_isHarmless_12 rfl) (.cons (v_iload_n (i := 2) d_M_isHarmless_13 rfl) (.cons (v_iconst (v := (-1 : Int32)) d_M_isHarmless_14 (by decide +kernel)) .nil))))
theorem d_M_isHarmless_15 : decode y_M_isHarmless.2.1 15 = .ok (.invokevirtual 434, 3) := by decide +kernel
theorem b_M_isHarmless_7 {X : aw_X} {d : Nat} {Q : Option Value → aw_H → Prop} {I : Nat → Nat → Int32} {L : Nat → Nat → Int64} {D : Nat → Nat} {v1 : Int32} {v2 : Int32} {v3 : Int32} {s1 : Int32} {s0 : Int32}
    (h1 : s1 ≤ s0 → Q (some (.int (1 : Int32))) (aw_s I L D))
    (h2 : ¬ s1 ≤ s0 → aw_m X d y_M_runs [.ref 69, .int v1, .int v3, .int v2, .int (-1 : Int32)] (aw_s I L D) (fun r A => aw_z X (d + 1) y_M_isHarmless Q 18 [some (.ref 69), some (.int v1), some (.int v2), some (.int v3)] (r.toList ++ []) A)) :
    aw_z X (d + 1) y_M_isHarmless Q 7 [some (.ref 69), some (.int v1), some (.int v2), some (.int v3)] [.int s1, .int s0] (aw_s I L D) :=
  (z_icmp_ge (tgt := 32) d_M_isHarmless_7 rfl (fun q1 => (s_M_isHarmless_32.go [some (.ref 69), some (.int v1), some (.int v2), some (.int v3)] [.int (1 : Int32)] (aw_s I L D) rfl (z_iret d_M_isHarmless_33 rfl (aw_nz (by decide +kernel)) (h1 q1)))) (fun q2 => (s_M_isHarmless_10.go [some (.ref 69), some (.int v1), some (.int v2), some (.int v3)] [.int (-1 : Int32), .int v2, .int v3, .int v1, .ref 69] (aw_s I L D) rfl (z_callV (av := [.int v1, .int v3, .int v2, .int (-1 : Int32)]) (st := []) ok_M_runs (Or.inl w_1923) w_1925 w_107 k_M d_M_isHarmless_15 rfl (aw_lt (o := 69) rfl) rfl rfl (Nat.le_of_ble_eq_true rfl) (Nat.le_refl _) (Nat.le_refl _) (h2 q2)))))
theorem d_M_isHarmless_18 : decode y_M_isHarmless.2.1 18 = .ok (.invokestatic 470, 3) := by decide +kernel
theorem b_M_isHarmless_18 {X : aw_X} {d : Nat} {Q : Option Value → aw_H → Prop} {I : Nat → Nat → Int32} {L : Nat → Nat → Int64} {D : Nat → Nat} {v1 : Int32} {v2 : Int32} {v3 : Int32} {s0 : Int32}
    (h1 : aw_m X d y_M_isHarm [.int s0] (aw_s I L D) (fun r A => aw_z X (d + 1) y_M_isHarmless Q 21 [some (.ref 69), some (.int v1), some (.int v2), some (.int v3)] (r.toList ++ []) A)) :
    aw_z X (d + 1) y_M_isHarmless Q 18 [some (.ref 69), some (.int v1), some (.int v2), some (.int v3)] [.int s0] (aw_s I L D) :=
  (z_callS (av := [.int s0]) (st := []) ok_M_isHarm (Or.inl w_2051) w_2052 d_M_isHarmless_18 rfl rfl (Nat.le_of_ble_eq_true rfl) (Nat.le_refl _) (Nat.le_refl _) (h1))
theorem d_M_isHarmless_21 : decode y_M_isHarmless.2.1 21 = .ok (.ifCond .eq (5), 3) := by decide +kernel
theorem d_M_isHarmless_26 : decode y_M_isHarmless.2.1 26 = .ok (.iinc 3 (1), 3) := by decide +kernel
theorem s_M_isHarmless_26 : aw_VS y_M_isHarmless 26 [o_inc 3 (1 : Int32)] 29 := .cons (v_iinc (k0 := (1 : Int32)) d_M_isHarmless_26 (by decide +kernel)) .nil
theorem d_M_isHarmless_29 : decode y_M_isHarmless.2.1 29 = .ok (.goto (-27), 3) := by decide +kernel
theorem d_M_isHarmless_24 : decode y_M_isHarmless.2.1 24 = .ok (.iconst 0, 1) := by decide +kernel
theorem s_M_isHarmless_24 : aw_VS y_M_isHarmless 24 [o_c (.int (0 : Int32))] 25 := .cons (v_iconst (v := (0 : Int32)) d_M_isHarmless_24 (by decide +kernel)) .nil
theorem d_M_isHarmless_25 : decode y_M_isHarmless.2.1 25 = .ok (.ireturn, 1) := by decide +kernel
theorem b_M_isHarmless_21 {X : aw_X} {d : Nat} {Q : Option Value → aw_H → Prop} {I : Nat → Nat → Int32} {L : Nat → Nat → Int64} {D : Nat → Nat} {v1 : Int32} {v2 : Int32} {v3 : Int32} {s0 : Int32}
    (h1 : s0 = 0 → aw_z X (d + 1) y_M_isHarmless Q 2 [some (.ref 69), some (.int v1), some (.int v2), some (.int (v3 + (1 : Int32)))] [] (aw_s I L D))
    (h2 : ¬ s0 = 0 → Q (some (.int (0 : Int32))) (aw_s I L D)) :
    aw_z X (d + 1) y_M_isHarmless Q 21 [some (.ref 69), some (.int v1), some (.int v2), some (.int v3)] [.int s0] (aw_s I L D) :=
  (z_if_eq (tgt := 26) d_M_isHarmless_21 rfl (fun q1 => (s_M_isHarmless_26.go [some (.ref 69), some (.int v1), some (.int v2), some (.int (v3 + (1 : Int32)))] [] (aw_s I L D) rfl (z_goto (tgt := 2) d_M_isHarmless_29 rfl (h1 q1)))) (fun q2 => (s_M_isHarmless_24.go [some (.ref 69), some (.int v1), some (.int v2), some (.int v3)] [.int (0 : Int32)] (aw_s I L D) rfl (z_iret d_M_isHarmless_25 rfl (aw_nz (by decide +kernel)) (h2 q2)))))
/-! M_mended -/
theorem d_M_mended_0 : decode y_M_mended.2.1 0 = .ok (.aload_n 0, 1) := by decide +kernel
theorem d_M_mended_1 : decode y_M_mended.2.1 1 = .ok (.iconst 0, 1) := by decide +kernel
theorem d_M_mended_2 : decode y_M_mended.2.1 2 = .ok (.putfield 160, 3) := by decide +kernel
theorem d_M_mended_5 : decode y_M_mended.2.1 5 = .ok (.aload_n 0, 1) := by decide +kernel
theorem d_M_mended_6 : decode y_M_mended.2.1 6 = .ok (.getfield 130, 3) := by decide +kernel
theorem s_M_mended_0 : aw_VS y_M_mended 0 [o_ald 0, o_c (.int (0 : Int32)), o_putI 9 0, o_ald 0, o_getI 9 73] 9 := .cons (v_aload_n (i := 0) d_M_mended_0 rfl) (.cons (v_iconst (v := (0 : Int32)) d_M_mended_1 (by decide +kernel)) (.cons (v_putI (k := 0) k_M (by decide) rfl (Or.inl ⟨rfl, Or.inl w_1461⟩) d_M_mended_2) (.cons (v_aload_n (i := 0) d_M_mended_5 rfl) (.cons (v_getI (k := 73) k_M (by decide) (Or.inl rfl) (Or.inl w_1534) d_M_mended_6) .nil))))
theorem d_M_mended_9 : decode y_M_mended.2.1 9 = .ok (.ireturn, 1) := by decide +kernel
theorem b_M_mended_0 {X : aw_X} {d : Nat} {Q : Option Value → aw_H → Prop} {I : Nat → Nat → Int32} {L : Nat → Nat → Int64} {D : Nat → Nat} 
    (h1 : Q (some (.int (I 69 73))) (aw_s (aw_u I 69 0 (0 : Int32)) L D)) :
    aw_z X d y_M_mended Q 0 [some (.ref 69)] [] (aw_s I L D) :=
  (s_M_mended_0.go [some (.ref 69)] [.int (I 69 73)] (aw_s (aw_u I 69 0 (0 : Int32)) L D) rfl (z_iret d_M_mended_9 rfl rfl (h1)))
/-! M_claim -/
theorem d_M_claim_0 : decode y_M_claim.2.1 0 = .ok (.aload_n 0, 1) := by decide +kernel
theorem d_M_claim_1 : decode y_M_claim.2.1 1 = .ok (.iconst 0, 1) := by decide +kernel
theorem d_M_claim_2 : decode y_M_claim.2.1 2 = .ok (.putfield 160, 3) := by decide +kernel
theorem d_M_claim_5 : decode y_M_claim.2.1 5 = .ok (.aload_n 0, 1) := by decide +kernel
theorem d_M_claim_6 : decode y_M_claim.2.1 6 = .ok (.aload_n 0, 1) := by decide +kernel
theorem s_M_claim_0 : aw_VS y_M_claim 0 [o_ald 0, o_c (.int (0 : Int32)), o_putI 9 0, o_ald 0, o_ald 0] 7 := .cons (v_aload_n (i := 0) d_M_claim_0 rfl) (.cons (v_iconst (v := (0 : Int32)) d_M_claim_1 (by decide +kernel)) (.cons (v_putI (k := 0) k_M (by decide) rfl (Or.inl ⟨rfl, Or.inl w_1461⟩) d_M_claim_2) (.cons (v_aload_n (i := 0) d_M_claim_5 rfl) (.cons (v_aload_n (i := 0) d_M_claim_6 rfl) .nil))))
theorem d_M_claim_7 : decode y_M_claim.2.1 7 = .ok (.invokevirtual 340, 3) := by decide +kernel
theorem b_M_claim_0 {X : aw_X} {d : Nat} {Q : Option Value → aw_H → Prop} {I : Nat → Nat → Int32} {L : Nat → Nat → Int64} {D : Nat → Nat} 
    (h1 : aw_m X d y_M_take [.ref 69] (aw_s (aw_u I 69 0 (0 : Int32)) L D) (fun r A => aw_z X (d + 1) y_M_claim Q 10 [some (.ref 69), none, none, none] (r.toList ++ [.ref 69]) A)) :
    aw_z X (d + 1) y_M_claim Q 0 [some (.ref 69), none, none, none] [] (aw_s I L D) :=
  (s_M_claim_0.go [some (.ref 69), none, none, none] [.ref 69, .ref 69] (aw_s (aw_u I 69 0 (0 : Int32)) L D) rfl (z_callV (av := []) (st := [.ref 69]) ok_M_take (Or.inl w_1741) w_1743 w_71 k_M d_M_claim_7 rfl (aw_lt (o := 69) rfl) rfl rfl (Nat.le_of_ble_eq_true rfl) (Nat.le_refl _) (Nat.le_refl _) (h1)))
theorem d_M_claim_10 : decode y_M_claim.2.1 10 = .ok (.putfield 170, 3) := by decide +kernel
theorem d_M_claim_13 : decode y_M_claim.2.1 13 = .ok (.aload_n 0, 1) := by decide +kernel
theorem s_M_claim_10 : aw_VS y_M_claim 10 [o_putI 9 3, o_ald 0] 14 := .cons (v_putI (k := 3) k_M (by decide) rfl (Or.inl ⟨rfl, Or.inl w_1464⟩) d_M_claim_10) (.cons (v_aload_n (i := 0) d_M_claim_13 rfl) .nil)
theorem d_M_claim_14 : decode y_M_claim.2.1 14 = .ok (.invokevirtual 347, 3) := by decide +kernel
theorem b_M_claim_10 {X : aw_X} {d : Nat} {Q : Option Value → aw_H → Prop} {I : Nat → Nat → Int32} {L : Nat → Nat → Int64} {D : Nat → Nat} {s1 : Int32}
    (h1 : aw_m X d y_M_layEmpty [.ref 69] (aw_s (aw_u I 69 3 s1) L D) (fun r A => aw_z X (d + 1) y_M_claim Q 17 [some (.ref 69), none, none, none] (r.toList ++ []) A)) :
    aw_z X (d + 1) y_M_claim Q 10 [some (.ref 69), none, none, none] [.int s1, .ref 69] (aw_s I L D) :=
  (s_M_claim_10.go [some (.ref 69), none, none, none] [.ref 69] (aw_s (aw_u I 69 3 s1) L D) rfl (z_callV (av := []) (st := []) ok_M_layEmpty (Or.inl w_1748) w_1750 w_72 k_M d_M_claim_14 rfl (aw_lt (o := 69) rfl) rfl rfl (Nat.le_of_ble_eq_true rfl) (Nat.le_refl _) (Nat.le_refl _) (h1)))
theorem d_M_claim_17 : decode y_M_claim.2.1 17 = .ok (.aload_n 0, 1) := by decide +kernel
theorem d_M_claim_18 : decode y_M_claim.2.1 18 = .ok (.iconst 5, 1) := by decide +kernel
theorem s_M_claim_17 : aw_VS y_M_claim 17 [o_ald 0, o_c (.int (5 : Int32))] 19 := .cons (v_aload_n (i := 0) d_M_claim_17 rfl) (.cons (v_iconst (v := (5 : Int32)) d_M_claim_18 (by decide +kernel)) .nil)
theorem d_M_claim_19 : decode y_M_claim.2.1 19 = .ok (.invokevirtual 328, 3) := by decide +kernel
theorem b_M_claim_17 {X : aw_X} {d : Nat} {Q : Option Value → aw_H → Prop} {I : Nat → Nat → Int32} {L : Nat → Nat → Int64} {D : Nat → Nat} 
    (h1 : aw_m X d y_M_begin [.ref 69, .int (5 : Int32)] (aw_s I L D) (fun r A => aw_z X (d + 1) y_M_claim Q 22 [some (.ref 69), none, none, none] (r.toList ++ []) A)) :
    aw_z X (d + 1) y_M_claim Q 17 [some (.ref 69), none, none, none] [] (aw_s I L D) :=
  (s_M_claim_17.go [some (.ref 69), none, none, none] [.int (5 : Int32), .ref 69] (aw_s I L D) rfl (z_callV (av := [.int (5 : Int32)]) (st := []) ok_M_begin (Or.inl w_1756) w_1758 w_74 k_M d_M_claim_19 rfl (aw_lt (o := 69) rfl) rfl rfl (Nat.le_of_ble_eq_true rfl) (Nat.le_refl _) (Nat.le_refl _) (h1)))
theorem d_M_claim_22 : decode y_M_claim.2.1 22 = .ok (.iconst 0, 1) := by decide +kernel
theorem d_M_claim_23 : decode y_M_claim.2.1 23 = .ok (.istore_n 1, 1) := by decide +kernel
theorem d_M_claim_24 : decode y_M_claim.2.1 24 = .ok (.iconst 1, 1) := by decide +kernel
theorem d_M_claim_25 : decode y_M_claim.2.1 25 = .ok (.istore_n 2, 1) := by decide +kernel
theorem s_M_claim_22 : aw_VS y_M_claim 22 [o_c (.int (0 : Int32)), o_ist 1, o_c (.int (1 : Int32)), o_ist 2] 26 := .cons (v_iconst (v := (0 : Int32)) d_M_claim_22 (by decide +kernel)) (.cons (v_istore_n d_M_claim_23) (.cons (v_iconst (v := (1 : Int32)) d_M_claim_24 (by decide +kernel)) (.cons (v_istore_n d_M_claim_25) .nil)))
theorem b_M_claim_22 {X : aw_X} {d : Nat} {Q : Option Value → aw_H → Prop} {I : Nat → Nat → Int32} {L : Nat → Nat → Int64} {D : Nat → Nat} 
    (h1 : aw_z X (d + 1) y_M_claim Q 26 [some (.ref 69), some (.int (0 : Int32)), some (.int (1 : Int32)), none] [] (aw_s I L D)) :
    aw_z X (d + 1) y_M_claim Q 22 [some (.ref 69), none, none, none] [] (aw_s I L D) :=
  (s_M_claim_22.go [some (.ref 69), some (.int (0 : Int32)), some (.int (1 : Int32)), none] [] (aw_s I L D) rfl (h1))
theorem d_M_claim_26 : decode y_M_claim.2.1 26 = .ok (.iload_n 2, 1) := by decide +kernel
theorem s_M_claim_26 : aw_VS y_M_claim 26 [o_ild 2] 27 := .cons (v_iload_n (i := 2) d_M_claim_26 rfl) .nil
theorem d_M_claim_27 : decode y_M_claim.2.1 27 = .ok (.ifCond .eq (83), 3) := by decide +kernel
theorem d_M_claim_110 : decode y_M_claim.2.1 110 = .ok (.aload_n 0, 1) := by decide +kernel
theorem d_M_claim_111 : decode y_M_claim.2.1 111 = .ok (.getfield 179, 3) := by decide +kernel
theorem s_M_claim_110 : aw_VS y_M_claim 110 [o_ald 0, o_getI 9 6] 114 := .cons (v_aload_n (i := 0) d_M_claim_110 rfl) (.cons (v_getI (k := 6) k_M (by decide) (Or.inl rfl) (Or.inl w_1467) d_M_claim_111) .nil)
theorem d_M_claim_114 : decode y_M_claim.2.1 114 = .ok (.ifCond .eq (16), 3) := by decide +kernel
theorem d_M_claim_130 : decode y_M_claim.2.1 130 = .ok (.aload_n 0, 1) := by decide +kernel
theorem d_M_claim_131 : decode y_M_claim.2.1 131 = .ok (.getfield 19, 3) := by decide +kernel
theorem d_M_claim_134 : decode y_M_claim.2.1 134 = .ok (.iconst 5, 1) := by decide +kernel
theorem d_M_claim_135 : decode y_M_claim.2.1 135 = .ok (.aload_n 0, 1) := by decide +kernel
theorem d_M_claim_136 : decode y_M_claim.2.1 136 = .ok (.getfield 228, 3) := by decide +kernel
theorem s_M_claim_130 : aw_VS y_M_claim 130 [o_ald 0, o_getA 9 14, o_c (.int (5 : Int32)), o_ald 0, o_getI 9 30] 139 := .cons (v_aload_n (i := 0) d_M_claim_130 rfl) (.cons (v_getA (k := 14) k_M (by decide) rfl (Or.inl w_1475) d_M_claim_131) (.cons (v_iconst (v := (5 : Int32)) d_M_claim_134 (by decide +kernel)) (.cons (v_aload_n (i := 0) d_M_claim_135 rfl) (.cons (v_getI (k := 30) k_M (by decide) (Or.inl rfl) (Or.inl w_1491) d_M_claim_136) .nil))))
theorem d_M_claim_139 : decode y_M_claim.2.1 139 = .ok (.iastore, 1) := by decide +kernel
theorem d_M_claim_140 : decode y_M_claim.2.1 140 = .ok (.aload_n 0, 1) := by decide +kernel
theorem d_M_claim_141 : decode y_M_claim.2.1 141 = .ok (.iconst 5, 1) := by decide +kernel
theorem d_M_claim_142 : decode y_M_claim.2.1 142 = .ok (.bipush 6, 2) := by decide +kernel
theorem s_M_claim_140 : aw_VS y_M_claim 140 [o_ald 0, o_c (.int (5 : Int32)), o_c (.int (6 : Int32))] 144 := .cons (v_aload_n (i := 0) d_M_claim_140 rfl) (.cons (v_iconst (v := (5 : Int32)) d_M_claim_141 (by decide +kernel)) (.cons (v_bipush (v := (6 : Int32)) d_M_claim_142 (by decide +kernel)) .nil))
theorem d_M_claim_144 : decode y_M_claim.2.1 144 = .ok (.invokevirtual 353, 3) := by decide +kernel
theorem d_M_claim_117 : decode y_M_claim.2.1 117 = .ok (.aload_n 0, 1) := by decide +kernel
theorem d_M_claim_118 : decode y_M_claim.2.1 118 = .ok (.iconst 1, 1) := by decide +kernel
theorem s_M_claim_117 : aw_VS y_M_claim 117 [o_ald 0, o_c (.int (1 : Int32))] 119 := .cons (v_aload_n (i := 0) d_M_claim_117 rfl) (.cons (v_iconst (v := (1 : Int32)) d_M_claim_118 (by decide +kernel)) .nil)
theorem d_M_claim_119 : decode y_M_claim.2.1 119 = .ok (.invokevirtual 219, 3) := by decide +kernel
theorem d_M_claim_30 : decode y_M_claim.2.1 30 = .ok (.iload_n 1, 1) := by decide +kernel
theorem d_M_claim_31 : decode y_M_claim.2.1 31 = .ok (.bipush 20, 2) := by decide +kernel
theorem s_M_claim_30 : aw_VS y_M_claim 30 [o_ild 1, o_c (.int (20 : Int32))] 33 := .cons (v_iload_n (i := 1) d_M_claim_30 rfl) (.cons (v_bipush (v := (20 : Int32)) d_M_claim_31 (by decide +kernel)) .nil)
theorem d_M_claim_33 : decode y_M_claim.2.1 33 = .ok (.if_icmp .ne (23), 3) := by decide +kernel
theorem d_M_claim_36 : decode y_M_claim.2.1 36 = .ok (.aload_n 0, 1) := by decide +kernel
theorem s_M_claim_36 : aw_VS y_M_claim 36 [o_ald 0] 37 := .cons (v_aload_n (i := 0) d_M_claim_36 rfl) .nil
theorem d_M_claim_37 : decode y_M_claim.2.1 37 = .ok (.invokevirtual 479, 3) := by decide +kernel
theorem b_M_claim_26 {X : aw_X} {d : Nat} {Q : Option Value → aw_H → Prop} {I : Nat → Nat → Int32} {L : Nat → Nat → Int64} {D : Nat → Nat} {v1 : Int32} {v2 : Int32}
    (h1 : v2 = 0 → (I 69 6) = 0 → aw_m X d y_M_copy [.ref 69, .int (5 : Int32), .int (6 : Int32)] (aw_s (aw_u I 73 5 (I 69 30)) L D) (fun r A => aw_z X (d + 1) y_M_claim Q 147 [some (.ref 69), some (.int v1), none, none] (r.toList ++ []) A))
    (h2 : v2 = 0 → ¬ (I 69 6) = 0 → aw_m X d y_M_bad [.ref 69, .int (1 : Int32)] (aw_s I L D) (fun r A => aw_z X (d + 1) y_M_claim Q 122 [some (.ref 69), none, none, none] (r.toList ++ []) A))
    (h3 : ¬ v2 = 0 → ¬ v1 = (20 : Int32) → aw_z X (d + 1) y_M_claim Q 56 [some (.ref 69), some (.int v1), none, none] [] (aw_s I L D))
    (h4 : ¬ v2 = 0 → v1 = (20 : Int32) → aw_m X d y_M_beginsUnit [.ref 69] (aw_s I L D) (fun r A => aw_z X (d + 1) y_M_claim Q 40 [some (.ref 69), some (.int v1), none, none] (r.toList ++ []) A)) :
    aw_z X (d + 1) y_M_claim Q 26 [some (.ref 69), some (.int v1), some (.int v2), none] [] (aw_s I L D) :=
  (s_M_claim_26.go [some (.ref 69), some (.int v1), some (.int v2), none] [.int v2] (aw_s I L D) rfl (z_if_eq (tgt := 110) d_M_claim_27 rfl (fun q1 => (s_M_claim_110.go [some (.ref 69), some (.int v1), some (.int v2), none] [.int (I 69 6)] (aw_s I L D) rfl (z_if_eq (tgt := 130) d_M_claim_114 rfl (fun q3 => (s_M_claim_130.go [some (.ref 69), some (.int v1), some (.int v2), none] [.int (I 69 30), .int (5 : Int32), .ref 73] (aw_s I L D) rfl (z_iast (n := 7) rfl (aw_lt (o := 73) rfl) (aw_lin (by decide +kernel) (by decide +kernel)) d_M_claim_139 (s_M_claim_140.go [some (.ref 69), some (.int v1), some (.int v2), none] [.int (6 : Int32), .int (5 : Int32), .ref 69] (aw_s (aw_u I 73 5 (I 69 30)) L D) rfl (z_callV (av := [.int (5 : Int32), .int (6 : Int32)]) (st := []) ok_M_copy (Or.inl w_1892) w_1894 w_103 k_M d_M_claim_144 rfl (aw_lt (o := 69) rfl) rfl rfl (Nat.le_of_ble_eq_true rfl) (Nat.le_refl _) (Nat.le_refl _) (aw_C.mono (h1 q1 q3) (fun _ _ zz => aw_Z.weak (ls' := [some (.ref 69), some (.int v1), none, none]) zz (Nat.le_of_ble_eq_true rfl) ⟨Or.inr rfl, ⟨Or.inr rfl, ⟨Or.inl rfl, ⟨Or.inl rfl, trivial⟩⟩⟩⟩))))))) (fun q4 => (s_M_claim_117.go [some (.ref 69), some (.int v1), some (.int v2), none] [.int (1 : Int32), .ref 69] (aw_s I L D) rfl (z_callV (av := [.int (1 : Int32)]) (st := []) ok_M_bad (Or.inl w_1806) w_1808 w_83 k_M d_M_claim_119 rfl (aw_lt (o := 69) rfl) rfl rfl (Nat.le_of_ble_eq_true rfl) (Nat.le_refl _) (Nat.le_refl _) (aw_C.mono (h2 q1 q4) (fun _ _ zz => aw_Z.weak (ls' := [some (.ref 69), none, none, none]) zz (Nat.le_of_ble_eq_true rfl) ⟨Or.inr rfl, ⟨Or.inl rfl, ⟨Or.inl rfl, ⟨Or.inl rfl, trivial⟩⟩⟩⟩)))))))) (fun q2 => (s_M_claim_30.go [some (.ref 69), some (.int v1), some (.int v2), none] [.int (20 : Int32), .int v1] (aw_s I L D) rfl (z_icmp_ne (tgt := 56) d_M_claim_33 rfl (fun q5 => (aw_Z.weak (ls' := [some (.ref 69), some (.int v1), none, none]) (h3 q2 q5) (Nat.le_of_ble_eq_true rfl) ⟨Or.inr rfl, ⟨Or.inr rfl, ⟨Or.inl rfl, ⟨Or.inl rfl, trivial⟩⟩⟩⟩)) (fun q6 => (s_M_claim_36.go [some (.ref 69), some (.int v1), some (.int v2), none] [.ref 69] (aw_s I L D) rfl (z_callV (av := []) (st := []) ok_M_beginsUnit (Or.inl w_2082) w_2084 w_126 k_M d_M_claim_37 rfl (aw_lt (o := 69) rfl) rfl rfl (Nat.le_of_ble_eq_true rfl) (Nat.le_refl _) (Nat.le_refl _) (aw_C.mono (h4 q2 q6) (fun _ _ zz => aw_Z.weak (ls' := [some (.ref 69), some (.int v1), none, none]) zz (Nat.le_of_ble_eq_true rfl) ⟨Or.inr rfl, ⟨Or.inr rfl, ⟨Or.inl rfl, ⟨Or.inl rfl, trivial⟩⟩⟩⟩))))))))))
theorem d_M_claim_147 : decode y_M_claim.2.1 147 = .ok (.iconst 0, 1) := by decide +kernel
theorem d_M_claim_148 : decode y_M_claim.2.1 148 = .ok (.istore_n 3, 1) := by decide +kernel
theorem s_M_claim_147 : aw_VS y_M_claim 147 [o_c (.int (0 : Int32)), o_ist 3] 149 := .cons (v_iconst (v := (0 : Int32)) d_M_claim_147 (by decide +kernel)) (.cons (v_istore_n d_M_claim_148) .nil)
theorem b_M_claim_147 {X : aw_X} {d : Nat} {Q : Option Value → aw_H → Prop} {I : Nat → Nat → Int32} {L : Nat → Nat → Int64} {D : Nat → Nat} {v1 : Int32}
    (h1 : aw_z X (d + 1) y_M_claim Q 149 [some (.ref 69), some (.int v1), none, some (.int (0 : Int32))] [] (aw_s I L D)) :
    aw_z X (d + 1) y_M_claim Q 147 [some (.ref 69), some (.int v1), none, none] [] (aw_s I L D) :=
  (s_M_claim_147.go [some (.ref 69), some (.int v1), none, some (.int (0 : Int32))] [] (aw_s I L D) rfl (h1))
theorem d_M_claim_122 : decode y_M_claim.2.1 122 = .ok (.pop, 1) := by decide +kernel
theorem d_M_claim_123 : decode y_M_claim.2.1 123 = .ok (.iconst (-1), 1) := by decide +kernel
theorem d_M_claim_124 : decode y_M_claim.2.1 124 = .ok (.aload_n 0, 1) := by decide +kernel
theorem d_M_claim_125 : decode y_M_claim.2.1 125 = .ok (.getfield 213, 3) := by decide +kernel
theorem d_M_claim_128 : decode y_M_claim.2.1 128 = .ok (.isub, 1) := by decide +kernel
theorem s_M_claim_122 : aw_VS y_M_claim 122 [o_pop, o_c (.int (-1 : Int32)), o_ald 0, o_getI 9 10, o_i2 (fun x z => x - z)] 129 := .cons (v_pop d_M_claim_122) (.cons (v_iconst (v := (-1 : Int32)) d_M_claim_123 (by decide +kernel)) (.cons (v_aload_n (i := 0) d_M_claim_124 rfl) (.cons (v_getI (k := 10) k_M (by decide) (Or.inl rfl) (Or.inl w_1471) d_M_claim_125) (.cons (v_isub d_M_claim_128) .nil))))
theorem d_M_claim_129 : decode y_M_claim.2.1 129 = .ok (.ireturn, 1) := by decide +kernel
theorem b_M_claim_122 {X : aw_X} {d : Nat} {Q : Option Value → aw_H → Prop} {I : Nat → Nat → Int32} {L : Nat → Nat → Int64} {D : Nat → Nat} {s0 : Int32}
    (h1 : Q (some (.int ((-1 : Int32) - (I 69 10)))) (aw_s I L D)) :
    aw_z X (d + 1) y_M_claim Q 122 [some (.ref 69), none, none, none] [.int s0] (aw_s I L D) :=
  (s_M_claim_122.go [some (.ref 69), none, none, none] [.int ((-1 : Int32) - (I 69 10))] (aw_s I L D) rfl (z_iret d_M_claim_129 rfl rfl (h1)))
theorem d_M_claim_56 : decode y_M_claim.2.1 56 = .ok (.aload_n 0, 1) := by decide +kernel
theorem s_M_claim_56 : aw_VS y_M_claim 56 [o_ald 0] 57 := .cons (v_aload_n (i := 0) d_M_claim_56 rfl) .nil
theorem d_M_claim_57 : decode y_M_claim.2.1 57 = .ok (.invokevirtual 279, 3) := by decide +kernel
theorem b_M_claim_56 {X : aw_X} {d : Nat} {Q : Option Value → aw_H → Prop} {I : Nat → Nat → Int32} {L : Nat → Nat → Int64} {D : Nat → Nat} {v1 : Int32}
    (h1 : aw_m X d y_M_readTest [.ref 69] (aw_s I L D) (fun r A => aw_z X (d + 1) y_M_claim Q 60 [some (.ref 69), some (.int v1), none, none] (r.toList ++ []) A)) :
    aw_z X (d + 1) y_M_claim Q 56 [some (.ref 69), some (.int v1), none, none] [] (aw_s I L D) :=
  (s_M_claim_56.go [some (.ref 69), some (.int v1), none, none] [.ref 69] (aw_s I L D) rfl (z_callV (av := []) (st := []) ok_M_readTest (Or.inl w_1853) w_1855 w_94 k_M d_M_claim_57 rfl (aw_lt (o := 69) rfl) rfl rfl (Nat.le_of_ble_eq_true rfl) (Nat.le_refl _) (Nat.le_refl _) (h1)))
theorem d_M_claim_40 : decode y_M_claim.2.1 40 = .ok (.ifCond .eq (16), 3) := by decide +kernel
theorem d_M_claim_43 : decode y_M_claim.2.1 43 = .ok (.aload_n 0, 1) := by decide +kernel
theorem d_M_claim_44 : decode y_M_claim.2.1 44 = .ok (.iconst 3, 1) := by decide +kernel
theorem s_M_claim_43 : aw_VS y_M_claim 43 [o_ald 0, o_c (.int (3 : Int32))] 45 := .cons (v_aload_n (i := 0) d_M_claim_43 rfl) (.cons (v_iconst (v := (3 : Int32)) d_M_claim_44 (by decide +kernel)) .nil)
theorem d_M_claim_45 : decode y_M_claim.2.1 45 = .ok (.invokevirtual 219, 3) := by decide +kernel
theorem b_M_claim_40 {X : aw_X} {d : Nat} {Q : Option Value → aw_H → Prop} {I : Nat → Nat → Int32} {L : Nat → Nat → Int64} {D : Nat → Nat} {v1 : Int32} {s0 : Int32}
    (h1 : s0 = 0 → aw_z X (d + 1) y_M_claim Q 56 [some (.ref 69), some (.int v1), none, none] [] (aw_s I L D))
    (h2 : ¬ s0 = 0 → aw_m X d y_M_bad [.ref 69, .int (3 : Int32)] (aw_s I L D) (fun r A => aw_z X (d + 1) y_M_claim Q 48 [some (.ref 69), none, none, none] (r.toList ++ []) A)) :
    aw_z X (d + 1) y_M_claim Q 40 [some (.ref 69), some (.int v1), none, none] [.int s0] (aw_s I L D) :=
  (z_if_eq (tgt := 56) d_M_claim_40 rfl (fun q1 => (h1 q1)) (fun q2 => (s_M_claim_43.go [some (.ref 69), some (.int v1), none, none] [.int (3 : Int32), .ref 69] (aw_s I L D) rfl (z_callV (av := [.int (3 : Int32)]) (st := []) ok_M_bad (Or.inl w_1806) w_1808 w_83 k_M d_M_claim_45 rfl (aw_lt (o := 69) rfl) rfl rfl (Nat.le_of_ble_eq_true rfl) (Nat.le_refl _) (Nat.le_refl _) (aw_C.mono (h2 q2) (fun _ _ zz => aw_Z.weak (ls' := [some (.ref 69), none, none, none]) zz (Nat.le_of_ble_eq_true rfl) ⟨Or.inr rfl, ⟨Or.inl rfl, ⟨Or.inl rfl, ⟨Or.inl rfl, trivial⟩⟩⟩⟩))))))
theorem d_M_claim_149 : decode y_M_claim.2.1 149 = .ok (.iload_n 3, 1) := by decide +kernel
theorem d_M_claim_150 : decode y_M_claim.2.1 150 = .ok (.iload_n 1, 1) := by decide +kernel
theorem s_M_claim_149 : aw_VS y_M_claim 149 [o_ild 3, o_ild 1] 151 := .cons (v_iload_n (i := 3) d_M_claim_149 rfl) (.cons (v_iload_n (i := 1) d_M_claim_150 rfl) .nil)
theorem d_M_claim_151 : decode y_M_claim.2.1 151 = .ok (.if_icmp .ge (21), 3) := by decide +kernel
theorem d_M_claim_172 : decode y_M_claim.2.1 172 = .ok (.aload_n 0, 1) := by decide +kernel
theorem d_M_claim_173 : decode y_M_claim.2.1 173 = .ok (.iload_n 1, 1) := by decide +kernel
theorem d_M_claim_174 : decode y_M_claim.2.1 174 = .ok (.putfield 482, 3) := by decide +kernel
theorem d_M_claim_177 : decode y_M_claim.2.1 177 = .ok (.iload_n 1, 1) := by decide +kernel
theorem s_M_claim_172 : aw_VS y_M_claim 172 [o_ald 0, o_ild 1, o_putI 9 75, o_ild 1] 178 := .cons (v_aload_n (i := 0) d_M_claim_172 rfl) (.cons (v_iload_n (i := 1) d_M_claim_173 rfl) (.cons (v_putI (k := 75) k_M (by decide) rfl (Or.inl ⟨rfl, Or.inl w_1536⟩) d_M_claim_174) (.cons (v_iload_n (i := 1) d_M_claim_177 rfl) .nil)))
theorem d_M_claim_178 : decode y_M_claim.2.1 178 = .ok (.ireturn, 1) := by decide +kernel
theorem d_M_claim_154 : decode y_M_claim.2.1 154 = .ok (.aload_n 0, 1) := by decide +kernel
theorem d_M_claim_155 : decode y_M_claim.2.1 155 = .ok (.getfield 133, 3) := by decide +kernel
theorem d_M_claim_158 : decode y_M_claim.2.1 158 = .ok (.iload_n 3, 1) := by decide +kernel
theorem d_M_claim_159 : decode y_M_claim.2.1 159 = .ok (.aload_n 0, 1) := by decide +kernel
theorem d_M_claim_160 : decode y_M_claim.2.1 160 = .ok (.getfield 136, 3) := by decide +kernel
theorem d_M_claim_163 : decode y_M_claim.2.1 163 = .ok (.iload_n 3, 1) := by decide +kernel
theorem s_M_claim_154 : aw_VS y_M_claim 154 [o_ald 0, o_getA 9 74, o_ild 3, o_ald 0, o_getA 9 76, o_ild 3] 164 := .cons (v_aload_n (i := 0) d_M_claim_154 rfl) (.cons (v_getA (k := 74) k_M (by decide) rfl (Or.inl w_1535) d_M_claim_155) (.cons (v_iload_n (i := 3) d_M_claim_158 rfl) (.cons (v_aload_n (i := 0) d_M_claim_159 rfl) (.cons (v_getA (k := 76) k_M (by decide) rfl (Or.inl w_1537) d_M_claim_160) (.cons (v_iload_n (i := 3) d_M_claim_163 rfl) .nil)))))
theorem d_M_claim_164 : decode y_M_claim.2.1 164 = .ok (.iaload, 1) := by decide +kernel
theorem d_M_claim_165 : decode y_M_claim.2.1 165 = .ok (.iastore, 1) := by decide +kernel
theorem d_M_claim_166 : decode y_M_claim.2.1 166 = .ok (.iinc 3 (1), 3) := by decide +kernel
theorem s_M_claim_166 : aw_VS y_M_claim 166 [o_inc 3 (1 : Int32)] 169 := .cons (v_iinc (k0 := (1 : Int32)) d_M_claim_166 (by decide +kernel)) .nil
theorem d_M_claim_169 : decode y_M_claim.2.1 169 = .ok (.goto (-20), 3) := by decide +kernel
theorem b_M_claim_149 {X : aw_X} {d : Nat} {Q : Option Value → aw_H → Prop} {I : Nat → Nat → Int32} {L : Nat → Nat → Int64} {D : Nat → Nat} {v1 : Int32} {v3 : Int32}
    (h1 : v1 ≤ v3 → Q (some (.int v1)) (aw_s (aw_u I 69 75 v1) L D))
    (h2 : ¬ v1 ≤ v3 → vp_in v3 20)
    (h3 : ¬ v1 ≤ v3 → vp_in v3 20)
    (h4 : ¬ v1 ≤ v3 → aw_z X (d + 1) y_M_claim Q 149 [some (.ref 69), some (.int v1), none, some (.int (v3 + (1 : Int32)))] [] (aw_s (aw_u I 106 v3.toNatClampNeg (I 107 v3.toNatClampNeg)) L D)) :
    aw_z X (d + 1) y_M_claim Q 149 [some (.ref 69), some (.int v1), none, some (.int v3)] [] (aw_s I L D) :=
  (s_M_claim_149.go [some (.ref 69), some (.int v1), none, some (.int v3)] [.int v1, .int v3] (aw_s I L D) rfl (z_icmp_ge (tgt := 172) d_M_claim_151 rfl (fun q1 => (s_M_claim_172.go [some (.ref 69), some (.int v1), none, some (.int v3)] [.int v1] (aw_s (aw_u I 69 75 v1) L D) rfl (z_iret d_M_claim_178 rfl rfl (h1 q1)))) (fun q2 => (s_M_claim_154.go [some (.ref 69), some (.int v1), none, some (.int v3)] [.int v3, .ref 107, .int v3, .ref 106] (aw_s I L D) rfl (z_iald (n := 20) rfl (aw_lt (o := 107) rfl) (h2 q2) d_M_claim_164 (z_iast (n := 20) rfl (aw_lt (o := 106) rfl) (h3 q2) d_M_claim_165 (s_M_claim_166.go [some (.ref 69), some (.int v1), none, some (.int (v3 + (1 : Int32)))] [] (aw_s (aw_u I 106 v3.toNatClampNeg (I 107 v3.toNatClampNeg)) L D) rfl (z_goto (tgt := 149) d_M_claim_169 rfl (h4 q2)))))))))
theorem d_M_claim_60 : decode y_M_claim.2.1 60 = .ok (.ifCond .ne (10), 3) := by decide +kernel
theorem d_M_claim_70 : decode y_M_claim.2.1 70 = .ok (.aload_n 0, 1) := by decide +kernel
theorem d_M_claim_71 : decode y_M_claim.2.1 71 = .ok (.getfield 136, 3) := by decide +kernel
theorem d_M_claim_74 : decode y_M_claim.2.1 74 = .ok (.iload_n 1, 1) := by decide +kernel
theorem d_M_claim_75 : decode y_M_claim.2.1 75 = .ok (.aload_n 0, 1) := by decide +kernel
theorem d_M_claim_76 : decode y_M_claim.2.1 76 = .ok (.getfield 228, 3) := by decide +kernel
theorem s_M_claim_70 : aw_VS y_M_claim 70 [o_ald 0, o_getA 9 76, o_ild 1, o_ald 0, o_getI 9 30] 79 := .cons (v_aload_n (i := 0) d_M_claim_70 rfl) (.cons (v_getA (k := 76) k_M (by decide) rfl (Or.inl w_1537) d_M_claim_71) (.cons (v_iload_n (i := 1) d_M_claim_74 rfl) (.cons (v_aload_n (i := 0) d_M_claim_75 rfl) (.cons (v_getI (k := 30) k_M (by decide) (Or.inl rfl) (Or.inl w_1491) d_M_claim_76) .nil))))
theorem d_M_claim_79 : decode y_M_claim.2.1 79 = .ok (.iastore, 1) := by decide +kernel
theorem d_M_claim_80 : decode y_M_claim.2.1 80 = .ok (.iinc 1 (1), 3) := by decide +kernel
theorem d_M_claim_83 : decode y_M_claim.2.1 83 = .ok (.aload_n 0, 1) := by decide +kernel
theorem d_M_claim_84 : decode y_M_claim.2.1 84 = .ok (.bipush 97, 2) := by decide +kernel
theorem d_M_claim_86 : decode y_M_claim.2.1 86 = .ok (.bipush 110, 2) := by decide +kernel
theorem d_M_claim_88 : decode y_M_claim.2.1 88 = .ok (.bipush 100, 2) := by decide +kernel
theorem d_M_claim_90 : decode y_M_claim.2.1 90 = .ok (.iconst 0, 1) := by decide +kernel
theorem d_M_claim_91 : decode y_M_claim.2.1 91 = .ok (.iconst 0, 1) := by decide +kernel
theorem s_M_claim_80 : aw_VS y_M_claim 80 [o_inc 1 (1 : Int32), o_ald 0, o_c (.int (97 : Int32)), o_c (.int (110 : Int32)), o_c (.int (100 : Int32)), o_c (.int (0 : Int32)), o_c (.int (0 : Int32))] 92 := .cons (v_iinc (k0 := (1 : Int32)) d_M_claim_80 (by decide +kernel)) (.cons (v_aload_n (i := 0) d_M_claim_83 rfl) (.cons (v_bipush (v := (97 : Int32)) d_M_claim_84 (by decide +kernel)) (.cons (v_bipush (v := (110 : Int32)) d_M_claim_86 (by decide +kernel)) (.cons (v_bipush (v := (100 : Int32)) d_M_claim_88 (by decide +kernel)) (.cons (v_iconst (v := (0 : Int32)) d_M_claim_90 (by decide +kernel)) (.cons (v_iconst (v := (0 : Int32)) d_M_claim_91 (by decide +kernel)) .nil))))))
theorem d_M_claim_92 : decode y_M_claim.2.1 92 = .ok (.invokestatic 244, 3) := by decide +kernel
theorem d_M_claim_63 : decode y_M_claim.2.1 63 = .ok (.iconst (-1), 1) := by decide +kernel
theorem d_M_claim_64 : decode y_M_claim.2.1 64 = .ok (.aload_n 0, 1) := by decide +kernel
theorem d_M_claim_65 : decode y_M_claim.2.1 65 = .ok (.getfield 213, 3) := by decide +kernel
theorem d_M_claim_68 : decode y_M_claim.2.1 68 = .ok (.isub, 1) := by decide +kernel
theorem s_M_claim_63 : aw_VS y_M_claim 63 [o_c (.int (-1 : Int32)), o_ald 0, o_getI 9 10, o_i2 (fun x z => x - z)] 69 := .cons (v_iconst (v := (-1 : Int32)) d_M_claim_63 (by decide +kernel)) (.cons (v_aload_n (i := 0) d_M_claim_64 rfl) (.cons (v_getI (k := 10) k_M (by decide) (Or.inl rfl) (Or.inl w_1471) d_M_claim_65) (.cons (v_isub d_M_claim_68) .nil)))
theorem d_M_claim_69 : decode y_M_claim.2.1 69 = .ok (.ireturn, 1) := by decide +kernel
theorem b_M_claim_60 {X : aw_X} {d : Nat} {Q : Option Value → aw_H → Prop} {I : Nat → Nat → Int32} {L : Nat → Nat → Int64} {D : Nat → Nat} {v1 : Int32} {s0 : Int32}
    (h1 : ¬ s0 = 0 → vp_in v1 20)
    (h2 : ¬ s0 = 0 → aw_m X d y_M_spelt [.int (97 : Int32), .int (110 : Int32), .int (100 : Int32), .int (0 : Int32), .int (0 : Int32)] (aw_s (aw_u I 107 v1.toNatClampNeg (I 69 30)) L D) (fun r A => aw_z X (d + 1) y_M_claim Q 95 [some (.ref 69), some (.int (v1 + (1 : Int32))), none, none] (r.toList ++ [.ref 69]) A))
    (h3 : s0 = 0 → Q (some (.int ((-1 : Int32) - (I 69 10)))) (aw_s I L D)) :
    aw_z X (d + 1) y_M_claim Q 60 [some (.ref 69), some (.int v1), none, none] [.int s0] (aw_s I L D) :=
  (z_if_ne (tgt := 70) d_M_claim_60 rfl (fun q1 => (s_M_claim_70.go [some (.ref 69), some (.int v1), none, none] [.int (I 69 30), .int v1, .ref 107] (aw_s I L D) rfl (z_iast (n := 20) rfl (aw_lt (o := 107) rfl) (h1 q1) d_M_claim_79 (s_M_claim_80.go [some (.ref 69), some (.int (v1 + (1 : Int32))), none, none] [.int (0 : Int32), .int (0 : Int32), .int (100 : Int32), .int (110 : Int32), .int (97 : Int32), .ref 69] (aw_s (aw_u I 107 v1.toNatClampNeg (I 69 30)) L D) rfl (z_callS (av := [.int (97 : Int32), .int (110 : Int32), .int (100 : Int32), .int (0 : Int32), .int (0 : Int32)]) (st := [.ref 69]) ok_M_spelt (Or.inl w_1795) w_1796 d_M_claim_92 rfl rfl (Nat.le_of_ble_eq_true rfl) (Nat.le_refl _) (Nat.le_refl _) (h2 q1)))))) (fun q2 => (s_M_claim_63.go [some (.ref 69), some (.int v1), none, none] [.int ((-1 : Int32) - (I 69 10))] (aw_s I L D) rfl (z_iret d_M_claim_69 rfl rfl (h3 q2)))))
theorem d_M_claim_48 : decode y_M_claim.2.1 48 = .ok (.pop, 1) := by decide +kernel
theorem d_M_claim_49 : decode y_M_claim.2.1 49 = .ok (.iconst (-1), 1) := by decide +kernel
theorem d_M_claim_50 : decode y_M_claim.2.1 50 = .ok (.aload_n 0, 1) := by decide +kernel
theorem d_M_claim_51 : decode y_M_claim.2.1 51 = .ok (.getfield 213, 3) := by decide +kernel
theorem d_M_claim_54 : decode y_M_claim.2.1 54 = .ok (.isub, 1) := by decide +kernel
theorem s_M_claim_48 : aw_VS y_M_claim 48 [o_pop, o_c (.int (-1 : Int32)), o_ald 0, o_getI 9 10, o_i2 (fun x z => x - z)] 55 := .cons (v_pop d_M_claim_48) (.cons (v_iconst (v := (-1 : Int32)) d_M_claim_49 (by decide +kernel)) (.cons (v_aload_n (i := 0) d_M_claim_50 rfl) (.cons (v_getI (k := 10) k_M (by decide) (Or.inl rfl) (Or.inl w_1471) d_M_claim_51) (.cons (v_isub d_M_claim_54) .nil))))
theorem d_M_claim_55 : decode y_M_claim.2.1 55 = .ok (.ireturn, 1) := by decide +kernel
theorem b_M_claim_48 {X : aw_X} {d : Nat} {Q : Option Value → aw_H → Prop} {I : Nat → Nat → Int32} {L : Nat → Nat → Int64} {D : Nat → Nat} {s0 : Int32}
    (h1 : Q (some (.int ((-1 : Int32) - (I 69 10)))) (aw_s I L D)) :
    aw_z X (d + 1) y_M_claim Q 48 [some (.ref 69), none, none, none] [.int s0] (aw_s I L D) :=
  (s_M_claim_48.go [some (.ref 69), none, none, none] [.int ((-1 : Int32) - (I 69 10))] (aw_s I L D) rfl (z_iret d_M_claim_55 rfl rfl (h1)))
theorem d_M_claim_95 : decode y_M_claim.2.1 95 = .ok (.invokevirtual 248, 3) := by decide +kernel
theorem b_M_claim_95 {X : aw_X} {d : Nat} {Q : Option Value → aw_H → Prop} {I : Nat → Nat → Int32} {L : Nat → Nat → Int64} {D : Nat → Nat} {v1 : Int32} {s1 : Int64}
    (h1 : aw_m X d y_M_isKey [.ref 69, .long s1] (aw_s I L D) (fun r A => aw_z X (d + 1) y_M_claim Q 98 [some (.ref 69), some (.int v1), none, none] (r.toList ++ []) A)) :
    aw_z X (d + 1) y_M_claim Q 95 [some (.ref 69), some (.int v1), none, none] [.long s1, .ref 69] (aw_s I L D) :=
  (z_callV (av := [.long s1]) (st := []) ok_M_isKey (Or.inl w_1798) w_1800 w_81 k_M d_M_claim_95 rfl (aw_lt (o := 69) rfl) rfl rfl (Nat.le_of_ble_eq_true rfl) (Nat.le_refl _) (Nat.le_refl _) (h1))
theorem d_M_claim_98 : decode y_M_claim.2.1 98 = .ok (.istore_n 2, 1) := by decide +kernel
theorem d_M_claim_99 : decode y_M_claim.2.1 99 = .ok (.iload_n 2, 1) := by decide +kernel
theorem s_M_claim_98 : aw_VS y_M_claim 98 [o_ist 2, o_ild 2] 100 := .cons (v_istore_n d_M_claim_98) (.cons (v_iload_n (i := 2) d_M_claim_99 rfl) .nil)
theorem d_M_claim_100 : decode y_M_claim.2.1 100 = .ok (.ifCond .eq (-74), 3) := by decide +kernel
theorem d_M_claim_103 : decode y_M_claim.2.1 103 = .ok (.aload_n 0, 1) := by decide +kernel
theorem s_M_claim_103 : aw_VS y_M_claim 103 [o_ald 0] 104 := .cons (v_aload_n (i := 0) d_M_claim_103 rfl) .nil
theorem d_M_claim_104 : decode y_M_claim.2.1 104 = .ok (.invokevirtual 222, 3) := by decide +kernel
theorem b_M_claim_98 {X : aw_X} {d : Nat} {Q : Option Value → aw_H → Prop} {I : Nat → Nat → Int32} {L : Nat → Nat → Int64} {D : Nat → Nat} {v1 : Int32} {s0 : Int32}
    (h1 : s0 = 0 → aw_z X (d + 1) y_M_claim Q 26 [some (.ref 69), some (.int v1), some (.int s0), none] [] (aw_s I L D))
    (h2 : ¬ s0 = 0 → aw_m X d y_M_go [.ref 69] (aw_s I L D) (fun r A => aw_z X (d + 1) y_M_claim Q 107 [some (.ref 69), some (.int v1), some (.int s0), none] (r.toList ++ []) A)) :
    aw_z X (d + 1) y_M_claim Q 98 [some (.ref 69), some (.int v1), none, none] [.int s0] (aw_s I L D) :=
  (s_M_claim_98.go [some (.ref 69), some (.int v1), some (.int s0), none] [.int s0] (aw_s I L D) rfl (z_if_eq (tgt := 26) d_M_claim_100 rfl (fun q1 => (h1 q1)) (fun q2 => (s_M_claim_103.go [some (.ref 69), some (.int v1), some (.int s0), none] [.ref 69] (aw_s I L D) rfl (z_callV (av := []) (st := []) ok_M_go (Or.inl w_1760) w_1762 w_75 k_M d_M_claim_104 rfl (aw_lt (o := 69) rfl) rfl rfl (Nat.le_of_ble_eq_true rfl) (Nat.le_refl _) (Nat.le_refl _) (h2 q2))))))
theorem d_M_claim_107 : decode y_M_claim.2.1 107 = .ok (.goto (-81), 3) := by decide +kernel
theorem b_M_claim_107 {X : aw_X} {d : Nat} {Q : Option Value → aw_H → Prop} {I : Nat → Nat → Int32} {L : Nat → Nat → Int64} {D : Nat → Nat} {v1 : Int32} {v2 : Int32}
    (h1 : aw_z X (d + 1) y_M_claim Q 26 [some (.ref 69), some (.int v1), some (.int v2), none] [] (aw_s I L D)) :
    aw_z X (d + 1) y_M_claim Q 107 [some (.ref 69), some (.int v1), some (.int v2), none] [] (aw_s I L D) :=
  (z_goto (tgt := 26) d_M_claim_107 rfl (h1))
/-! M_beginsUnit -/
theorem d_M_beginsUnit_0 : decode y_M_beginsUnit.2.1 0 = .ok (.aload_n 0, 1) := by decide +kernel
theorem d_M_beginsUnit_1 : decode y_M_beginsUnit.2.1 1 = .ok (.getfield 179, 3) := by decide +kernel
theorem d_M_beginsUnit_4 : decode y_M_beginsUnit.2.1 4 = .ok (.iconst 3, 1) := by decide +kernel
theorem s_M_beginsUnit_0 : aw_VS y_M_beginsUnit 0 [o_ald 0, o_getI 9 6, o_c (.int (3 : Int32))] 5 := .cons (v_aload_n (i := 0) d_M_beginsUnit_0 rfl) (.cons (v_getI (k := 6) k_M (by decide) (Or.inl rfl) (Or.inl w_1467) d_M_beginsUnit_1) (.cons (v_iconst (v := (3 : Int32)) d_M_beginsUnit_4 (by decide +kernel)) .nil))
theorem d_M_beginsUnit_5 : decode y_M_beginsUnit.2.1 5 = .ok (.if_icmp .ne (13), 3) := by decide +kernel
theorem d_M_beginsUnit_8 : decode y_M_beginsUnit.2.1 8 = .ok (.aload_n 0, 1) := by decide +kernel
theorem d_M_beginsUnit_9 : decode y_M_beginsUnit.2.1 9 = .ok (.getfield 199, 3) := by decide +kernel
theorem d_M_beginsUnit_12 : decode y_M_beginsUnit.2.1 12 = .ok (.sipush 255, 3) := by decide +kernel
theorem s_M_beginsUnit_8 : aw_VS y_M_beginsUnit 8 [o_ald 0, o_getI 9 7, o_c (.int (255 : Int32))] 15 := .cons (v_aload_n (i := 0) d_M_beginsUnit_8 rfl) (.cons (v_getI (k := 7) k_M (by decide) (Or.inl rfl) (Or.inl w_1468) d_M_beginsUnit_9) (.cons (v_sipush (v := (255 : Int32)) d_M_beginsUnit_12 (by decide +kernel)) .nil))
theorem d_M_beginsUnit_15 : decode y_M_beginsUnit.2.1 15 = .ok (.if_icmp .le (38), 3) := by decide +kernel
theorem d_M_beginsUnit_53 : decode y_M_beginsUnit.2.1 53 = .ok (.iconst 1, 1) := by decide +kernel
theorem s_M_beginsUnit_53 : aw_VS y_M_beginsUnit 53 [o_c (.int (1 : Int32))] 54 := .cons (v_iconst (v := (1 : Int32)) d_M_beginsUnit_53 (by decide +kernel)) .nil
theorem d_M_beginsUnit_54 : decode y_M_beginsUnit.2.1 54 = .ok (.goto (4), 3) := by decide +kernel
theorem d_M_beginsUnit_58 : decode y_M_beginsUnit.2.1 58 = .ok (.ireturn, 1) := by decide +kernel
theorem b_M_beginsUnit_0 {X : aw_X} {d : Nat} {Q : Option Value → aw_H → Prop} {I : Nat → Nat → Int32} {L : Nat → Nat → Int64} {D : Nat → Nat} 
    (h1 : ¬ (I 69 6) = (3 : Int32) → aw_z X (d + 1) y_M_beginsUnit Q 18 [some (.ref 69)] [] (aw_s I L D))
    (h2 : (I 69 6) = (3 : Int32) → (I 69 7) ≤ (255 : Int32) → Q (some (.int (1 : Int32))) (aw_s I L D))
    (h3 : (I 69 6) = (3 : Int32) → ¬ (I 69 7) ≤ (255 : Int32) → aw_z X (d + 1) y_M_beginsUnit Q 18 [some (.ref 69)] [] (aw_s I L D)) :
    aw_z X (d + 1) y_M_beginsUnit Q 0 [some (.ref 69)] [] (aw_s I L D) :=
  (s_M_beginsUnit_0.go [some (.ref 69)] [.int (3 : Int32), .int (I 69 6)] (aw_s I L D) rfl (z_icmp_ne (tgt := 18) d_M_beginsUnit_5 rfl (fun q1 => (h1 q1)) (fun q2 => (s_M_beginsUnit_8.go [some (.ref 69)] [.int (255 : Int32), .int (I 69 7)] (aw_s I L D) rfl (z_icmp_le (tgt := 53) d_M_beginsUnit_15 rfl (fun q3 => (s_M_beginsUnit_53.go [some (.ref 69)] [.int (1 : Int32)] (aw_s I L D) rfl (z_goto (tgt := 58) d_M_beginsUnit_54 rfl (z_iret d_M_beginsUnit_58 rfl (aw_nz (by decide +kernel)) (h2 q2 q3))))) (fun q4 => (h3 q2 q4)))))))
theorem d_M_beginsUnit_18 : decode y_M_beginsUnit.2.1 18 = .ok (.aload_n 0, 1) := by decide +kernel
theorem s_M_beginsUnit_18 : aw_VS y_M_beginsUnit 18 [o_ald 0] 19 := .cons (v_aload_n (i := 0) d_M_beginsUnit_18 rfl) .nil
theorem d_M_beginsUnit_19 : decode y_M_beginsUnit.2.1 19 = .ok (.invokevirtual 252, 3) := by decide +kernel
theorem b_M_beginsUnit_18 {X : aw_X} {d : Nat} {Q : Option Value → aw_H → Prop} {I : Nat → Nat → Int32} {L : Nat → Nat → Int64} {D : Nat → Nat} 
    (h1 : aw_m X d y_M_isName [.ref 69] (aw_s I L D) (fun r A => aw_z X (d + 1) y_M_beginsUnit Q 22 [some (.ref 69)] (r.toList ++ []) A)) :
    aw_z X (d + 1) y_M_beginsUnit Q 18 [some (.ref 69)] [] (aw_s I L D) :=
  (s_M_beginsUnit_18.go [some (.ref 69)] [.ref 69] (aw_s I L D) rfl (z_callV (av := []) (st := []) ok_M_isName (Or.inl w_1828) w_1830 w_88 k_M d_M_beginsUnit_19 rfl (aw_lt (o := 69) rfl) rfl rfl (Nat.le_of_ble_eq_true rfl) (Nat.le_refl _) (Nat.le_refl _) (h1)))
theorem d_M_beginsUnit_22 : decode y_M_beginsUnit.2.1 22 = .ok (.ifCond .ne (31), 3) := by decide +kernel
theorem d_M_beginsUnit_25 : decode y_M_beginsUnit.2.1 25 = .ok (.aload_n 0, 1) := by decide +kernel
theorem d_M_beginsUnit_26 : decode y_M_beginsUnit.2.1 26 = .ok (.bipush 40, 2) := by decide +kernel
theorem s_M_beginsUnit_25 : aw_VS y_M_beginsUnit 25 [o_ald 0, o_c (.int (40 : Int32))] 28 := .cons (v_aload_n (i := 0) d_M_beginsUnit_25 rfl) (.cons (v_bipush (v := (40 : Int32)) d_M_beginsUnit_26 (by decide +kernel)) .nil)
theorem d_M_beginsUnit_28 : decode y_M_beginsUnit.2.1 28 = .ok (.invokevirtual 216, 3) := by decide +kernel
theorem b_M_beginsUnit_22 {X : aw_X} {d : Nat} {Q : Option Value → aw_H → Prop} {I : Nat → Nat → Int32} {L : Nat → Nat → Int64} {D : Nat → Nat} {s0 : Int32}
    (h1 : ¬ s0 = 0 → Q (some (.int (1 : Int32))) (aw_s I L D))
    (h2 : s0 = 0 → aw_m X d y_M_isSign [.ref 69, .int (40 : Int32)] (aw_s I L D) (fun r A => aw_z X (d + 1) y_M_beginsUnit Q 31 [some (.ref 69)] (r.toList ++ []) A)) :
    aw_z X (d + 1) y_M_beginsUnit Q 22 [some (.ref 69)] [.int s0] (aw_s I L D) :=
  (z_if_ne (tgt := 53) d_M_beginsUnit_22 rfl (fun q1 => (s_M_beginsUnit_53.go [some (.ref 69)] [.int (1 : Int32)] (aw_s I L D) rfl (z_goto (tgt := 58) d_M_beginsUnit_54 rfl (z_iret d_M_beginsUnit_58 rfl (aw_nz (by decide +kernel)) (h1 q1))))) (fun q2 => (s_M_beginsUnit_25.go [some (.ref 69)] [.int (40 : Int32), .ref 69] (aw_s I L D) rfl (z_callV (av := [.int (40 : Int32)]) (st := []) ok_M_isSign (Or.inl w_1779) w_1781 w_77 k_M d_M_beginsUnit_28 rfl (aw_lt (o := 69) rfl) rfl rfl (Nat.le_of_ble_eq_true rfl) (Nat.le_refl _) (Nat.le_refl _) (h2 q2)))))
theorem d_M_beginsUnit_31 : decode y_M_beginsUnit.2.1 31 = .ok (.ifCond .ne (22), 3) := by decide +kernel
theorem d_M_beginsUnit_34 : decode y_M_beginsUnit.2.1 34 = .ok (.aload_n 0, 1) := by decide +kernel
theorem d_M_beginsUnit_35 : decode y_M_beginsUnit.2.1 35 = .ok (.bipush 99, 2) := by decide +kernel
theorem d_M_beginsUnit_37 : decode y_M_beginsUnit.2.1 37 = .ok (.bipush 101, 2) := by decide +kernel
theorem d_M_beginsUnit_39 : decode y_M_beginsUnit.2.1 39 = .ok (.bipush 108, 2) := by decide +kernel
theorem d_M_beginsUnit_41 : decode y_M_beginsUnit.2.1 41 = .ok (.bipush 108, 2) := by decide +kernel
theorem d_M_beginsUnit_43 : decode y_M_beginsUnit.2.1 43 = .ok (.iconst 0, 1) := by decide +kernel
theorem s_M_beginsUnit_34 : aw_VS y_M_beginsUnit 34 [o_ald 0, o_c (.int (99 : Int32)), o_c (.int (101 : Int32)), o_c (.int (108 : Int32)), o_c (.int (108 : Int32)), o_c (.int (0 : Int32))] 44 := .cons (v_aload_n (i := 0) d_M_beginsUnit_34 rfl) (.cons (v_bipush (v := (99 : Int32)) d_M_beginsUnit_35 (by decide +kernel)) (.cons (v_bipush (v := (101 : Int32)) d_M_beginsUnit_37 (by decide +kernel)) (.cons (v_bipush (v := (108 : Int32)) d_M_beginsUnit_39 (by decide +kernel)) (.cons (v_bipush (v := (108 : Int32)) d_M_beginsUnit_41 (by decide +kernel)) (.cons (v_iconst (v := (0 : Int32)) d_M_beginsUnit_43 (by decide +kernel)) .nil)))))
theorem d_M_beginsUnit_44 : decode y_M_beginsUnit.2.1 44 = .ok (.invokestatic 244, 3) := by decide +kernel
theorem b_M_beginsUnit_31 {X : aw_X} {d : Nat} {Q : Option Value → aw_H → Prop} {I : Nat → Nat → Int32} {L : Nat → Nat → Int64} {D : Nat → Nat} {s0 : Int32}
    (h1 : ¬ s0 = 0 → Q (some (.int (1 : Int32))) (aw_s I L D))
    (h2 : s0 = 0 → aw_m X d y_M_spelt [.int (99 : Int32), .int (101 : Int32), .int (108 : Int32), .int (108 : Int32), .int (0 : Int32)] (aw_s I L D) (fun r A => aw_z X (d + 1) y_M_beginsUnit Q 47 [none] (r.toList ++ [.ref 69]) A)) :
    aw_z X (d + 1) y_M_beginsUnit Q 31 [some (.ref 69)] [.int s0] (aw_s I L D) :=
  (z_if_ne (tgt := 53) d_M_beginsUnit_31 rfl (fun q1 => (s_M_beginsUnit_53.go [some (.ref 69)] [.int (1 : Int32)] (aw_s I L D) rfl (z_goto (tgt := 58) d_M_beginsUnit_54 rfl (z_iret d_M_beginsUnit_58 rfl (aw_nz (by decide +kernel)) (h1 q1))))) (fun q2 => (s_M_beginsUnit_34.go [some (.ref 69)] [.int (0 : Int32), .int (108 : Int32), .int (108 : Int32), .int (101 : Int32), .int (99 : Int32), .ref 69] (aw_s I L D) rfl (z_callS (av := [.int (99 : Int32), .int (101 : Int32), .int (108 : Int32), .int (108 : Int32), .int (0 : Int32)]) (st := [.ref 69]) ok_M_spelt (Or.inl w_1795) w_1796 d_M_beginsUnit_44 rfl rfl (Nat.le_of_ble_eq_true rfl) (Nat.le_refl _) (Nat.le_refl _) (aw_C.mono (h2 q2) (fun _ _ zz => aw_Z.weak (ls' := [none]) zz (Nat.le_of_ble_eq_true rfl) ⟨Or.inl rfl, trivial⟩))))))
theorem d_M_beginsUnit_47 : decode y_M_beginsUnit.2.1 47 = .ok (.invokevirtual 248, 3) := by decide +kernel
theorem b_M_beginsUnit_47 {X : aw_X} {d : Nat} {Q : Option Value → aw_H → Prop} {I : Nat → Nat → Int32} {L : Nat → Nat → Int64} {D : Nat → Nat} {s1 : Int64}
    (h1 : aw_m X d y_M_isKey [.ref 69, .long s1] (aw_s I L D) (fun r A => aw_z X (d + 1) y_M_beginsUnit Q 50 [none] (r.toList ++ []) A)) :
    aw_z X (d + 1) y_M_beginsUnit Q 47 [none] [.long s1, .ref 69] (aw_s I L D) :=
  (z_callV (av := [.long s1]) (st := []) ok_M_isKey (Or.inl w_1798) w_1800 w_81 k_M d_M_beginsUnit_47 rfl (aw_lt (o := 69) rfl) rfl rfl (Nat.le_of_ble_eq_true rfl) (Nat.le_refl _) (Nat.le_refl _) (h1))
theorem d_M_beginsUnit_50 : decode y_M_beginsUnit.2.1 50 = .ok (.ifCond .eq (7), 3) := by decide +kernel
theorem d_M_beginsUnit_57 : decode y_M_beginsUnit.2.1 57 = .ok (.iconst 0, 1) := by decide +kernel
theorem s_M_beginsUnit_57 : aw_VS y_M_beginsUnit 57 [o_c (.int (0 : Int32))] 58 := .cons (v_iconst (v := (0 : Int32)) d_M_beginsUnit_57 (by decide +kernel)) .nil
theorem b_M_beginsUnit_50 {X : aw_X} {d : Nat} {Q : Option Value → aw_H → Prop} {I : Nat → Nat → Int32} {L : Nat → Nat → Int64} {D : Nat → Nat} {s0 : Int32}
    (h1 : s0 = 0 → Q (some (.int (0 : Int32))) (aw_s I L D))
    (h2 : ¬ s0 = 0 → Q (some (.int (1 : Int32))) (aw_s I L D)) :
    aw_z X (d + 1) y_M_beginsUnit Q 50 [none] [.int s0] (aw_s I L D) :=
  (z_if_eq (tgt := 57) d_M_beginsUnit_50 rfl (fun q1 => (s_M_beginsUnit_57.go [none] [.int (0 : Int32)] (aw_s I L D) rfl (z_iret d_M_beginsUnit_58 rfl (aw_nz (by decide +kernel)) (h1 q1)))) (fun q2 => (s_M_beginsUnit_53.go [none] [.int (1 : Int32)] (aw_s I L D) rfl (z_goto (tgt := 58) d_M_beginsUnit_54 rfl (z_iret d_M_beginsUnit_58 rfl (aw_nz (by decide +kernel)) (h2 q2))))))
/-! M_holds -/
theorem d_M_holds_0 : decode y_M_holds.2.1 0 = .ok (.aload_n 0, 1) := by decide +kernel
theorem d_M_holds_1 : decode y_M_holds.2.1 1 = .ok (.iconst 0, 1) := by decide +kernel
theorem d_M_holds_2 : decode y_M_holds.2.1 2 = .ok (.putfield 160, 3) := by decide +kernel
theorem d_M_holds_5 : decode y_M_holds.2.1 5 = .ok (.aload_n 0, 1) := by decide +kernel
theorem d_M_holds_6 : decode y_M_holds.2.1 6 = .ok (.getfield 482, 3) := by decide +kernel
theorem s_M_holds_0 : aw_VS y_M_holds 0 [o_ald 0, o_c (.int (0 : Int32)), o_putI 9 0, o_ald 0, o_getI 9 75] 9 := .cons (v_aload_n (i := 0) d_M_holds_0 rfl) (.cons (v_iconst (v := (0 : Int32)) d_M_holds_1 (by decide +kernel)) (.cons (v_putI (k := 0) k_M (by decide) rfl (Or.inl ⟨rfl, Or.inl w_1461⟩) d_M_holds_2) (.cons (v_aload_n (i := 0) d_M_holds_5 rfl) (.cons (v_getI (k := 75) k_M (by decide) (Or.inl rfl) (Or.inl w_1536) d_M_holds_6) .nil))))
theorem d_M_holds_9 : decode y_M_holds.2.1 9 = .ok (.ifCond .ne (6), 3) := by decide +kernel
theorem d_M_holds_15 : decode y_M_holds.2.1 15 = .ok (.iconst 0, 1) := by decide +kernel
theorem d_M_holds_16 : decode y_M_holds.2.1 16 = .ok (.istore_n 1, 1) := by decide +kernel
theorem s_M_holds_15 : aw_VS y_M_holds 15 [o_c (.int (0 : Int32)), o_ist 1] 17 := .cons (v_iconst (v := (0 : Int32)) d_M_holds_15 (by decide +kernel)) (.cons (v_istore_n d_M_holds_16) .nil)
theorem d_M_holds_12 : decode y_M_holds.2.1 12 = .ok (.bipush (-2), 2) := by decide +kernel
theorem s_M_holds_12 : aw_VS y_M_holds 12 [o_c (.int (-2 : Int32))] 14 := .cons (v_bipush (v := (-2 : Int32)) d_M_holds_12 (by decide +kernel)) .nil
theorem d_M_holds_14 : decode y_M_holds.2.1 14 = .ok (.ireturn, 1) := by decide +kernel
theorem b_M_holds_0 {X : aw_X} {d : Nat} {Q : Option Value → aw_H → Prop} {I : Nat → Nat → Int32} {L : Nat → Nat → Int64} {D : Nat → Nat} 
    (h1 : ¬ (I 69 75) = 0 → aw_z X (d + 1) y_M_holds Q 17 [some (.ref 69), some (.int (0 : Int32)), none, none] [] (aw_s (aw_u I 69 0 (0 : Int32)) L D))
    (h2 : (I 69 75) = 0 → Q (some (.int (-2 : Int32))) (aw_s (aw_u I 69 0 (0 : Int32)) L D)) :
    aw_z X (d + 1) y_M_holds Q 0 [some (.ref 69), none, none, none] [] (aw_s I L D) :=
  (s_M_holds_0.go [some (.ref 69), none, none, none] [.int (I 69 75)] (aw_s (aw_u I 69 0 (0 : Int32)) L D) rfl (z_if_ne (tgt := 15) d_M_holds_9 rfl (fun q1 => (s_M_holds_15.go [some (.ref 69), some (.int (0 : Int32)), none, none] [] (aw_s (aw_u I 69 0 (0 : Int32)) L D) rfl (h1 q1))) (fun q2 => (s_M_holds_12.go [some (.ref 69), none, none, none] [.int (-2 : Int32)] (aw_s (aw_u I 69 0 (0 : Int32)) L D) rfl (z_iret d_M_holds_14 rfl rfl (h2 q2))))))
theorem d_M_holds_17 : decode y_M_holds.2.1 17 = .ok (.iload_n 1, 1) := by decide +kernel
theorem d_M_holds_18 : decode y_M_holds.2.1 18 = .ok (.aload_n 0, 1) := by decide +kernel
theorem s_M_holds_17 : aw_VS y_M_holds 17 [o_ild 1, o_ald 0] 19 := .cons (v_iload_n (i := 1) d_M_holds_17 rfl) (.cons (v_aload_n (i := 0) d_M_holds_18 rfl) .nil)
theorem d_M_holds_19 : decode y_M_holds.2.1 19 = .ok (.invokevirtual 423, 3) := by decide +kernel
theorem b_M_holds_17 {X : aw_X} {d : Nat} {Q : Option Value → aw_H → Prop} {I : Nat → Nat → Int32} {L : Nat → Nat → Int64} {D : Nat → Nat} {v1 : Int32}
    (h1 : aw_m X d y_M_rows [.ref 69] (aw_s I L D) (fun r A => aw_z X (d + 1) y_M_holds Q 22 [some (.ref 69), some (.int v1), none, none] (r.toList ++ [.int v1]) A)) :
    aw_z X (d + 1) y_M_holds Q 17 [some (.ref 69), some (.int v1), none, none] [] (aw_s I L D) :=
  (s_M_holds_17.go [some (.ref 69), some (.int v1), none, none] [.ref 69, .int v1] (aw_s I L D) rfl (z_callV (av := []) (st := [.int v1]) ok_M_rows (Or.inl w_1915) w_1917 w_105 k_M d_M_holds_19 rfl (aw_lt (o := 69) rfl) rfl rfl (Nat.le_of_ble_eq_true rfl) (Nat.le_refl _) (Nat.le_refl _) (h1)))
theorem d_M_holds_22 : decode y_M_holds.2.1 22 = .ok (.if_icmp .ge (48), 3) := by decide +kernel
theorem d_M_holds_70 : decode y_M_holds.2.1 70 = .ok (.iconst (-1), 1) := by decide +kernel
theorem s_M_holds_70 : aw_VS y_M_holds 70 [o_c (.int (-1 : Int32))] 71 := .cons (v_iconst (v := (-1 : Int32)) d_M_holds_70 (by decide +kernel)) .nil
theorem d_M_holds_71 : decode y_M_holds.2.1 71 = .ok (.ireturn, 1) := by decide +kernel
theorem d_M_holds_25 : decode y_M_holds.2.1 25 = .ok (.aload_n 0, 1) := by decide +kernel
theorem d_M_holds_26 : decode y_M_holds.2.1 26 = .ok (.iload_n 1, 1) := by decide +kernel
theorem s_M_holds_25 : aw_VS y_M_holds 25 [o_ald 0, o_ild 1] 27 := .cons (v_aload_n (i := 0) d_M_holds_25 rfl) (.cons (v_iload_n (i := 1) d_M_holds_26 rfl) .nil)
theorem d_M_holds_27 : decode y_M_holds.2.1 27 = .ok (.invokevirtual 378, 3) := by decide +kernel
theorem b_M_holds_22 {X : aw_X} {d : Nat} {Q : Option Value → aw_H → Prop} {I : Nat → Nat → Int32} {L : Nat → Nat → Int64} {D : Nat → Nat} {v1 : Int32} {s1 : Int32} {s0 : Int32}
    (h1 : s1 ≤ s0 → Q (some (.int (-1 : Int32))) (aw_s I L D))
    (h2 : ¬ s1 ≤ s0 → aw_m X d y_M_layRow [.ref 69, .int v1] (aw_s I L D) (fun r A => aw_z X (d + 1) y_M_holds Q 30 [some (.ref 69), some (.int v1), none, none] (r.toList ++ []) A)) :
    aw_z X (d + 1) y_M_holds Q 22 [some (.ref 69), some (.int v1), none, none] [.int s1, .int s0] (aw_s I L D) :=
  (z_icmp_ge (tgt := 70) d_M_holds_22 rfl (fun q1 => (s_M_holds_70.go [some (.ref 69), some (.int v1), none, none] [.int (-1 : Int32)] (aw_s I L D) rfl (z_iret d_M_holds_71 rfl rfl (h1 q1)))) (fun q2 => (s_M_holds_25.go [some (.ref 69), some (.int v1), none, none] [.int v1, .ref 69] (aw_s I L D) rfl (z_callV (av := [.int v1]) (st := []) ok_M_layRow (Or.inl w_1927) w_1929 w_108 k_M d_M_holds_27 rfl (aw_lt (o := 69) rfl) rfl rfl (Nat.le_of_ble_eq_true rfl) (Nat.le_refl _) (Nat.le_refl _) (h2 q2)))))
theorem d_M_holds_30 : decode y_M_holds.2.1 30 = .ok (.iconst 1, 1) := by decide +kernel
theorem d_M_holds_31 : decode y_M_holds.2.1 31 = .ok (.istore_n 2, 1) := by decide +kernel
theorem d_M_holds_32 : decode y_M_holds.2.1 32 = .ok (.iconst 0, 1) := by decide +kernel
theorem d_M_holds_33 : decode y_M_holds.2.1 33 = .ok (.istore_n 3, 1) := by decide +kernel
theorem s_M_holds_30 : aw_VS y_M_holds 30 [o_c (.int (1 : Int32)), o_ist 2, o_c (.int (0 : Int32)), o_ist 3] 34 := .cons (v_iconst (v := (1 : Int32)) d_M_holds_30 (by decide +kernel)) (.cons (v_istore_n d_M_holds_31) (.cons (v_iconst (v := (0 : Int32)) d_M_holds_32 (by decide +kernel)) (.cons (v_istore_n d_M_holds_33) .nil)))
theorem b_M_holds_30 {X : aw_X} {d : Nat} {Q : Option Value → aw_H → Prop} {I : Nat → Nat → Int32} {L : Nat → Nat → Int64} {D : Nat → Nat} {v1 : Int32}
    (h1 : aw_z X (d + 1) y_M_holds Q 34 [some (.ref 69), some (.int v1), some (.int (1 : Int32)), some (.int (0 : Int32))] [] (aw_s I L D)) :
    aw_z X (d + 1) y_M_holds Q 30 [some (.ref 69), some (.int v1), none, none] [] (aw_s I L D) :=
  (s_M_holds_30.go [some (.ref 69), some (.int v1), some (.int (1 : Int32)), some (.int (0 : Int32))] [] (aw_s I L D) rfl (h1))
theorem d_M_holds_34 : decode y_M_holds.2.1 34 = .ok (.iload_n 3, 1) := by decide +kernel
theorem d_M_holds_35 : decode y_M_holds.2.1 35 = .ok (.aload_n 0, 1) := by decide +kernel
theorem d_M_holds_36 : decode y_M_holds.2.1 36 = .ok (.getfield 482, 3) := by decide +kernel
theorem s_M_holds_34 : aw_VS y_M_holds 34 [o_ild 3, o_ald 0, o_getI 9 75] 39 := .cons (v_iload_n (i := 3) d_M_holds_34 rfl) (.cons (v_aload_n (i := 0) d_M_holds_35 rfl) (.cons (v_getI (k := 75) k_M (by decide) (Or.inl rfl) (Or.inl w_1536) d_M_holds_36) .nil))
theorem d_M_holds_39 : decode y_M_holds.2.1 39 = .ok (.if_icmp .ge (19), 3) := by decide +kernel
theorem d_M_holds_42 : decode y_M_holds.2.1 42 = .ok (.iload_n 2, 1) := by decide +kernel
theorem s_M_holds_42 : aw_VS y_M_holds 42 [o_ild 2] 43 := .cons (v_iload_n (i := 2) d_M_holds_42 rfl) .nil
theorem d_M_holds_43 : decode y_M_holds.2.1 43 = .ok (.ifCond .eq (15), 3) := by decide +kernel
theorem d_M_holds_46 : decode y_M_holds.2.1 46 = .ok (.aload_n 0, 1) := by decide +kernel
theorem d_M_holds_47 : decode y_M_holds.2.1 47 = .ok (.iload_n 3, 1) := by decide +kernel
theorem s_M_holds_46 : aw_VS y_M_holds 46 [o_ald 0, o_ild 3] 48 := .cons (v_aload_n (i := 0) d_M_holds_46 rfl) (.cons (v_iload_n (i := 3) d_M_holds_47 rfl) .nil)
theorem d_M_holds_48 : decode y_M_holds.2.1 48 = .ok (.invokevirtual 485, 3) := by decide +kernel
theorem b_M_holds_34 {X : aw_X} {d : Nat} {Q : Option Value → aw_H → Prop} {I : Nat → Nat → Int32} {L : Nat → Nat → Int64} {D : Nat → Nat} {v1 : Int32} {v2 : Int32} {v3 : Int32}
    (h1 : (I 69 75) ≤ v3 → aw_z X (d + 1) y_M_holds Q 58 [some (.ref 69), some (.int v1), some (.int v2), none] [] (aw_s I L D))
    (h2 : ¬ (I 69 75) ≤ v3 → v2 = 0 → aw_z X (d + 1) y_M_holds Q 58 [some (.ref 69), some (.int v1), some (.int v2), none] [] (aw_s I L D))
    (h3 : ¬ (I 69 75) ≤ v3 → ¬ v2 = 0 → aw_m X d y_M_holdsTest [.ref 69, .int v3] (aw_s I L D) (fun r A => aw_z X (d + 1) y_M_holds Q 51 [some (.ref 69), some (.int v1), none, some (.int v3)] (r.toList ++ []) A)) :
    aw_z X (d + 1) y_M_holds Q 34 [some (.ref 69), some (.int v1), some (.int v2), some (.int v3)] [] (aw_s I L D) :=
  (s_M_holds_34.go [some (.ref 69), some (.int v1), some (.int v2), some (.int v3)] [.int (I 69 75), .int v3] (aw_s I L D) rfl (z_icmp_ge (tgt := 58) d_M_holds_39 rfl (fun q1 => (aw_Z.weak (ls' := [some (.ref 69), some (.int v1), some (.int v2), none]) (h1 q1) (Nat.le_of_ble_eq_true rfl) ⟨Or.inr rfl, ⟨Or.inr rfl, ⟨Or.inr rfl, ⟨Or.inl rfl, trivial⟩⟩⟩⟩)) (fun q2 => (s_M_holds_42.go [some (.ref 69), some (.int v1), some (.int v2), some (.int v3)] [.int v2] (aw_s I L D) rfl (z_if_eq (tgt := 58) d_M_holds_43 rfl (fun q3 => (aw_Z.weak (ls' := [some (.ref 69), some (.int v1), some (.int v2), none]) (h2 q2 q3) (Nat.le_of_ble_eq_true rfl) ⟨Or.inr rfl, ⟨Or.inr rfl, ⟨Or.inr rfl, ⟨Or.inl rfl, trivial⟩⟩⟩⟩)) (fun q4 => (s_M_holds_46.go [some (.ref 69), some (.int v1), some (.int v2), some (.int v3)] [.int v3, .ref 69] (aw_s I L D) rfl (z_callV (av := [.int v3]) (st := []) ok_M_holdsTest (Or.inl w_2090) w_2092 w_127 k_M d_M_holds_48 rfl (aw_lt (o := 69) rfl) rfl rfl (Nat.le_of_ble_eq_true rfl) (Nat.le_refl _) (Nat.le_refl _) (aw_C.mono (h3 q2 q4) (fun _ _ zz => aw_Z.weak (ls' := [some (.ref 69), some (.int v1), none, some (.int v3)]) zz (Nat.le_of_ble_eq_true rfl) ⟨Or.inr rfl, ⟨Or.inr rfl, ⟨Or.inl rfl, ⟨Or.inr rfl, trivial⟩⟩⟩⟩))))))))))
theorem d_M_holds_58 : decode y_M_holds.2.1 58 = .ok (.iload_n 2, 1) := by decide +kernel
theorem s_M_holds_58 : aw_VS y_M_holds 58 [o_ild 2] 59 := .cons (v_iload_n (i := 2) d_M_holds_58 rfl) .nil
theorem d_M_holds_59 : decode y_M_holds.2.1 59 = .ok (.ifCond .eq (5), 3) := by decide +kernel
theorem d_M_holds_64 : decode y_M_holds.2.1 64 = .ok (.iinc 1 (1), 3) := by decide +kernel
theorem s_M_holds_64 : aw_VS y_M_holds 64 [o_inc 1 (1 : Int32)] 67 := .cons (v_iinc (k0 := (1 : Int32)) d_M_holds_64 (by decide +kernel)) .nil
theorem d_M_holds_67 : decode y_M_holds.2.1 67 = .ok (.goto (-50), 3) := by decide +kernel
theorem d_M_holds_62 : decode y_M_holds.2.1 62 = .ok (.iload_n 1, 1) := by decide +kernel
theorem s_M_holds_62 : aw_VS y_M_holds 62 [o_ild 1] 63 := .cons (v_iload_n (i := 1) d_M_holds_62 rfl) .nil
theorem d_M_holds_63 : decode y_M_holds.2.1 63 = .ok (.ireturn, 1) := by decide +kernel
theorem b_M_holds_58 {X : aw_X} {d : Nat} {Q : Option Value → aw_H → Prop} {I : Nat → Nat → Int32} {L : Nat → Nat → Int64} {D : Nat → Nat} {v1 : Int32} {v2 : Int32}
    (h1 : v2 = 0 → aw_z X (d + 1) y_M_holds Q 17 [some (.ref 69), some (.int (v1 + (1 : Int32))), none, none] [] (aw_s I L D))
    (h2 : ¬ v2 = 0 → Q (some (.int v1)) (aw_s I L D)) :
    aw_z X (d + 1) y_M_holds Q 58 [some (.ref 69), some (.int v1), some (.int v2), none] [] (aw_s I L D) :=
  (s_M_holds_58.go [some (.ref 69), some (.int v1), some (.int v2), none] [.int v2] (aw_s I L D) rfl (z_if_eq (tgt := 64) d_M_holds_59 rfl (fun q1 => (s_M_holds_64.go [some (.ref 69), some (.int (v1 + (1 : Int32))), some (.int v2), none] [] (aw_s I L D) rfl (z_goto (tgt := 17) d_M_holds_67 rfl (aw_Z.weak (ls' := [some (.ref 69), some (.int (v1 + (1 : Int32))), none, none]) (h1 q1) (Nat.le_of_ble_eq_true rfl) ⟨Or.inr rfl, ⟨Or.inr rfl, ⟨Or.inl rfl, ⟨Or.inl rfl, trivial⟩⟩⟩⟩)))) (fun q2 => (s_M_holds_62.go [some (.ref 69), some (.int v1), some (.int v2), none] [.int v1] (aw_s I L D) rfl (z_iret d_M_holds_63 rfl rfl (h2 q2))))))
theorem d_M_holds_51 : decode y_M_holds.2.1 51 = .ok (.istore_n 2, 1) := by decide +kernel
theorem d_M_holds_52 : decode y_M_holds.2.1 52 = .ok (.iinc 3 (1), 3) := by decide +kernel
theorem s_M_holds_51 : aw_VS y_M_holds 51 [o_ist 2, o_inc 3 (1 : Int32)] 55 := .cons (v_istore_n d_M_holds_51) (.cons (v_iinc (k0 := (1 : Int32)) d_M_holds_52 (by decide +kernel)) .nil)
theorem d_M_holds_55 : decode y_M_holds.2.1 55 = .ok (.goto (-21), 3) := by decide +kernel
theorem b_M_holds_51 {X : aw_X} {d : Nat} {Q : Option Value → aw_H → Prop} {I : Nat → Nat → Int32} {L : Nat → Nat → Int64} {D : Nat → Nat} {v1 : Int32} {v3 : Int32} {s0 : Int32}
    (h1 : aw_z X (d + 1) y_M_holds Q 34 [some (.ref 69), some (.int v1), some (.int s0), some (.int (v3 + (1 : Int32)))] [] (aw_s I L D)) :
    aw_z X (d + 1) y_M_holds Q 51 [some (.ref 69), some (.int v1), none, some (.int v3)] [.int s0] (aw_s I L D) :=
  (s_M_holds_51.go [some (.ref 69), some (.int v1), some (.int s0), some (.int (v3 + (1 : Int32)))] [] (aw_s I L D) rfl (z_goto (tgt := 34) d_M_holds_55 rfl (h1)))
/-! M_holdsTest -/
theorem d_M_holdsTest_0 : decode y_M_holdsTest.2.1 0 = .ok (.aload_n 0, 1) := by decide +kernel
theorem d_M_holdsTest_1 : decode y_M_holdsTest.2.1 1 = .ok (.iconst 0, 1) := by decide +kernel
theorem d_M_holdsTest_2 : decode y_M_holdsTest.2.1 2 = .ok (.putfield 231, 3) := by decide +kernel
theorem d_M_holdsTest_5 : decode y_M_holdsTest.2.1 5 = .ok (.iload_n 1, 1) := by decide +kernel
theorem s_M_holdsTest_0 : aw_VS y_M_holdsTest 0 [o_ald 0, o_c (.int (0 : Int32)), o_putI 9 25, o_ild 1] 6 := .cons (v_aload_n (i := 0) d_M_holdsTest_0 rfl) (.cons (v_iconst (v := (0 : Int32)) d_M_holdsTest_1 (by decide +kernel)) (.cons (v_putI (k := 25) k_M (by decide) rfl (Or.inl ⟨rfl, Or.inl w_1486⟩) d_M_holdsTest_2) (.cons (v_iload_n (i := 1) d_M_holdsTest_5 rfl) .nil)))
theorem d_M_holdsTest_6 : decode y_M_holdsTest.2.1 6 = .ok (.ifCond .ne (7), 3) := by decide +kernel
theorem d_M_holdsTest_13 : decode y_M_holdsTest.2.1 13 = .ok (.aload_n 0, 1) := by decide +kernel
theorem d_M_holdsTest_14 : decode y_M_holdsTest.2.1 14 = .ok (.getfield 133, 3) := by decide +kernel
theorem d_M_holdsTest_17 : decode y_M_holdsTest.2.1 17 = .ok (.iload_n 1, 1) := by decide +kernel
theorem d_M_holdsTest_18 : decode y_M_holdsTest.2.1 18 = .ok (.iconst 1, 1) := by decide +kernel
theorem d_M_holdsTest_19 : decode y_M_holdsTest.2.1 19 = .ok (.isub, 1) := by decide +kernel
theorem s_M_holdsTest_13 : aw_VS y_M_holdsTest 13 [o_ald 0, o_getA 9 74, o_ild 1, o_c (.int (1 : Int32)), o_i2 (fun x z => x - z)] 20 := .cons (v_aload_n (i := 0) d_M_holdsTest_13 rfl) (.cons (v_getA (k := 74) k_M (by decide) rfl (Or.inl w_1535) d_M_holdsTest_14) (.cons (v_iload_n (i := 1) d_M_holdsTest_17 rfl) (.cons (v_iconst (v := (1 : Int32)) d_M_holdsTest_18 (by decide +kernel)) (.cons (v_isub d_M_holdsTest_19) .nil))))
theorem d_M_holdsTest_20 : decode y_M_holdsTest.2.1 20 = .ok (.iaload, 1) := by decide +kernel
theorem d_M_holdsTest_21 : decode y_M_holdsTest.2.1 21 = .ok (.istore_n 2, 1) := by decide +kernel
theorem s_M_holdsTest_21 : aw_VS y_M_holdsTest 21 [o_ist 2] 22 := .cons (v_istore_n d_M_holdsTest_21) .nil
theorem d_M_holdsTest_9 : decode y_M_holdsTest.2.1 9 = .ok (.iconst 0, 1) := by decide +kernel
theorem s_M_holdsTest_9 : aw_VS y_M_holdsTest 9 [o_c (.int (0 : Int32))] 10 := .cons (v_iconst (v := (0 : Int32)) d_M_holdsTest_9 (by decide +kernel)) .nil
theorem d_M_holdsTest_10 : decode y_M_holdsTest.2.1 10 = .ok (.goto (11), 3) := by decide +kernel
theorem b_M_holdsTest_0 {X : aw_X} {d : Nat} {Q : Option Value → aw_H → Prop} {I : Nat → Nat → Int32} {L : Nat → Nat → Int64} {D : Nat → Nat} {v1 : Int32}
    (h1 : ¬ v1 = 0 → vp_in (v1 - (1 : Int32)) 20)
    (h2 : ¬ v1 = 0 → aw_z X (d + 1) y_M_holdsTest Q 22 [some (.ref 69), some (.int v1), some (.int (I 106 ((v1 - (1 : Int32)).toNatClampNeg)))] [] (aw_s (aw_u I 69 25 (0 : Int32)) L D))
    (h3 : v1 = 0 → aw_z X (d + 1) y_M_holdsTest Q 22 [some (.ref 69), some (.int v1), some (.int (0 : Int32))] [] (aw_s (aw_u I 69 25 (0 : Int32)) L D)) :
    aw_z X (d + 1) y_M_holdsTest Q 0 [some (.ref 69), some (.int v1), none] [] (aw_s I L D) :=
  (s_M_holdsTest_0.go [some (.ref 69), some (.int v1), none] [.int v1] (aw_s (aw_u I 69 25 (0 : Int32)) L D) rfl (z_if_ne (tgt := 13) d_M_holdsTest_6 rfl (fun q1 => (s_M_holdsTest_13.go [some (.ref 69), some (.int v1), none] [.int (v1 - (1 : Int32)), .ref 106] (aw_s (aw_u I 69 25 (0 : Int32)) L D) rfl (z_iald (n := 20) rfl (aw_lt (o := 106) rfl) (h1 q1) d_M_holdsTest_20 (s_M_holdsTest_21.go [some (.ref 69), some (.int v1), some (.int (I 106 ((v1 - (1 : Int32)).toNatClampNeg)))] [] (aw_s (aw_u I 69 25 (0 : Int32)) L D) rfl (h2 q1))))) (fun q2 => (s_M_holdsTest_9.go [some (.ref 69), some (.int v1), none] [.int (0 : Int32)] (aw_s (aw_u I 69 25 (0 : Int32)) L D) rfl (z_goto (tgt := 21) d_M_holdsTest_10 rfl (s_M_holdsTest_21.go [some (.ref 69), some (.int v1), some (.int (0 : Int32))] [] (aw_s (aw_u I 69 25 (0 : Int32)) L D) rfl (h3 q2)))))))
theorem d_M_holdsTest_22 : decode y_M_holdsTest.2.1 22 = .ok (.iload_n 2, 1) := by decide +kernel
theorem d_M_holdsTest_23 : decode y_M_holdsTest.2.1 23 = .ok (.aload_n 0, 1) := by decide +kernel
theorem d_M_holdsTest_24 : decode y_M_holdsTest.2.1 24 = .ok (.getfield 133, 3) := by decide +kernel
theorem d_M_holdsTest_27 : decode y_M_holdsTest.2.1 27 = .ok (.iload_n 1, 1) := by decide +kernel
theorem s_M_holdsTest_22 : aw_VS y_M_holdsTest 22 [o_ild 2, o_ald 0, o_getA 9 74, o_ild 1] 28 := .cons (v_iload_n (i := 2) d_M_holdsTest_22 rfl) (.cons (v_aload_n (i := 0) d_M_holdsTest_23 rfl) (.cons (v_getA (k := 74) k_M (by decide) rfl (Or.inl w_1535) d_M_holdsTest_24) (.cons (v_iload_n (i := 1) d_M_holdsTest_27 rfl) .nil)))
theorem d_M_holdsTest_28 : decode y_M_holdsTest.2.1 28 = .ok (.iaload, 1) := by decide +kernel
theorem d_M_holdsTest_29 : decode y_M_holdsTest.2.1 29 = .ok (.if_icmp .ge (38), 3) := by decide +kernel
theorem d_M_holdsTest_67 : decode y_M_holdsTest.2.1 67 = .ok (.aload_n 0, 1) := by decide +kernel
theorem d_M_holdsTest_68 : decode y_M_holdsTest.2.1 68 = .ok (.getfield 66, 3) := by decide +kernel
theorem d_M_holdsTest_71 : decode y_M_holdsTest.2.1 71 = .ok (.aload_n 0, 1) := by decide +kernel
theorem d_M_holdsTest_72 : decode y_M_holdsTest.2.1 72 = .ok (.getfield 231, 3) := by decide +kernel
theorem s_M_holdsTest_67 : aw_VS y_M_holdsTest 67 [o_ald 0, o_getA 9 39, o_ald 0, o_getI 9 25] 75 := .cons (v_aload_n (i := 0) d_M_holdsTest_67 rfl) (.cons (v_getA (k := 39) k_M (by decide) rfl (Or.inl w_1500) d_M_holdsTest_68) (.cons (v_aload_n (i := 0) d_M_holdsTest_71 rfl) (.cons (v_getI (k := 25) k_M (by decide) (Or.inl rfl) (Or.inl w_1486) d_M_holdsTest_72) .nil)))
theorem d_M_holdsTest_75 : decode y_M_holdsTest.2.1 75 = .ok (.iaload, 1) := by decide +kernel
theorem d_M_holdsTest_76 : decode y_M_holdsTest.2.1 76 = .ok (.iconst 1, 1) := by decide +kernel
theorem s_M_holdsTest_76 : aw_VS y_M_holdsTest 76 [o_c (.int (1 : Int32))] 77 := .cons (v_iconst (v := (1 : Int32)) d_M_holdsTest_76 (by decide +kernel)) .nil
theorem d_M_holdsTest_77 : decode y_M_holdsTest.2.1 77 = .ok (.if_icmp .ne (7), 3) := by decide +kernel
theorem d_M_holdsTest_84 : decode y_M_holdsTest.2.1 84 = .ok (.iconst 0, 1) := by decide +kernel
theorem s_M_holdsTest_84 : aw_VS y_M_holdsTest 84 [o_c (.int (0 : Int32))] 85 := .cons (v_iconst (v := (0 : Int32)) d_M_holdsTest_84 (by decide +kernel)) .nil
theorem d_M_holdsTest_85 : decode y_M_holdsTest.2.1 85 = .ok (.ireturn, 1) := by decide +kernel
theorem d_M_holdsTest_80 : decode y_M_holdsTest.2.1 80 = .ok (.iconst 1, 1) := by decide +kernel
theorem s_M_holdsTest_80 : aw_VS y_M_holdsTest 80 [o_c (.int (1 : Int32))] 81 := .cons (v_iconst (v := (1 : Int32)) d_M_holdsTest_80 (by decide +kernel)) .nil
theorem d_M_holdsTest_81 : decode y_M_holdsTest.2.1 81 = .ok (.goto (4), 3) := by decide +kernel
theorem d_M_holdsTest_32 : decode y_M_holdsTest.2.1 32 = .ok (.aload_n 0, 1) := by decide +kernel
theorem d_M_holdsTest_33 : decode y_M_holdsTest.2.1 33 = .ok (.aload_n 0, 1) := by decide +kernel
theorem d_M_holdsTest_34 : decode y_M_holdsTest.2.1 34 = .ok (.getfield 13, 3) := by decide +kernel
theorem d_M_holdsTest_37 : decode y_M_holdsTest.2.1 37 = .ok (.sipush 4800, 3) := by decide +kernel
theorem d_M_holdsTest_40 : decode y_M_holdsTest.2.1 40 = .ok (.iload_n 2, 1) := by decide +kernel
theorem d_M_holdsTest_41 : decode y_M_holdsTest.2.1 41 = .ok (.iadd, 1) := by decide +kernel
theorem s_M_holdsTest_32 : aw_VS y_M_holdsTest 32 [o_ald 0, o_ald 0, o_getA 9 12, o_c (.int (4800 : Int32)), o_ild 2, o_i2 (fun x z => x + z)] 42 := .cons (v_aload_n (i := 0) d_M_holdsTest_32 rfl) (.cons (v_aload_n (i := 0) d_M_holdsTest_33 rfl) (.cons (v_getA (k := 12) k_M (by decide) rfl (Or.inl w_1473) d_M_holdsTest_34) (.cons (v_sipush (v := (4800 : Int32)) d_M_holdsTest_37 (by decide +kernel)) (.cons (v_iload_n (i := 2) d_M_holdsTest_40 rfl) (.cons (v_iadd d_M_holdsTest_41) .nil)))))
theorem d_M_holdsTest_42 : decode y_M_holdsTest.2.1 42 = .ok (.iaload, 1) := by decide +kernel
theorem d_M_holdsTest_43 : decode y_M_holdsTest.2.1 43 = .ok (.aload_n 0, 1) := by decide +kernel
theorem d_M_holdsTest_44 : decode y_M_holdsTest.2.1 44 = .ok (.getfield 16, 3) := by decide +kernel
theorem d_M_holdsTest_47 : decode y_M_holdsTest.2.1 47 = .ok (.sipush 4800, 3) := by decide +kernel
theorem d_M_holdsTest_50 : decode y_M_holdsTest.2.1 50 = .ok (.iload_n 2, 1) := by decide +kernel
theorem d_M_holdsTest_51 : decode y_M_holdsTest.2.1 51 = .ok (.iadd, 1) := by decide +kernel
theorem s_M_holdsTest_43 : aw_VS y_M_holdsTest 43 [o_ald 0, o_getA 9 13, o_c (.int (4800 : Int32)), o_ild 2, o_i2 (fun x z => x + z)] 52 := .cons (v_aload_n (i := 0) d_M_holdsTest_43 rfl) (.cons (v_getA (k := 13) k_M (by decide) rfl (Or.inl w_1474) d_M_holdsTest_44) (.cons (v_sipush (v := (4800 : Int32)) d_M_holdsTest_47 (by decide +kernel)) (.cons (v_iload_n (i := 2) d_M_holdsTest_50 rfl) (.cons (v_iadd d_M_holdsTest_51) .nil))))
theorem d_M_holdsTest_52 : decode y_M_holdsTest.2.1 52 = .ok (.iaload, 1) := by decide +kernel
theorem d_M_holdsTest_53 : decode y_M_holdsTest.2.1 53 = .ok (.invokevirtual 399, 3) := by decide +kernel
theorem b_M_holdsTest_22 {X : aw_X} {d : Nat} {Q : Option Value → aw_H → Prop} {I : Nat → Nat → Int32} {L : Nat → Nat → Int64} {D : Nat → Nat} {v1 : Int32} {v2 : Int32}
    (h1 : vp_in v1 20)
    (h2 : (I 106 v1.toNatClampNeg) ≤ v2 → vp_in (I 69 25) 400)
    (h3 : (I 106 v1.toNatClampNeg) ≤ v2 → ¬ (I 86 ((I 69 25).toNatClampNeg)) = (1 : Int32) → Q (some (.int (0 : Int32))) (aw_s I L D))
    (h4 : (I 106 v1.toNatClampNeg) ≤ v2 → (I 86 ((I 69 25).toNatClampNeg)) = (1 : Int32) → Q (some (.int (1 : Int32))) (aw_s I L D))
    (h5 : ¬ (I 106 v1.toNatClampNeg) ≤ v2 → vp_in ((4800 : Int32) + v2) 5600)
    (h6 : ¬ (I 106 v1.toNatClampNeg) ≤ v2 → vp_in ((4800 : Int32) + v2) 5600)
    (h7 : ¬ (I 106 v1.toNatClampNeg) ≤ v2 → aw_m X d y_M_work [.ref 69, .int (I 71 (((4800 : Int32) + v2).toNatClampNeg)), .int (I 72 (((4800 : Int32) + v2).toNatClampNeg))] (aw_s I L D) (fun r A => aw_z X (d + 1) y_M_holdsTest Q 56 [some (.ref 69), some (.int v1), some (.int v2)] (r.toList ++ []) A)) :
    aw_z X (d + 1) y_M_holdsTest Q 22 [some (.ref 69), some (.int v1), some (.int v2)] [] (aw_s I L D) :=
  (s_M_holdsTest_22.go [some (.ref 69), some (.int v1), some (.int v2)] [.int v1, .ref 106, .int v2] (aw_s I L D) rfl (z_iald (n := 20) rfl (aw_lt (o := 106) rfl) (h1) d_M_holdsTest_28 (z_icmp_ge (tgt := 67) d_M_holdsTest_29 rfl (fun q1 => (s_M_holdsTest_67.go [some (.ref 69), some (.int v1), some (.int v2)] [.int (I 69 25), .ref 86] (aw_s I L D) rfl (z_iald (n := 400) rfl (aw_lt (o := 86) rfl) (h2 q1) d_M_holdsTest_75 (s_M_holdsTest_76.go [some (.ref 69), some (.int v1), some (.int v2)] [.int (1 : Int32), .int (I 86 ((I 69 25).toNatClampNeg))] (aw_s I L D) rfl (z_icmp_ne (tgt := 84) d_M_holdsTest_77 rfl (fun q3 => (s_M_holdsTest_84.go [some (.ref 69), some (.int v1), some (.int v2)] [.int (0 : Int32)] (aw_s I L D) rfl (z_iret d_M_holdsTest_85 rfl (aw_nz (by decide +kernel)) (h3 q1 q3)))) (fun q4 => (s_M_holdsTest_80.go [some (.ref 69), some (.int v1), some (.int v2)] [.int (1 : Int32)] (aw_s I L D) rfl (z_goto (tgt := 85) d_M_holdsTest_81 rfl (z_iret d_M_holdsTest_85 rfl (aw_nz (by decide +kernel)) (h4 q1 q4)))))))))) (fun q2 => (s_M_holdsTest_32.go [some (.ref 69), some (.int v1), some (.int v2)] [.int ((4800 : Int32) + v2), .ref 71, .ref 69] (aw_s I L D) rfl (z_iald (n := 5600) rfl (aw_lt (o := 71) rfl) (h5 q2) d_M_holdsTest_42 (s_M_holdsTest_43.go [some (.ref 69), some (.int v1), some (.int v2)] [.int ((4800 : Int32) + v2), .ref 72, .int (I 71 (((4800 : Int32) + v2).toNatClampNeg)), .ref 69] (aw_s I L D) rfl (z_iald (n := 5600) rfl (aw_lt (o := 72) rfl) (h6 q2) d_M_holdsTest_52 (z_callV (av := [.int (I 71 (((4800 : Int32) + v2).toNatClampNeg)), .int (I 72 (((4800 : Int32) + v2).toNatClampNeg))]) (st := []) ok_M_work (Or.inl w_1935) w_1937 w_110 k_M d_M_holdsTest_53 rfl (aw_lt (o := 69) rfl) rfl rfl (Nat.le_of_ble_eq_true rfl) (Nat.le_refl _) (Nat.le_refl _) (h7 q2))))))))))
theorem d_M_holdsTest_56 : decode y_M_holdsTest.2.1 56 = .ok (.ifCond .le (5), 3) := by decide +kernel
theorem d_M_holdsTest_61 : decode y_M_holdsTest.2.1 61 = .ok (.iinc 2 (1), 3) := by decide +kernel
theorem s_M_holdsTest_61 : aw_VS y_M_holdsTest 61 [o_inc 2 (1 : Int32)] 64 := .cons (v_iinc (k0 := (1 : Int32)) d_M_holdsTest_61 (by decide +kernel)) .nil
theorem d_M_holdsTest_64 : decode y_M_holdsTest.2.1 64 = .ok (.goto (-42), 3) := by decide +kernel
theorem d_M_holdsTest_59 : decode y_M_holdsTest.2.1 59 = .ok (.iconst 0, 1) := by decide +kernel
theorem s_M_holdsTest_59 : aw_VS y_M_holdsTest 59 [o_c (.int (0 : Int32))] 60 := .cons (v_iconst (v := (0 : Int32)) d_M_holdsTest_59 (by decide +kernel)) .nil
theorem d_M_holdsTest_60 : decode y_M_holdsTest.2.1 60 = .ok (.ireturn, 1) := by decide +kernel
theorem b_M_holdsTest_56 {X : aw_X} {d : Nat} {Q : Option Value → aw_H → Prop} {I : Nat → Nat → Int32} {L : Nat → Nat → Int64} {D : Nat → Nat} {v1 : Int32} {v2 : Int32} {s0 : Int32}
    (h1 : s0 ≤ 0 → aw_z X (d + 1) y_M_holdsTest Q 22 [some (.ref 69), some (.int v1), some (.int (v2 + (1 : Int32)))] [] (aw_s I L D))
    (h2 : ¬ s0 ≤ 0 → Q (some (.int (0 : Int32))) (aw_s I L D)) :
    aw_z X (d + 1) y_M_holdsTest Q 56 [some (.ref 69), some (.int v1), some (.int v2)] [.int s0] (aw_s I L D) :=
  (z_if_le (tgt := 61) d_M_holdsTest_56 rfl (fun q1 => (s_M_holdsTest_61.go [some (.ref 69), some (.int v1), some (.int (v2 + (1 : Int32)))] [] (aw_s I L D) rfl (z_goto (tgt := 22) d_M_holdsTest_64 rfl (h1 q1)))) (fun q2 => (s_M_holdsTest_59.go [some (.ref 69), some (.int v1), some (.int v2)] [.int (0 : Int32)] (aw_s I L D) rfl (z_iret d_M_holdsTest_60 rfl (aw_nz (by decide +kernel)) (h2 q2)))))
/-! M_proof -/
theorem d_M_proof_0 : decode y_M_proof.2.1 0 = .ok (.aload_n 0, 1) := by decide +kernel
theorem d_M_proof_1 : decode y_M_proof.2.1 1 = .ok (.iconst 0, 1) := by decide +kernel
theorem d_M_proof_2 : decode y_M_proof.2.1 2 = .ok (.putfield 160, 3) := by decide +kernel
theorem d_M_proof_5 : decode y_M_proof.2.1 5 = .ok (.aload_n 0, 1) := by decide +kernel
theorem d_M_proof_6 : decode y_M_proof.2.1 6 = .ok (.getfield 482, 3) := by decide +kernel
theorem s_M_proof_0 : aw_VS y_M_proof 0 [o_ald 0, o_c (.int (0 : Int32)), o_putI 9 0, o_ald 0, o_getI 9 75] 9 := .cons (v_aload_n (i := 0) d_M_proof_0 rfl) (.cons (v_iconst (v := (0 : Int32)) d_M_proof_1 (by decide +kernel)) (.cons (v_putI (k := 0) k_M (by decide) rfl (Or.inl ⟨rfl, Or.inl w_1461⟩) d_M_proof_2) (.cons (v_aload_n (i := 0) d_M_proof_5 rfl) (.cons (v_getI (k := 75) k_M (by decide) (Or.inl rfl) (Or.inl w_1536) d_M_proof_6) .nil))))
theorem d_M_proof_9 : decode y_M_proof.2.1 9 = .ok (.ifCond .eq (10), 3) := by decide +kernel
theorem d_M_proof_19 : decode y_M_proof.2.1 19 = .ok (.bipush (-2), 2) := by decide +kernel
theorem s_M_proof_19 : aw_VS y_M_proof 19 [o_c (.int (-2 : Int32))] 21 := .cons (v_bipush (v := (-2 : Int32)) d_M_proof_19 (by decide +kernel)) .nil
theorem d_M_proof_21 : decode y_M_proof.2.1 21 = .ok (.ireturn, 1) := by decide +kernel
theorem d_M_proof_12 : decode y_M_proof.2.1 12 = .ok (.aload_n 0, 1) := by decide +kernel
theorem s_M_proof_12 : aw_VS y_M_proof 12 [o_ald 0] 13 := .cons (v_aload_n (i := 0) d_M_proof_12 rfl) .nil
theorem d_M_proof_13 : decode y_M_proof.2.1 13 = .ok (.invokevirtual 473, 3) := by decide +kernel
theorem b_M_proof_0 {X : aw_X} {d : Nat} {Q : Option Value → aw_H → Prop} {I : Nat → Nat → Int32} {L : Nat → Nat → Int64} {D : Nat → Nat} 
    (h1 : (I 69 75) = 0 → Q (some (.int (-2 : Int32))) (aw_s (aw_u I 69 0 (0 : Int32)) L D))
    (h2 : ¬ (I 69 75) = 0 → aw_m X d y_M_isSmall [.ref 69] (aw_s (aw_u I 69 0 (0 : Int32)) L D) (fun r A => aw_z X (d + 1) y_M_proof Q 16 [some (.ref 69), none, none, none, none, none] (r.toList ++ []) A)) :
    aw_z X (d + 1) y_M_proof Q 0 [some (.ref 69), none, none, none, none, none] [] (aw_s I L D) :=
  (s_M_proof_0.go [some (.ref 69), none, none, none, none, none] [.int (I 69 75)] (aw_s (aw_u I 69 0 (0 : Int32)) L D) rfl (z_if_eq (tgt := 19) d_M_proof_9 rfl (fun q1 => (s_M_proof_19.go [some (.ref 69), none, none, none, none, none] [.int (-2 : Int32)] (aw_s (aw_u I 69 0 (0 : Int32)) L D) rfl (z_iret d_M_proof_21 rfl rfl (h1 q1)))) (fun q2 => (s_M_proof_12.go [some (.ref 69), none, none, none, none, none] [.ref 69] (aw_s (aw_u I 69 0 (0 : Int32)) L D) rfl (z_callV (av := []) (st := []) ok_M_isSmall (Or.inl w_2066) w_2068 w_124 k_M d_M_proof_13 rfl (aw_lt (o := 69) rfl) rfl rfl (Nat.le_of_ble_eq_true rfl) (Nat.le_refl _) (Nat.le_refl _) (h2 q2))))))
theorem d_M_proof_16 : decode y_M_proof.2.1 16 = .ok (.ifCond .ne (6), 3) := by decide +kernel
theorem d_M_proof_22 : decode y_M_proof.2.1 22 = .ok (.aload_n 0, 1) := by decide +kernel
theorem s_M_proof_22 : aw_VS y_M_proof 22 [o_ald 0] 23 := .cons (v_aload_n (i := 0) d_M_proof_22 rfl) .nil
theorem d_M_proof_23 : decode y_M_proof.2.1 23 = .ok (.invokevirtual 495, 3) := by decide +kernel
theorem b_M_proof_16 {X : aw_X} {d : Nat} {Q : Option Value → aw_H → Prop} {I : Nat → Nat → Int32} {L : Nat → Nat → Int64} {D : Nat → Nat} {s0 : Int32}
    (h1 : ¬ s0 = 0 → aw_m X d y_M_layParts [.ref 69] (aw_s I L D) (fun r A => aw_z X (d + 1) y_M_proof Q 26 [some (.ref 69), none, none, none, none, none] (r.toList ++ []) A))
    (h2 : s0 = 0 → Q (some (.int (-2 : Int32))) (aw_s I L D)) :
    aw_z X (d + 1) y_M_proof Q 16 [some (.ref 69), none, none, none, none, none] [.int s0] (aw_s I L D) :=
  (z_if_ne (tgt := 22) d_M_proof_16 rfl (fun q1 => (s_M_proof_22.go [some (.ref 69), none, none, none, none, none] [.ref 69] (aw_s I L D) rfl (z_callV (av := []) (st := []) ok_M_layParts (Or.inl w_2098) w_2100 w_128 k_M d_M_proof_23 rfl (aw_lt (o := 69) rfl) rfl rfl (Nat.le_of_ble_eq_true rfl) (Nat.le_refl _) (Nat.le_refl _) (h1 q1)))) (fun q2 => (s_M_proof_19.go [some (.ref 69), none, none, none, none, none] [.int (-2 : Int32)] (aw_s I L D) rfl (z_iret d_M_proof_21 rfl rfl (h2 q2)))))
theorem d_M_proof_26 : decode y_M_proof.2.1 26 = .ok (.aload_n 0, 1) := by decide +kernel
theorem d_M_proof_27 : decode y_M_proof.2.1 27 = .ok (.getfield 148, 3) := by decide +kernel
theorem d_M_proof_30 : decode y_M_proof.2.1 30 = .ok (.aload_n 0, 1) := by decide +kernel
theorem s_M_proof_26 : aw_VS y_M_proof 26 [o_ald 0, o_getA 9 80, o_ald 0] 31 := .cons (v_aload_n (i := 0) d_M_proof_26 rfl) (.cons (v_getA (k := 80) k_M (by decide) rfl (Or.inl w_1541) d_M_proof_27) (.cons (v_aload_n (i := 0) d_M_proof_30 rfl) .nil))
theorem d_M_proof_31 : decode y_M_proof.2.1 31 = .ok (.invokevirtual 488, 3) := by decide +kernel
theorem b_M_proof_26 {X : aw_X} {d : Nat} {Q : Option Value → aw_H → Prop} {I : Nat → Nat → Int32} {L : Nat → Nat → Int64} {D : Nat → Nat} 
    (h1 : aw_m X d y_M_partBits [.ref 69] (aw_s I L D) (fun r A => aw_z X (d + 1) y_M_proof Q 34 [some (.ref 69), none, none, none, none, none] (r.toList ++ [.ref 111]) A)) :
    aw_z X (d + 1) y_M_proof Q 26 [some (.ref 69), none, none, none, none, none] [] (aw_s I L D) :=
  (s_M_proof_26.go [some (.ref 69), none, none, none, none, none] [.ref 69, .ref 111] (aw_s I L D) rfl (z_callV (av := []) (st := [.ref 111]) ok_M_partBits (Or.inl w_2102) w_2104 w_129 k_M d_M_proof_31 rfl (aw_lt (o := 69) rfl) rfl rfl (Nat.le_of_ble_eq_true rfl) (Nat.le_refl _) (Nat.le_refl _) (h1)))
theorem d_M_proof_34 : decode y_M_proof.2.1 34 = .ok (.iaload, 1) := by decide +kernel
theorem d_M_proof_35 : decode y_M_proof.2.1 35 = .ok (.iconst 1, 1) := by decide +kernel
theorem d_M_proof_36 : decode y_M_proof.2.1 36 = .ok (.isub, 1) := by decide +kernel
theorem d_M_proof_37 : decode y_M_proof.2.1 37 = .ok (.istore_n 1, 1) := by decide +kernel
theorem d_M_proof_38 : decode y_M_proof.2.1 38 = .ok (.aload_n 0, 1) := by decide +kernel
theorem d_M_proof_39 : decode y_M_proof.2.1 39 = .ok (.getfield 142, 3) := by decide +kernel
theorem d_M_proof_42 : decode y_M_proof.2.1 42 = .ok (.iload_n 1, 1) := by decide +kernel
theorem s_M_proof_35 : aw_VS y_M_proof 35 [o_c (.int (1 : Int32)), o_i2 (fun x z => x - z), o_ist 1, o_ald 0, o_getA 9 78, o_ild 1] 43 := .cons (v_iconst (v := (1 : Int32)) d_M_proof_35 (by decide +kernel)) (.cons (v_isub d_M_proof_36) (.cons (v_istore_n d_M_proof_37) (.cons (v_aload_n (i := 0) d_M_proof_38 rfl) (.cons (v_getA (k := 78) k_M (by decide) rfl (Or.inl w_1539) d_M_proof_39) (.cons (v_iload_n (i := 1) d_M_proof_42 rfl) .nil)))))
theorem d_M_proof_43 : decode y_M_proof.2.1 43 = .ok (.iaload, 1) := by decide +kernel
theorem d_M_proof_44 : decode y_M_proof.2.1 44 = .ok (.ldc_w 494, 3) := by decide +kernel
theorem s_M_proof_44 : aw_VS y_M_proof 44 [o_c (.int (1000000 : Int32))] 47 := .cons (v_ldc_w d_M_proof_44 w_2110) .nil
theorem d_M_proof_47 : decode y_M_proof.2.1 47 = .ok (.if_icmp .lt (5), 3) := by decide +kernel
theorem d_M_proof_52 : decode y_M_proof.2.1 52 = .ok (.iconst 0, 1) := by decide +kernel
theorem d_M_proof_53 : decode y_M_proof.2.1 53 = .ok (.istore_n 2, 1) := by decide +kernel
theorem d_M_proof_54 : decode y_M_proof.2.1 54 = .ok (.iconst 1, 1) := by decide +kernel
theorem d_M_proof_55 : decode y_M_proof.2.1 55 = .ok (.istore_n 3, 1) := by decide +kernel
theorem d_M_proof_56 : decode y_M_proof.2.1 56 = .ok (.aload_n 0, 1) := by decide +kernel
theorem d_M_proof_57 : decode y_M_proof.2.1 57 = .ok (.getfield 154, 3) := by decide +kernel
theorem d_M_proof_60 : decode y_M_proof.2.1 60 = .ok (.iconst 0, 1) := by decide +kernel
theorem d_M_proof_61 : decode y_M_proof.2.1 61 = .ok (.iload_n 1, 1) := by decide +kernel
theorem s_M_proof_52 : aw_VS y_M_proof 52 [o_c (.int (0 : Int32)), o_ist 2, o_c (.int (1 : Int32)), o_ist 3, o_ald 0, o_getA 9 82, o_c (.int (0 : Int32)), o_ild 1] 62 := .cons (v_iconst (v := (0 : Int32)) d_M_proof_52 (by decide +kernel)) (.cons (v_istore_n d_M_proof_53) (.cons (v_iconst (v := (1 : Int32)) d_M_proof_54 (by decide +kernel)) (.cons (v_istore_n d_M_proof_55) (.cons (v_aload_n (i := 0) d_M_proof_56 rfl) (.cons (v_getA (k := 82) k_M (by decide) rfl (Or.inl w_1543) d_M_proof_57) (.cons (v_iconst (v := (0 : Int32)) d_M_proof_60 (by decide +kernel)) (.cons (v_iload_n (i := 1) d_M_proof_61 rfl) .nil)))))))
theorem d_M_proof_62 : decode y_M_proof.2.1 62 = .ok (.iastore, 1) := by decide +kernel
theorem d_M_proof_50 : decode y_M_proof.2.1 50 = .ok (.iconst (-1), 1) := by decide +kernel
theorem s_M_proof_50 : aw_VS y_M_proof 50 [o_c (.int (-1 : Int32))] 51 := .cons (v_iconst (v := (-1 : Int32)) d_M_proof_50 (by decide +kernel)) .nil
theorem d_M_proof_51 : decode y_M_proof.2.1 51 = .ok (.ireturn, 1) := by decide +kernel
theorem b_M_proof_34 {X : aw_X} {d : Nat} {Q : Option Value → aw_H → Prop} {I : Nat → Nat → Int32} {L : Nat → Nat → Int64} {D : Nat → Nat} {s1 : Int32}
    (h1 : vp_in s1 9)
    (h2 : vp_in ((I 111 s1.toNatClampNeg) - (1 : Int32)) 6561)
    (h3 : (I 109 (((I 111 s1.toNatClampNeg) - (1 : Int32)).toNatClampNeg)) < (1000000 : Int32) → aw_z X (d + 1) y_M_proof Q 63 [some (.ref 69), none, some (.int (0 : Int32)), some (.int (1 : Int32)), none, none] [] (aw_s (aw_u I 113 0 ((I 111 s1.toNatClampNeg) - (1 : Int32))) L D))
    (h4 : ¬ (I 109 (((I 111 s1.toNatClampNeg) - (1 : Int32)).toNatClampNeg)) < (1000000 : Int32) → Q (some (.int (-1 : Int32))) (aw_s I L D)) :
    aw_z X (d + 1) y_M_proof Q 34 [some (.ref 69), none, none, none, none, none] [.int s1, .ref 111] (aw_s I L D) :=
  (z_iald (n := 9) rfl (aw_lt (o := 111) rfl) (h1) d_M_proof_34 (s_M_proof_35.go [some (.ref 69), some (.int ((I 111 s1.toNatClampNeg) - (1 : Int32))), none, none, none, none] [.int ((I 111 s1.toNatClampNeg) - (1 : Int32)), .ref 109] (aw_s I L D) rfl (z_iald (n := 6561) rfl (aw_lt (o := 109) rfl) (h2) d_M_proof_43 (s_M_proof_44.go [some (.ref 69), some (.int ((I 111 s1.toNatClampNeg) - (1 : Int32))), none, none, none, none] [.int (1000000 : Int32), .int (I 109 (((I 111 s1.toNatClampNeg) - (1 : Int32)).toNatClampNeg))] (aw_s I L D) rfl (z_icmp_lt (tgt := 52) d_M_proof_47 rfl (fun q1 => (s_M_proof_52.go [some (.ref 69), some (.int ((I 111 s1.toNatClampNeg) - (1 : Int32))), some (.int (0 : Int32)), some (.int (1 : Int32)), none, none] [.int ((I 111 s1.toNatClampNeg) - (1 : Int32)), .int (0 : Int32), .ref 113] (aw_s I L D) rfl (z_iast (n := 600) rfl (aw_lt (o := 113) rfl) (aw_lin (by decide +kernel) (by decide +kernel)) d_M_proof_62 (aw_Z.weak (ls' := [some (.ref 69), none, some (.int (0 : Int32)), some (.int (1 : Int32)), none, none]) (h3 q1) (Nat.le_of_ble_eq_true rfl) ⟨Or.inr rfl, ⟨Or.inl rfl, ⟨Or.inr rfl, ⟨Or.inr rfl, ⟨Or.inl rfl, ⟨Or.inl rfl, trivial⟩⟩⟩⟩⟩⟩)))) (fun q2 => (s_M_proof_50.go [some (.ref 69), some (.int ((I 111 s1.toNatClampNeg) - (1 : Int32))), none, none, none, none] [.int (-1 : Int32)] (aw_s I L D) rfl (z_iret d_M_proof_51 rfl rfl (h4 q2)))))))))
theorem d_M_proof_63 : decode y_M_proof.2.1 63 = .ok (.iload_n 3, 1) := by decide +kernel
theorem s_M_proof_63 : aw_VS y_M_proof 63 [o_ild 3] 64 := .cons (v_iload_n (i := 3) d_M_proof_63 rfl) .nil
theorem d_M_proof_64 : decode y_M_proof.2.1 64 = .ok (.ifCond .le (108), 3) := by decide +kernel
theorem d_M_proof_172 : decode y_M_proof.2.1 172 = .ok (.aload_n 0, 1) := by decide +kernel
theorem d_M_proof_173 : decode y_M_proof.2.1 173 = .ok (.iload_n 2, 1) := by decide +kernel
theorem d_M_proof_174 : decode y_M_proof.2.1 174 = .ok (.putfield 501, 3) := by decide +kernel
theorem d_M_proof_177 : decode y_M_proof.2.1 177 = .ok (.iload_n 2, 1) := by decide +kernel
theorem s_M_proof_172 : aw_VS y_M_proof 172 [o_ald 0, o_ild 2, o_putI 9 83, o_ild 2] 178 := .cons (v_aload_n (i := 0) d_M_proof_172 rfl) (.cons (v_iload_n (i := 2) d_M_proof_173 rfl) (.cons (v_putI (k := 83) k_M (by decide) rfl (Or.inl ⟨rfl, Or.inl w_1544⟩) d_M_proof_174) (.cons (v_iload_n (i := 2) d_M_proof_177 rfl) .nil)))
theorem d_M_proof_178 : decode y_M_proof.2.1 178 = .ok (.ireturn, 1) := by decide +kernel
theorem d_M_proof_67 : decode y_M_proof.2.1 67 = .ok (.iinc 3 (-1), 3) := by decide +kernel
theorem d_M_proof_70 : decode y_M_proof.2.1 70 = .ok (.aload_n 0, 1) := by decide +kernel
theorem d_M_proof_71 : decode y_M_proof.2.1 71 = .ok (.getfield 154, 3) := by decide +kernel
theorem d_M_proof_74 : decode y_M_proof.2.1 74 = .ok (.iload_n 3, 1) := by decide +kernel
theorem s_M_proof_67 : aw_VS y_M_proof 67 [o_inc 3 (-1 : Int32), o_ald 0, o_getA 9 82, o_ild 3] 75 := .cons (v_iinc (k0 := (-1 : Int32)) d_M_proof_67 (by decide +kernel)) (.cons (v_aload_n (i := 0) d_M_proof_70 rfl) (.cons (v_getA (k := 82) k_M (by decide) rfl (Or.inl w_1543) d_M_proof_71) (.cons (v_iload_n (i := 3) d_M_proof_74 rfl) .nil)))
theorem d_M_proof_75 : decode y_M_proof.2.1 75 = .ok (.iaload, 1) := by decide +kernel
theorem d_M_proof_76 : decode y_M_proof.2.1 76 = .ok (.istore 4, 2) := by decide +kernel
theorem d_M_proof_78 : decode y_M_proof.2.1 78 = .ok (.aload_n 0, 1) := by decide +kernel
theorem d_M_proof_79 : decode y_M_proof.2.1 79 = .ok (.getfield 139, 3) := by decide +kernel
theorem d_M_proof_82 : decode y_M_proof.2.1 82 = .ok (.iload 4, 2) := by decide +kernel
theorem s_M_proof_76 : aw_VS y_M_proof 76 [o_ist 4, o_ald 0, o_getA 9 77, o_ild 4] 84 := .cons (v_istore d_M_proof_76) (.cons (v_aload_n (i := 0) d_M_proof_78 rfl) (.cons (v_getA (k := 77) k_M (by decide) rfl (Or.inl w_1538) d_M_proof_79) (.cons (v_iload (i := 4) d_M_proof_82) .nil)))
theorem d_M_proof_84 : decode y_M_proof.2.1 84 = .ok (.iaload, 1) := by decide +kernel
theorem d_M_proof_85 : decode y_M_proof.2.1 85 = .ok (.ifCond .eq (25), 3) := by decide +kernel
theorem d_M_proof_110 : decode y_M_proof.2.1 110 = .ok (.aload_n 0, 1) := by decide +kernel
theorem d_M_proof_111 : decode y_M_proof.2.1 111 = .ok (.getfield 145, 3) := by decide +kernel
theorem d_M_proof_114 : decode y_M_proof.2.1 114 = .ok (.iload 4, 2) := by decide +kernel
theorem s_M_proof_110 : aw_VS y_M_proof 110 [o_ald 0, o_getA 9 79, o_ild 4] 116 := .cons (v_aload_n (i := 0) d_M_proof_110 rfl) (.cons (v_getA (k := 79) k_M (by decide) rfl (Or.inl w_1540) d_M_proof_111) (.cons (v_iload (i := 4) d_M_proof_114) .nil))
theorem d_M_proof_116 : decode y_M_proof.2.1 116 = .ok (.iaload, 1) := by decide +kernel
theorem d_M_proof_117 : decode y_M_proof.2.1 117 = .ok (.istore 5, 2) := by decide +kernel
theorem d_M_proof_119 : decode y_M_proof.2.1 119 = .ok (.aload_n 0, 1) := by decide +kernel
theorem d_M_proof_120 : decode y_M_proof.2.1 120 = .ok (.getfield 151, 3) := by decide +kernel
theorem d_M_proof_123 : decode y_M_proof.2.1 123 = .ok (.iload_n 2, 1) := by decide +kernel
theorem d_M_proof_124 : decode y_M_proof.2.1 124 = .ok (.iload 5, 2) := by decide +kernel
theorem s_M_proof_117 : aw_VS y_M_proof 117 [o_ist 5, o_ald 0, o_getA 9 81, o_ild 2, o_ild 5] 126 := .cons (v_istore d_M_proof_117) (.cons (v_aload_n (i := 0) d_M_proof_119 rfl) (.cons (v_getA (k := 81) k_M (by decide) rfl (Or.inl w_1542) d_M_proof_120) (.cons (v_iload_n (i := 2) d_M_proof_123 rfl) (.cons (v_iload (i := 5) d_M_proof_124) .nil))))
theorem d_M_proof_126 : decode y_M_proof.2.1 126 = .ok (.iastore, 1) := by decide +kernel
theorem d_M_proof_127 : decode y_M_proof.2.1 127 = .ok (.aload_n 0, 1) := by decide +kernel
theorem d_M_proof_128 : decode y_M_proof.2.1 128 = .ok (.getfield 154, 3) := by decide +kernel
theorem d_M_proof_131 : decode y_M_proof.2.1 131 = .ok (.iload_n 3, 1) := by decide +kernel
theorem d_M_proof_132 : decode y_M_proof.2.1 132 = .ok (.iload 4, 2) := by decide +kernel
theorem d_M_proof_134 : decode y_M_proof.2.1 134 = .ok (.aload_n 0, 1) := by decide +kernel
theorem d_M_proof_135 : decode y_M_proof.2.1 135 = .ok (.getfield 148, 3) := by decide +kernel
theorem d_M_proof_138 : decode y_M_proof.2.1 138 = .ok (.iload 5, 2) := by decide +kernel
theorem s_M_proof_127 : aw_VS y_M_proof 127 [o_ald 0, o_getA 9 82, o_ild 3, o_ild 4, o_ald 0, o_getA 9 80, o_ild 5] 140 := .cons (v_aload_n (i := 0) d_M_proof_127 rfl) (.cons (v_getA (k := 82) k_M (by decide) rfl (Or.inl w_1543) d_M_proof_128) (.cons (v_iload_n (i := 3) d_M_proof_131 rfl) (.cons (v_iload (i := 4) d_M_proof_132) (.cons (v_aload_n (i := 0) d_M_proof_134 rfl) (.cons (v_getA (k := 80) k_M (by decide) rfl (Or.inl w_1541) d_M_proof_135) (.cons (v_iload (i := 5) d_M_proof_138) .nil))))))
theorem d_M_proof_140 : decode y_M_proof.2.1 140 = .ok (.iaload, 1) := by decide +kernel
theorem d_M_proof_141 : decode y_M_proof.2.1 141 = .ok (.isub, 1) := by decide +kernel
theorem s_M_proof_141 : aw_VS y_M_proof 141 [o_i2 (fun x z => x - z)] 142 := .cons (v_isub d_M_proof_141) .nil
theorem d_M_proof_142 : decode y_M_proof.2.1 142 = .ok (.iastore, 1) := by decide +kernel
theorem d_M_proof_143 : decode y_M_proof.2.1 143 = .ok (.aload_n 0, 1) := by decide +kernel
theorem d_M_proof_144 : decode y_M_proof.2.1 144 = .ok (.getfield 154, 3) := by decide +kernel
theorem d_M_proof_147 : decode y_M_proof.2.1 147 = .ok (.iload_n 3, 1) := by decide +kernel
theorem d_M_proof_148 : decode y_M_proof.2.1 148 = .ok (.iconst 1, 1) := by decide +kernel
theorem d_M_proof_149 : decode y_M_proof.2.1 149 = .ok (.iadd, 1) := by decide +kernel
theorem d_M_proof_150 : decode y_M_proof.2.1 150 = .ok (.iload 4, 2) := by decide +kernel
theorem d_M_proof_152 : decode y_M_proof.2.1 152 = .ok (.iconst 2, 1) := by decide +kernel
theorem d_M_proof_153 : decode y_M_proof.2.1 153 = .ok (.aload_n 0, 1) := by decide +kernel
theorem d_M_proof_154 : decode y_M_proof.2.1 154 = .ok (.getfield 148, 3) := by decide +kernel
theorem d_M_proof_157 : decode y_M_proof.2.1 157 = .ok (.iload 5, 2) := by decide +kernel
theorem s_M_proof_143 : aw_VS y_M_proof 143 [o_ald 0, o_getA 9 82, o_ild 3, o_c (.int (1 : Int32)), o_i2 (fun x z => x + z), o_ild 4, o_c (.int (2 : Int32)), o_ald 0, o_getA 9 80, o_ild 5] 159 := .cons (v_aload_n (i := 0) d_M_proof_143 rfl) (.cons (v_getA (k := 82) k_M (by decide) rfl (Or.inl w_1543) d_M_proof_144) (.cons (v_iload_n (i := 3) d_M_proof_147 rfl) (.cons (v_iconst (v := (1 : Int32)) d_M_proof_148 (by decide +kernel)) (.cons (v_iadd d_M_proof_149) (.cons (v_iload (i := 4) d_M_proof_150) (.cons (v_iconst (v := (2 : Int32)) d_M_proof_152 (by decide +kernel)) (.cons (v_aload_n (i := 0) d_M_proof_153 rfl) (.cons (v_getA (k := 80) k_M (by decide) rfl (Or.inl w_1541) d_M_proof_154) (.cons (v_iload (i := 5) d_M_proof_157) .nil)))))))))
theorem d_M_proof_159 : decode y_M_proof.2.1 159 = .ok (.iaload, 1) := by decide +kernel
theorem d_M_proof_160 : decode y_M_proof.2.1 160 = .ok (.imul, 1) := by decide +kernel
theorem d_M_proof_161 : decode y_M_proof.2.1 161 = .ok (.isub, 1) := by decide +kernel
theorem s_M_proof_160 : aw_VS y_M_proof 160 [o_i2 (fun x z => x * z), o_i2 (fun x z => x - z)] 162 := .cons (v_imul d_M_proof_160) (.cons (v_isub d_M_proof_161) .nil)
theorem d_M_proof_162 : decode y_M_proof.2.1 162 = .ok (.iastore, 1) := by decide +kernel
theorem d_M_proof_163 : decode y_M_proof.2.1 163 = .ok (.iinc 3 (2), 3) := by decide +kernel
theorem s_M_proof_163 : aw_VS y_M_proof 163 [o_inc 3 (2 : Int32)] 166 := .cons (v_iinc (k0 := (2 : Int32)) d_M_proof_163 (by decide +kernel)) .nil
theorem d_M_proof_166 : decode y_M_proof.2.1 166 = .ok (.iinc 2 (1), 3) := by decide +kernel
theorem s_M_proof_166 : aw_VS y_M_proof 166 [o_inc 2 (1 : Int32)] 169 := .cons (v_iinc (k0 := (1 : Int32)) d_M_proof_166 (by decide +kernel)) .nil
theorem d_M_proof_169 : decode y_M_proof.2.1 169 = .ok (.goto (-106), 3) := by decide +kernel
theorem d_M_proof_88 : decode y_M_proof.2.1 88 = .ok (.aload_n 0, 1) := by decide +kernel
theorem d_M_proof_89 : decode y_M_proof.2.1 89 = .ok (.getfield 151, 3) := by decide +kernel
theorem d_M_proof_92 : decode y_M_proof.2.1 92 = .ok (.iload_n 2, 1) := by decide +kernel
theorem d_M_proof_93 : decode y_M_proof.2.1 93 = .ok (.bipush 100, 2) := by decide +kernel
theorem d_M_proof_95 : decode y_M_proof.2.1 95 = .ok (.aload_n 0, 1) := by decide +kernel
theorem d_M_proof_96 : decode y_M_proof.2.1 96 = .ok (.getfield 139, 3) := by decide +kernel
theorem d_M_proof_99 : decode y_M_proof.2.1 99 = .ok (.iload 4, 2) := by decide +kernel
theorem s_M_proof_88 : aw_VS y_M_proof 88 [o_ald 0, o_getA 9 81, o_ild 2, o_c (.int (100 : Int32)), o_ald 0, o_getA 9 77, o_ild 4] 101 := .cons (v_aload_n (i := 0) d_M_proof_88 rfl) (.cons (v_getA (k := 81) k_M (by decide) rfl (Or.inl w_1542) d_M_proof_89) (.cons (v_iload_n (i := 2) d_M_proof_92 rfl) (.cons (v_bipush (v := (100 : Int32)) d_M_proof_93 (by decide +kernel)) (.cons (v_aload_n (i := 0) d_M_proof_95 rfl) (.cons (v_getA (k := 77) k_M (by decide) rfl (Or.inl w_1538) d_M_proof_96) (.cons (v_iload (i := 4) d_M_proof_99) .nil))))))
theorem d_M_proof_101 : decode y_M_proof.2.1 101 = .ok (.iaload, 1) := by decide +kernel
theorem d_M_proof_102 : decode y_M_proof.2.1 102 = .ok (.invokestatic 498, 3) := by decide +kernel
theorem b_M_proof_63 {X : aw_X} {d : Nat} {Q : Option Value → aw_H → Prop} {I : Nat → Nat → Int32} {L : Nat → Nat → Int64} {D : Nat → Nat} {v2 : Int32} {v3 : Int32}
    (h1 : v3 ≤ 0 → Q (some (.int v2)) (aw_s (aw_u I 69 83 v2) L D))
    (h2 : ¬ v3 ≤ 0 → vp_in (v3 + (-1 : Int32)) 600)
    (h3 : ¬ v3 ≤ 0 → vp_in (I 113 ((v3 + (-1 : Int32)).toNatClampNeg)) 6561)
    (h4 : ¬ v3 ≤ 0 → (I 108 ((I 113 ((v3 + (-1 : Int32)).toNatClampNeg)).toNatClampNeg)) = 0 → vp_in (I 113 ((v3 + (-1 : Int32)).toNatClampNeg)) 6561)
    (h5 : ¬ v3 ≤ 0 → (I 108 ((I 113 ((v3 + (-1 : Int32)).toNatClampNeg)).toNatClampNeg)) = 0 → vp_in v2 600)
    (h6 : ¬ v3 ≤ 0 → (I 108 ((I 113 ((v3 + (-1 : Int32)).toNatClampNeg)).toNatClampNeg)) = 0 → vp_in (I 110 ((I 113 ((v3 + (-1 : Int32)).toNatClampNeg)).toNatClampNeg)) 9)
    (h7 : ¬ v3 ≤ 0 → (I 108 ((I 113 ((v3 + (-1 : Int32)).toNatClampNeg)).toNatClampNeg)) = 0 → vp_in (v3 + (-1 : Int32)) 600)
    (h8 : ¬ v3 ≤ 0 → (I 108 ((I 113 ((v3 + (-1 : Int32)).toNatClampNeg)).toNatClampNeg)) = 0 → vp_in (I 110 ((I 113 ((v3 + (-1 : Int32)).toNatClampNeg)).toNatClampNeg)) 9)
    (h9 : ¬ v3 ≤ 0 → (I 108 ((I 113 ((v3 + (-1 : Int32)).toNatClampNeg)).toNatClampNeg)) = 0 → vp_in ((v3 + (-1 : Int32)) + (1 : Int32)) 600)
    (h10 : ¬ v3 ≤ 0 → (I 108 ((I 113 ((v3 + (-1 : Int32)).toNatClampNeg)).toNatClampNeg)) = 0 → aw_z X (d + 1) y_M_proof Q 63 [some (.ref 69), none, some (.int (v2 + (1 : Int32))), some (.int ((v3 + (-1 : Int32)) + (2 : Int32))), none, none] [] (aw_s (aw_u (aw_u (aw_u I 112 v2.toNatClampNeg (I 110 ((I 113 ((v3 + (-1 : Int32)).toNatClampNeg)).toNatClampNeg))) 113 ((v3 + (-1 : Int32)).toNatClampNeg) ((I 113 ((v3 + (-1 : Int32)).toNatClampNeg)) - (I 111 ((I 110 ((I 113 ((v3 + (-1 : Int32)).toNatClampNeg)).toNatClampNeg)).toNatClampNeg)))) 113 (((v3 + (-1 : Int32)) + (1 : Int32)).toNatClampNeg) ((I 113 ((v3 + (-1 : Int32)).toNatClampNeg)) - ((2 : Int32) * (I 111 ((I 110 ((I 113 ((v3 + (-1 : Int32)).toNatClampNeg)).toNatClampNeg)).toNatClampNeg))))) L D))
    (h11 : ¬ v3 ≤ 0 → ¬ (I 108 ((I 113 ((v3 + (-1 : Int32)).toNatClampNeg)).toNatClampNeg)) = 0 → vp_in (I 113 ((v3 + (-1 : Int32)).toNatClampNeg)) 6561)
    (h12 : ¬ v3 ≤ 0 → ¬ (I 108 ((I 113 ((v3 + (-1 : Int32)).toNatClampNeg)).toNatClampNeg)) = 0 → aw_m X d y_M_lowest [.int (I 108 ((I 113 ((v3 + (-1 : Int32)).toNatClampNeg)).toNatClampNeg))] (aw_s I L D) (fun r A => aw_z X (d + 1) y_M_proof Q 105 [some (.ref 69), none, some (.int v2), some (.int (v3 + (-1 : Int32))), none, none] (r.toList ++ [.int (100 : Int32), .int v2, .ref 112]) A)) :
    aw_z X (d + 1) y_M_proof Q 63 [some (.ref 69), none, some (.int v2), some (.int v3), none, none] [] (aw_s I L D) :=
  (s_M_proof_63.go [some (.ref 69), none, some (.int v2), some (.int v3), none, none] [.int v3] (aw_s I L D) rfl (z_if_le (tgt := 172) d_M_proof_64 rfl (fun q1 => (s_M_proof_172.go [some (.ref 69), none, some (.int v2), some (.int v3), none, none] [.int v2] (aw_s (aw_u I 69 83 v2) L D) rfl (z_iret d_M_proof_178 rfl rfl (h1 q1)))) (fun q2 => (s_M_proof_67.go [some (.ref 69), none, some (.int v2), some (.int (v3 + (-1 : Int32))), none, none] [.int (v3 + (-1 : Int32)), .ref 113] (aw_s I L D) rfl (z_iald (n := 600) rfl (aw_lt (o := 113) rfl) (h2 q2) d_M_proof_75 (s_M_proof_76.go [some (.ref 69), none, some (.int v2), some (.int (v3 + (-1 : Int32))), some (.int (I 113 ((v3 + (-1 : Int32)).toNatClampNeg))), none] [.int (I 113 ((v3 + (-1 : Int32)).toNatClampNeg)), .ref 108] (aw_s I L D) rfl (z_iald (n := 6561) rfl (aw_lt (o := 108) rfl) (h3 q2) d_M_proof_84 (z_if_eq (tgt := 110) d_M_proof_85 rfl (fun q3 => (s_M_proof_110.go [some (.ref 69), none, some (.int v2), some (.int (v3 + (-1 : Int32))), some (.int (I 113 ((v3 + (-1 : Int32)).toNatClampNeg))), none] [.int (I 113 ((v3 + (-1 : Int32)).toNatClampNeg)), .ref 110] (aw_s I L D) rfl (z_iald (n := 6561) rfl (aw_lt (o := 110) rfl) (h4 q2 q3) d_M_proof_116 (s_M_proof_117.go [some (.ref 69), none, some (.int v2), some (.int (v3 + (-1 : Int32))), some (.int (I 113 ((v3 + (-1 : Int32)).toNatClampNeg))), some (.int (I 110 ((I 113 ((v3 + (-1 : Int32)).toNatClampNeg)).toNatClampNeg)))] [.int (I 110 ((I 113 ((v3 + (-1 : Int32)).toNatClampNeg)).toNatClampNeg)), .int v2, .ref 112] (aw_s I L D) rfl (z_iast (n := 600) rfl (aw_lt (o := 112) rfl) (h5 q2 q3) d_M_proof_126 (s_M_proof_127.go [some (.ref 69), none, some (.int v2), some (.int (v3 + (-1 : Int32))), some (.int (I 113 ((v3 + (-1 : Int32)).toNatClampNeg))), some (.int (I 110 ((I 113 ((v3 + (-1 : Int32)).toNatClampNeg)).toNatClampNeg)))] [.int (I 110 ((I 113 ((v3 + (-1 : Int32)).toNatClampNeg)).toNatClampNeg)), .ref 111, .int (I 113 ((v3 + (-1 : Int32)).toNatClampNeg)), .int (v3 + (-1 : Int32)), .ref 113] (aw_s (aw_u I 112 v2.toNatClampNeg (I 110 ((I 113 ((v3 + (-1 : Int32)).toNatClampNeg)).toNatClampNeg))) L D) rfl (z_iald (n := 9) rfl (aw_lt (o := 111) rfl) (h6 q2 q3) d_M_proof_140 (s_M_proof_141.go [some (.ref 69), none, some (.int v2), some (.int (v3 + (-1 : Int32))), some (.int (I 113 ((v3 + (-1 : Int32)).toNatClampNeg))), some (.int (I 110 ((I 113 ((v3 + (-1 : Int32)).toNatClampNeg)).toNatClampNeg)))] [.int ((I 113 ((v3 + (-1 : Int32)).toNatClampNeg)) - (I 111 ((I 110 ((I 113 ((v3 + (-1 : Int32)).toNatClampNeg)).toNatClampNeg)).toNatClampNeg))), .int (v3 + (-1 : Int32)), .ref 113] (aw_s (aw_u I 112 v2.toNatClampNeg (I 110 ((I 113 ((v3 + (-1 : Int32)).toNatClampNeg)).toNatClampNeg))) L D) rfl (z_iast (n := 600) rfl (aw_lt (o := 113) rfl) (h7 q2 q3) d_M_proof_142 (s_M_proof_143.go [some (.ref 69), none, some (.int v2), some (.int (v3 + (-1 : Int32))), some (.int (I 113 ((v3 + (-1 : Int32)).toNatClampNeg))), some (.int (I 110 ((I 113 ((v3 + (-1 : Int32)).toNatClampNeg)).toNatClampNeg)))] [.int (I 110 ((I 113 ((v3 + (-1 : Int32)).toNatClampNeg)).toNatClampNeg)), .ref 111, .int (2 : Int32), .int (I 113 ((v3 + (-1 : Int32)).toNatClampNeg)), .int ((v3 + (-1 : Int32)) + (1 : Int32)), .ref 113] (aw_s (aw_u (aw_u I 112 v2.toNatClampNeg (I 110 ((I 113 ((v3 + (-1 : Int32)).toNatClampNeg)).toNatClampNeg))) 113 ((v3 + (-1 : Int32)).toNatClampNeg) ((I 113 ((v3 + (-1 : Int32)).toNatClampNeg)) - (I 111 ((I 110 ((I 113 ((v3 + (-1 : Int32)).toNatClampNeg)).toNatClampNeg)).toNatClampNeg)))) L D) rfl (z_iald (n := 9) rfl (aw_lt (o := 111) rfl) (h8 q2 q3) d_M_proof_159 (s_M_proof_160.go [some (.ref 69), none, some (.int v2), some (.int (v3 + (-1 : Int32))), some (.int (I 113 ((v3 + (-1 : Int32)).toNatClampNeg))), some (.int (I 110 ((I 113 ((v3 + (-1 : Int32)).toNatClampNeg)).toNatClampNeg)))] [.int ((I 113 ((v3 + (-1 : Int32)).toNatClampNeg)) - ((2 : Int32) * (I 111 ((I 110 ((I 113 ((v3 + (-1 : Int32)).toNatClampNeg)).toNatClampNeg)).toNatClampNeg)))), .int ((v3 + (-1 : Int32)) + (1 : Int32)), .ref 113] (aw_s (aw_u (aw_u I 112 v2.toNatClampNeg (I 110 ((I 113 ((v3 + (-1 : Int32)).toNatClampNeg)).toNatClampNeg))) 113 ((v3 + (-1 : Int32)).toNatClampNeg) ((I 113 ((v3 + (-1 : Int32)).toNatClampNeg)) - (I 111 ((I 110 ((I 113 ((v3 + (-1 : Int32)).toNatClampNeg)).toNatClampNeg)).toNatClampNeg)))) L D) rfl (z_iast (n := 600) rfl (aw_lt (o := 113) rfl) (h9 q2 q3) d_M_proof_162 (s_M_proof_163.go [some (.ref 69), none, some (.int v2), some (.int ((v3 + (-1 : Int32)) + (2 : Int32))), some (.int (I 113 ((v3 + (-1 : Int32)).toNatClampNeg))), some (.int (I 110 ((I 113 ((v3 + (-1 : Int32)).toNatClampNeg)).toNatClampNeg)))] [] (aw_s (aw_u (aw_u (aw_u I 112 v2.toNatClampNeg (I 110 ((I 113 ((v3 + (-1 : Int32)).toNatClampNeg)).toNatClampNeg))) 113 ((v3 + (-1 : Int32)).toNatClampNeg) ((I 113 ((v3 + (-1 : Int32)).toNatClampNeg)) - (I 111 ((I 110 ((I 113 ((v3 + (-1 : Int32)).toNatClampNeg)).toNatClampNeg)).toNatClampNeg)))) 113 (((v3 + (-1 : Int32)) + (1 : Int32)).toNatClampNeg) ((I 113 ((v3 + (-1 : Int32)).toNatClampNeg)) - ((2 : Int32) * (I 111 ((I 110 ((I 113 ((v3 + (-1 : Int32)).toNatClampNeg)).toNatClampNeg)).toNatClampNeg))))) L D) rfl (s_M_proof_166.go [some (.ref 69), none, some (.int (v2 + (1 : Int32))), some (.int ((v3 + (-1 : Int32)) + (2 : Int32))), some (.int (I 113 ((v3 + (-1 : Int32)).toNatClampNeg))), some (.int (I 110 ((I 113 ((v3 + (-1 : Int32)).toNatClampNeg)).toNatClampNeg)))] [] (aw_s (aw_u (aw_u (aw_u I 112 v2.toNatClampNeg (I 110 ((I 113 ((v3 + (-1 : Int32)).toNatClampNeg)).toNatClampNeg))) 113 ((v3 + (-1 : Int32)).toNatClampNeg) ((I 113 ((v3 + (-1 : Int32)).toNatClampNeg)) - (I 111 ((I 110 ((I 113 ((v3 + (-1 : Int32)).toNatClampNeg)).toNatClampNeg)).toNatClampNeg)))) 113 (((v3 + (-1 : Int32)) + (1 : Int32)).toNatClampNeg) ((I 113 ((v3 + (-1 : Int32)).toNatClampNeg)) - ((2 : Int32) * (I 111 ((I 110 ((I 113 ((v3 + (-1 : Int32)).toNatClampNeg)).toNatClampNeg)).toNatClampNeg))))) L D) rfl (z_goto (tgt := 63) d_M_proof_169 rfl (aw_Z.weak (ls' := [some (.ref 69), none, some (.int (v2 + (1 : Int32))), some (.int ((v3 + (-1 : Int32)) + (2 : Int32))), none, none]) (h10 q2 q3) (Nat.le_of_ble_eq_true rfl) ⟨Or.inr rfl, ⟨Or.inl rfl, ⟨Or.inr rfl, ⟨Or.inr rfl, ⟨Or.inl rfl, ⟨Or.inl rfl, trivial⟩⟩⟩⟩⟩⟩))))))))))))))))) (fun q4 => (s_M_proof_88.go [some (.ref 69), none, some (.int v2), some (.int (v3 + (-1 : Int32))), some (.int (I 113 ((v3 + (-1 : Int32)).toNatClampNeg))), none] [.int (I 113 ((v3 + (-1 : Int32)).toNatClampNeg)), .ref 108, .int (100 : Int32), .int v2, .ref 112] (aw_s I L D) rfl (z_iald (n := 6561) rfl (aw_lt (o := 108) rfl) (h11 q2 q4) d_M_proof_101 (z_callS (av := [.int (I 108 ((I 113 ((v3 + (-1 : Int32)).toNatClampNeg)).toNatClampNeg))]) (st := [.int (100 : Int32), .int v2, .ref 112]) ok_M_lowest (Or.inl w_2111) w_2112 d_M_proof_102 rfl rfl (Nat.le_of_ble_eq_true rfl) (Nat.le_refl _) (Nat.le_refl _) (aw_C.mono (h12 q2 q4) (fun _ _ zz => aw_Z.weak (ls' := [some (.ref 69), none, some (.int v2), some (.int (v3 + (-1 : Int32))), none, none]) zz (Nat.le_of_ble_eq_true rfl) ⟨Or.inr rfl, ⟨Or.inl rfl, ⟨Or.inr rfl, ⟨Or.inr rfl, ⟨Or.inl rfl, ⟨Or.inl rfl, trivial⟩⟩⟩⟩⟩⟩))))))))))))))
theorem d_M_proof_105 : decode y_M_proof.2.1 105 = .ok (.iadd, 1) := by decide +kernel
theorem s_M_proof_105 : aw_VS y_M_proof 105 [o_i2 (fun x z => x + z)] 106 := .cons (v_iadd d_M_proof_105) .nil
theorem d_M_proof_106 : decode y_M_proof.2.1 106 = .ok (.iastore, 1) := by decide +kernel
theorem d_M_proof_107 : decode y_M_proof.2.1 107 = .ok (.goto (59), 3) := by decide +kernel
theorem b_M_proof_105 {X : aw_X} {d : Nat} {Q : Option Value → aw_H → Prop} {I : Nat → Nat → Int32} {L : Nat → Nat → Int64} {D : Nat → Nat} {v2 : Int32} {v3 : Int32} {s3 : Int32} {s2 : Int32} {s1 : Int32}
    (h1 : vp_in s1 600)
    (h2 : aw_z X (d + 1) y_M_proof Q 63 [some (.ref 69), none, some (.int (v2 + (1 : Int32))), some (.int v3), none, none] [] (aw_s (aw_u I 112 s1.toNatClampNeg (s2 + s3)) L D)) :
    aw_z X (d + 1) y_M_proof Q 105 [some (.ref 69), none, some (.int v2), some (.int v3), none, none] [.int s3, .int s2, .int s1, .ref 112] (aw_s I L D) :=
  (s_M_proof_105.go [some (.ref 69), none, some (.int v2), some (.int v3), none, none] [.int (s2 + s3), .int s1, .ref 112] (aw_s I L D) rfl (z_iast (n := 600) rfl (aw_lt (o := 112) rfl) (h1) d_M_proof_106 (z_goto (tgt := 166) d_M_proof_107 rfl (s_M_proof_166.go [some (.ref 69), none, some (.int (v2 + (1 : Int32))), some (.int v3), none, none] [] (aw_s (aw_u I 112 s1.toNatClampNeg (s2 + s3)) L D) rfl (z_goto (tgt := 63) d_M_proof_169 rfl (h2))))))
/-! M_layParts -/
theorem d_M_layParts_0 : decode y_M_layParts.2.1 0 = .ok (.aload_n 0, 1) := by decide +kernel
theorem s_M_layParts_0 : aw_VS y_M_layParts 0 [o_ald 0] 1 := .cons (v_aload_n (i := 0) d_M_layParts_0 rfl) .nil
theorem d_M_layParts_1 : decode y_M_layParts.2.1 1 = .ok (.invokevirtual 488, 3) := by decide +kernel
theorem b_M_layParts_0 {X : aw_X} {d : Nat} {Q : Option Value → aw_H → Prop} {I : Nat → Nat → Int32} {L : Nat → Nat → Int64} {D : Nat → Nat} 
    (h1 : aw_m X d y_M_partBits [.ref 69] (aw_s I L D) (fun r A => aw_z X (d + 1) y_M_layParts Q 4 [some (.ref 69), none, none, none, none, none, none] (r.toList ++ []) A)) :
    aw_z X (d + 1) y_M_layParts Q 0 [some (.ref 69), none, none, none, none, none, none] [] (aw_s I L D) :=
  (s_M_layParts_0.go [some (.ref 69), none, none, none, none, none, none] [.ref 69] (aw_s I L D) rfl (z_callV (av := []) (st := []) ok_M_partBits (Or.inl w_2102) w_2104 w_129 k_M d_M_layParts_1 rfl (aw_lt (o := 69) rfl) rfl rfl (Nat.le_of_ble_eq_true rfl) (Nat.le_refl _) (Nat.le_refl _) (h1)))
theorem d_M_layParts_4 : decode y_M_layParts.2.1 4 = .ok (.istore_n 1, 1) := by decide +kernel
theorem d_M_layParts_5 : decode y_M_layParts.2.1 5 = .ok (.iconst 0, 1) := by decide +kernel
theorem d_M_layParts_6 : decode y_M_layParts.2.1 6 = .ok (.istore_n 2, 1) := by decide +kernel
theorem s_M_layParts_4 : aw_VS y_M_layParts 4 [o_ist 1, o_c (.int (0 : Int32)), o_ist 2] 7 := .cons (v_istore_n d_M_layParts_4) (.cons (v_iconst (v := (0 : Int32)) d_M_layParts_5 (by decide +kernel)) (.cons (v_istore_n d_M_layParts_6) .nil))
theorem b_M_layParts_4 {X : aw_X} {d : Nat} {Q : Option Value → aw_H → Prop} {I : Nat → Nat → Int32} {L : Nat → Nat → Int64} {D : Nat → Nat} {s0 : Int32}
    (h1 : aw_z X (d + 1) y_M_layParts Q 7 [some (.ref 69), some (.int s0), some (.int (0 : Int32)), none, none, none, none] [] (aw_s I L D)) :
    aw_z X (d + 1) y_M_layParts Q 4 [some (.ref 69), none, none, none, none, none, none] [.int s0] (aw_s I L D) :=
  (s_M_layParts_4.go [some (.ref 69), some (.int s0), some (.int (0 : Int32)), none, none, none, none] [] (aw_s I L D) rfl (h1))
theorem d_M_layParts_7 : decode y_M_layParts.2.1 7 = .ok (.iload_n 2, 1) := by decide +kernel
theorem d_M_layParts_8 : decode y_M_layParts.2.1 8 = .ok (.aload_n 0, 1) := by decide +kernel
theorem d_M_layParts_9 : decode y_M_layParts.2.1 9 = .ok (.getfield 148, 3) := by decide +kernel
theorem d_M_layParts_12 : decode y_M_layParts.2.1 12 = .ok (.iload_n 1, 1) := by decide +kernel
theorem s_M_layParts_7 : aw_VS y_M_layParts 7 [o_ild 2, o_ald 0, o_getA 9 80, o_ild 1] 13 := .cons (v_iload_n (i := 2) d_M_layParts_7 rfl) (.cons (v_aload_n (i := 0) d_M_layParts_8 rfl) (.cons (v_getA (k := 80) k_M (by decide) rfl (Or.inl w_1541) d_M_layParts_9) (.cons (v_iload_n (i := 1) d_M_layParts_12 rfl) .nil)))
theorem d_M_layParts_13 : decode y_M_layParts.2.1 13 = .ok (.iaload, 1) := by decide +kernel
theorem d_M_layParts_14 : decode y_M_layParts.2.1 14 = .ok (.if_icmp .ge (262), 3) := by decide +kernel
theorem d_M_layParts_276 : decode y_M_layParts.2.1 276 = .ok (.return_, 1) := by decide +kernel
theorem d_M_layParts_17 : decode y_M_layParts.2.1 17 = .ok (.iconst 0, 1) := by decide +kernel
theorem d_M_layParts_18 : decode y_M_layParts.2.1 18 = .ok (.istore_n 3, 1) := by decide +kernel
theorem d_M_layParts_19 : decode y_M_layParts.2.1 19 = .ok (.iconst (-1), 1) := by decide +kernel
theorem d_M_layParts_20 : decode y_M_layParts.2.1 20 = .ok (.istore 4, 2) := by decide +kernel
theorem d_M_layParts_22 : decode y_M_layParts.2.1 22 = .ok (.iconst 0, 1) := by decide +kernel
theorem d_M_layParts_23 : decode y_M_layParts.2.1 23 = .ok (.istore 5, 2) := by decide +kernel
theorem s_M_layParts_17 : aw_VS y_M_layParts 17 [o_c (.int (0 : Int32)), o_ist 3, o_c (.int (-1 : Int32)), o_ist 4, o_c (.int (0 : Int32)), o_ist 5] 25 := .cons (v_iconst (v := (0 : Int32)) d_M_layParts_17 (by decide +kernel)) (.cons (v_istore_n d_M_layParts_18) (.cons (v_iconst (v := (-1 : Int32)) d_M_layParts_19 (by decide +kernel)) (.cons (v_istore d_M_layParts_20) (.cons (v_iconst (v := (0 : Int32)) d_M_layParts_22 (by decide +kernel)) (.cons (v_istore d_M_layParts_23) .nil)))))
theorem b_M_layParts_7 {X : aw_X} {d : Nat} {Q : Option Value → aw_H → Prop} {I : Nat → Nat → Int32} {L : Nat → Nat → Int64} {D : Nat → Nat} {v1 : Int32} {v2 : Int32}
    (h1 : vp_in v1 9)
    (h2 : (I 111 v1.toNatClampNeg) ≤ v2 → Q none (aw_s I L D))
    (h3 : ¬ (I 111 v1.toNatClampNeg) ≤ v2 → aw_z X (d + 1) y_M_layParts Q 25 [some (.ref 69), some (.int v1), some (.int v2), some (.int (0 : Int32)), some (.int (-1 : Int32)), some (.int (0 : Int32)), none] [] (aw_s I L D)) :
    aw_z X (d + 1) y_M_layParts Q 7 [some (.ref 69), some (.int v1), some (.int v2), none, none, none, none] [] (aw_s I L D) :=
  (s_M_layParts_7.go [some (.ref 69), some (.int v1), some (.int v2), none, none, none, none] [.int v1, .ref 111, .int v2] (aw_s I L D) rfl (z_iald (n := 9) rfl (aw_lt (o := 111) rfl) (h1) d_M_layParts_13 (z_icmp_ge (tgt := 276) d_M_layParts_14 rfl (fun q1 => (z_vret d_M_layParts_276 rfl (h2 q1))) (fun q2 => (s_M_layParts_17.go [some (.ref 69), some (.int v1), some (.int v2), some (.int (0 : Int32)), some (.int (-1 : Int32)), some (.int (0 : Int32)), none] [] (aw_s I L D) rfl (h3 q2))))))
theorem d_M_layParts_25 : decode y_M_layParts.2.1 25 = .ok (.iload 5, 2) := by decide +kernel
theorem d_M_layParts_27 : decode y_M_layParts.2.1 27 = .ok (.iload_n 1, 1) := by decide +kernel
theorem s_M_layParts_25 : aw_VS y_M_layParts 25 [o_ild 5, o_ild 1] 28 := .cons (v_iload (i := 5) d_M_layParts_25) (.cons (v_iload_n (i := 1) d_M_layParts_27 rfl) .nil)
theorem d_M_layParts_28 : decode y_M_layParts.2.1 28 = .ok (.if_icmp .ge (51), 3) := by decide +kernel
theorem d_M_layParts_79 : decode y_M_layParts.2.1 79 = .ok (.iload 4, 2) := by decide +kernel
theorem d_M_layParts_81 : decode y_M_layParts.2.1 81 = .ok (.iconst (-1), 1) := by decide +kernel
theorem s_M_layParts_79 : aw_VS y_M_layParts 79 [o_ild 4, o_c (.int (-1 : Int32))] 82 := .cons (v_iload (i := 4) d_M_layParts_79) (.cons (v_iconst (v := (-1 : Int32)) d_M_layParts_81 (by decide +kernel)) .nil)
theorem d_M_layParts_82 : decode y_M_layParts.2.1 82 = .ok (.if_icmp .ne (17), 3) := by decide +kernel
theorem d_M_layParts_99 : decode y_M_layParts.2.1 99 = .ok (.aload_n 0, 1) := by decide +kernel
theorem d_M_layParts_100 : decode y_M_layParts.2.1 100 = .ok (.getfield 139, 3) := by decide +kernel
theorem d_M_layParts_103 : decode y_M_layParts.2.1 103 = .ok (.iload_n 2, 1) := by decide +kernel
theorem d_M_layParts_104 : decode y_M_layParts.2.1 104 = .ok (.aload_n 0, 1) := by decide +kernel
theorem d_M_layParts_105 : decode y_M_layParts.2.1 105 = .ok (.getfield 139, 3) := by decide +kernel
theorem d_M_layParts_108 : decode y_M_layParts.2.1 108 = .ok (.iload_n 2, 1) := by decide +kernel
theorem d_M_layParts_109 : decode y_M_layParts.2.1 109 = .ok (.iconst 2, 1) := by decide +kernel
theorem d_M_layParts_110 : decode y_M_layParts.2.1 110 = .ok (.aload_n 0, 1) := by decide +kernel
theorem d_M_layParts_111 : decode y_M_layParts.2.1 111 = .ok (.getfield 148, 3) := by decide +kernel
theorem d_M_layParts_114 : decode y_M_layParts.2.1 114 = .ok (.iload 4, 2) := by decide +kernel
theorem s_M_layParts_99 : aw_VS y_M_layParts 99 [o_ald 0, o_getA 9 77, o_ild 2, o_ald 0, o_getA 9 77, o_ild 2, o_c (.int (2 : Int32)), o_ald 0, o_getA 9 80, o_ild 4] 116 := .cons (v_aload_n (i := 0) d_M_layParts_99 rfl) (.cons (v_getA (k := 77) k_M (by decide) rfl (Or.inl w_1538) d_M_layParts_100) (.cons (v_iload_n (i := 2) d_M_layParts_103 rfl) (.cons (v_aload_n (i := 0) d_M_layParts_104 rfl) (.cons (v_getA (k := 77) k_M (by decide) rfl (Or.inl w_1538) d_M_layParts_105) (.cons (v_iload_n (i := 2) d_M_layParts_108 rfl) (.cons (v_iconst (v := (2 : Int32)) d_M_layParts_109 (by decide +kernel)) (.cons (v_aload_n (i := 0) d_M_layParts_110 rfl) (.cons (v_getA (k := 80) k_M (by decide) rfl (Or.inl w_1541) d_M_layParts_111) (.cons (v_iload (i := 4) d_M_layParts_114) .nil)))))))))
theorem d_M_layParts_116 : decode y_M_layParts.2.1 116 = .ok (.iaload, 1) := by decide +kernel
theorem d_M_layParts_117 : decode y_M_layParts.2.1 117 = .ok (.imul, 1) := by decide +kernel
theorem d_M_layParts_118 : decode y_M_layParts.2.1 118 = .ok (.isub, 1) := by decide +kernel
theorem s_M_layParts_117 : aw_VS y_M_layParts 117 [o_i2 (fun x z => x * z), o_i2 (fun x z => x - z)] 119 := .cons (v_imul d_M_layParts_117) (.cons (v_isub d_M_layParts_118) .nil)
theorem d_M_layParts_119 : decode y_M_layParts.2.1 119 = .ok (.iaload, 1) := by decide +kernel
theorem d_M_layParts_120 : decode y_M_layParts.2.1 120 = .ok (.aload_n 0, 1) := by decide +kernel
theorem d_M_layParts_121 : decode y_M_layParts.2.1 121 = .ok (.getfield 139, 3) := by decide +kernel
theorem d_M_layParts_124 : decode y_M_layParts.2.1 124 = .ok (.iload_n 2, 1) := by decide +kernel
theorem d_M_layParts_125 : decode y_M_layParts.2.1 125 = .ok (.aload_n 0, 1) := by decide +kernel
theorem d_M_layParts_126 : decode y_M_layParts.2.1 126 = .ok (.getfield 148, 3) := by decide +kernel
theorem d_M_layParts_129 : decode y_M_layParts.2.1 129 = .ok (.iload 4, 2) := by decide +kernel
theorem s_M_layParts_120 : aw_VS y_M_layParts 120 [o_ald 0, o_getA 9 77, o_ild 2, o_ald 0, o_getA 9 80, o_ild 4] 131 := .cons (v_aload_n (i := 0) d_M_layParts_120 rfl) (.cons (v_getA (k := 77) k_M (by decide) rfl (Or.inl w_1538) d_M_layParts_121) (.cons (v_iload_n (i := 2) d_M_layParts_124 rfl) (.cons (v_aload_n (i := 0) d_M_layParts_125 rfl) (.cons (v_getA (k := 80) k_M (by decide) rfl (Or.inl w_1541) d_M_layParts_126) (.cons (v_iload (i := 4) d_M_layParts_129) .nil)))))
theorem d_M_layParts_131 : decode y_M_layParts.2.1 131 = .ok (.iaload, 1) := by decide +kernel
theorem d_M_layParts_132 : decode y_M_layParts.2.1 132 = .ok (.isub, 1) := by decide +kernel
theorem s_M_layParts_132 : aw_VS y_M_layParts 132 [o_i2 (fun x z => x - z)] 133 := .cons (v_isub d_M_layParts_132) .nil
theorem d_M_layParts_133 : decode y_M_layParts.2.1 133 = .ok (.iaload, 1) := by decide +kernel
theorem d_M_layParts_134 : decode y_M_layParts.2.1 134 = .ok (.iand, 1) := by decide +kernel
theorem s_M_layParts_134 : aw_VS y_M_layParts 134 [o_i2 (fun x z => x &&& z)] 135 := .cons (v_iand d_M_layParts_134) .nil
theorem d_M_layParts_135 : decode y_M_layParts.2.1 135 = .ok (.iastore, 1) := by decide +kernel
theorem d_M_layParts_85 : decode y_M_layParts.2.1 85 = .ok (.aload_n 0, 1) := by decide +kernel
theorem d_M_layParts_86 : decode y_M_layParts.2.1 86 = .ok (.getfield 139, 3) := by decide +kernel
theorem d_M_layParts_89 : decode y_M_layParts.2.1 89 = .ok (.iload_n 2, 1) := by decide +kernel
theorem d_M_layParts_90 : decode y_M_layParts.2.1 90 = .ok (.aload_n 0, 1) := by decide +kernel
theorem d_M_layParts_91 : decode y_M_layParts.2.1 91 = .ok (.iload_n 3, 1) := by decide +kernel
theorem s_M_layParts_85 : aw_VS y_M_layParts 85 [o_ald 0, o_getA 9 77, o_ild 2, o_ald 0, o_ild 3] 92 := .cons (v_aload_n (i := 0) d_M_layParts_85 rfl) (.cons (v_getA (k := 77) k_M (by decide) rfl (Or.inl w_1538) d_M_layParts_86) (.cons (v_iload_n (i := 2) d_M_layParts_89 rfl) (.cons (v_aload_n (i := 0) d_M_layParts_90 rfl) (.cons (v_iload_n (i := 3) d_M_layParts_91 rfl) .nil))))
theorem d_M_layParts_92 : decode y_M_layParts.2.1 92 = .ok (.invokevirtual 491, 3) := by decide +kernel
theorem d_M_layParts_31 : decode y_M_layParts.2.1 31 = .ok (.iload_n 2, 1) := by decide +kernel
theorem d_M_layParts_32 : decode y_M_layParts.2.1 32 = .ok (.aload_n 0, 1) := by decide +kernel
theorem d_M_layParts_33 : decode y_M_layParts.2.1 33 = .ok (.getfield 148, 3) := by decide +kernel
theorem d_M_layParts_36 : decode y_M_layParts.2.1 36 = .ok (.iload 5, 2) := by decide +kernel
theorem s_M_layParts_31 : aw_VS y_M_layParts 31 [o_ild 2, o_ald 0, o_getA 9 80, o_ild 5] 38 := .cons (v_iload_n (i := 2) d_M_layParts_31 rfl) (.cons (v_aload_n (i := 0) d_M_layParts_32 rfl) (.cons (v_getA (k := 80) k_M (by decide) rfl (Or.inl w_1541) d_M_layParts_33) (.cons (v_iload (i := 5) d_M_layParts_36) .nil)))
theorem d_M_layParts_38 : decode y_M_layParts.2.1 38 = .ok (.iaload, 1) := by decide +kernel
theorem d_M_layParts_39 : decode y_M_layParts.2.1 39 = .ok (.idiv, 1) := by decide +kernel
theorem d_M_layParts_40 : decode y_M_layParts.2.1 40 = .ok (.iconst 3, 1) := by decide +kernel
theorem s_M_layParts_40 : aw_VS y_M_layParts 40 [o_c (.int (3 : Int32))] 41 := .cons (v_iconst (v := (3 : Int32)) d_M_layParts_40 (by decide +kernel)) .nil
theorem d_M_layParts_41 : decode y_M_layParts.2.1 41 = .ok (.irem, 1) := by decide +kernel
theorem d_M_layParts_42 : decode y_M_layParts.2.1 42 = .ok (.istore 6, 2) := by decide +kernel
theorem d_M_layParts_44 : decode y_M_layParts.2.1 44 = .ok (.iload 6, 2) := by decide +kernel
theorem d_M_layParts_46 : decode y_M_layParts.2.1 46 = .ok (.iconst 2, 1) := by decide +kernel
theorem s_M_layParts_42 : aw_VS y_M_layParts 42 [o_ist 6, o_ild 6, o_c (.int (2 : Int32))] 47 := .cons (v_istore d_M_layParts_42) (.cons (v_iload (i := 6) d_M_layParts_44) (.cons (v_iconst (v := (2 : Int32)) d_M_layParts_46 (by decide +kernel)) .nil))
theorem d_M_layParts_47 : decode y_M_layParts.2.1 47 = .ok (.if_icmp .ne (13), 3) := by decide +kernel
theorem d_M_layParts_50 : decode y_M_layParts.2.1 50 = .ok (.iload 4, 2) := by decide +kernel
theorem d_M_layParts_52 : decode y_M_layParts.2.1 52 = .ok (.iconst (-1), 1) := by decide +kernel
theorem s_M_layParts_50 : aw_VS y_M_layParts 50 [o_ild 4, o_c (.int (-1 : Int32))] 53 := .cons (v_iload (i := 4) d_M_layParts_50) (.cons (v_iconst (v := (-1 : Int32)) d_M_layParts_52 (by decide +kernel)) .nil)
theorem d_M_layParts_53 : decode y_M_layParts.2.1 53 = .ok (.if_icmp .ne (7), 3) := by decide +kernel
theorem d_M_layParts_56 : decode y_M_layParts.2.1 56 = .ok (.iload 5, 2) := by decide +kernel
theorem d_M_layParts_58 : decode y_M_layParts.2.1 58 = .ok (.istore 4, 2) := by decide +kernel
theorem s_M_layParts_56 : aw_VS y_M_layParts 56 [o_ild 5, o_ist 4] 60 := .cons (v_iload (i := 5) d_M_layParts_56) (.cons (v_istore d_M_layParts_58) .nil)
theorem b_M_layParts_25 {X : aw_X} {d : Nat} {Q : Option Value → aw_H → Prop} {I : Nat → Nat → Int32} {L : Nat → Nat → Int64} {D : Nat → Nat} {v1 : Int32} {v2 : Int32} {v3 : Int32} {v4 : Int32} {v5 : Int32}
    (h1 : v1 ≤ v5 → ¬ v4 = (-1 : Int32) → vp_in v4 9)
    (h2 : v1 ≤ v5 → ¬ v4 = (-1 : Int32) → vp_in (v2 - ((2 : Int32) * (I 111 v4.toNatClampNeg))) 6561)
    (h3 : v1 ≤ v5 → ¬ v4 = (-1 : Int32) → vp_in v4 9)
    (h4 : v1 ≤ v5 → ¬ v4 = (-1 : Int32) → vp_in (v2 - (I 111 v4.toNatClampNeg)) 6561)
    (h5 : v1 ≤ v5 → ¬ v4 = (-1 : Int32) → vp_in v2 6561)
    (h6 : v1 ≤ v5 → ¬ v4 = (-1 : Int32) → aw_z X (d + 1) y_M_layParts Q 136 [some (.ref 69), some (.int v1), some (.int v2), none, none, none, none] [] (aw_s (aw_u I 108 v2.toNatClampNeg ((I 108 ((v2 - ((2 : Int32) * (I 111 v4.toNatClampNeg))).toNatClampNeg)) &&& (I 108 ((v2 - (I 111 v4.toNatClampNeg)).toNatClampNeg)))) L D))
    (h7 : v1 ≤ v5 → v4 = (-1 : Int32) → aw_m X d y_M_failing [.ref 69, .int v3] (aw_s I L D) (fun r A => aw_z X (d + 1) y_M_layParts Q 95 [some (.ref 69), some (.int v1), some (.int v2), none, none, none, none] (r.toList ++ [.int v2, .ref 108]) A))
    (h8 : ¬ v1 ≤ v5 → vp_in v5 9)
    (h9 : ¬ v1 ≤ v5 → ¬ (I 111 v5.toNatClampNeg) = 0)
    (h10 : ¬ v1 ≤ v5 → ¬ ((v2 / (I 111 v5.toNatClampNeg)) - (v2 / (I 111 v5.toNatClampNeg)) / (3 : Int32) * (3 : Int32)) = (2 : Int32) → aw_z X (d + 1) y_M_layParts Q 60 [some (.ref 69), some (.int v1), some (.int v2), some (.int v3), some (.int v4), some (.int v5), some (.int ((v2 / (I 111 v5.toNatClampNeg)) - (v2 / (I 111 v5.toNatClampNeg)) / (3 : Int32) * (3 : Int32)))] [] (aw_s I L D))
    (h11 : ¬ v1 ≤ v5 → ((v2 / (I 111 v5.toNatClampNeg)) - (v2 / (I 111 v5.toNatClampNeg)) / (3 : Int32) * (3 : Int32)) = (2 : Int32) → ¬ v4 = (-1 : Int32) → aw_z X (d + 1) y_M_layParts Q 60 [some (.ref 69), some (.int v1), some (.int v2), some (.int v3), some (.int v4), some (.int v5), some (.int ((v2 / (I 111 v5.toNatClampNeg)) - (v2 / (I 111 v5.toNatClampNeg)) / (3 : Int32) * (3 : Int32)))] [] (aw_s I L D))
    (h12 : ¬ v1 ≤ v5 → ((v2 / (I 111 v5.toNatClampNeg)) - (v2 / (I 111 v5.toNatClampNeg)) / (3 : Int32) * (3 : Int32)) = (2 : Int32) → v4 = (-1 : Int32) → aw_z X (d + 1) y_M_layParts Q 60 [some (.ref 69), some (.int v1), some (.int v2), some (.int v3), some (.int v5), some (.int v5), some (.int ((v2 / (I 111 v5.toNatClampNeg)) - (v2 / (I 111 v5.toNatClampNeg)) / (3 : Int32) * (3 : Int32)))] [] (aw_s I L D)) :
    aw_z X (d + 1) y_M_layParts Q 25 [some (.ref 69), some (.int v1), some (.int v2), some (.int v3), some (.int v4), some (.int v5), none] [] (aw_s I L D) :=
  (s_M_layParts_25.go [some (.ref 69), some (.int v1), some (.int v2), some (.int v3), some (.int v4), some (.int v5), none] [.int v1, .int v5] (aw_s I L D) rfl (z_icmp_ge (tgt := 79) d_M_layParts_28 rfl (fun q1 => (s_M_layParts_79.go [some (.ref 69), some (.int v1), some (.int v2), some (.int v3), some (.int v4), some (.int v5), none] [.int (-1 : Int32), .int v4] (aw_s I L D) rfl (z_icmp_ne (tgt := 99) d_M_layParts_82 rfl (fun q3 => (s_M_layParts_99.go [some (.ref 69), some (.int v1), some (.int v2), some (.int v3), some (.int v4), some (.int v5), none] [.int v4, .ref 111, .int (2 : Int32), .int v2, .ref 108, .int v2, .ref 108] (aw_s I L D) rfl (z_iald (n := 9) rfl (aw_lt (o := 111) rfl) (h1 q1 q3) d_M_layParts_116 (s_M_layParts_117.go [some (.ref 69), some (.int v1), some (.int v2), some (.int v3), some (.int v4), some (.int v5), none] [.int (v2 - ((2 : Int32) * (I 111 v4.toNatClampNeg))), .ref 108, .int v2, .ref 108] (aw_s I L D) rfl (z_iald (n := 6561) rfl (aw_lt (o := 108) rfl) (h2 q1 q3) d_M_layParts_119 (s_M_layParts_120.go [some (.ref 69), some (.int v1), some (.int v2), some (.int v3), some (.int v4), some (.int v5), none] [.int v4, .ref 111, .int v2, .ref 108, .int (I 108 ((v2 - ((2 : Int32) * (I 111 v4.toNatClampNeg))).toNatClampNeg)), .int v2, .ref 108] (aw_s I L D) rfl (z_iald (n := 9) rfl (aw_lt (o := 111) rfl) (h3 q1 q3) d_M_layParts_131 (s_M_layParts_132.go [some (.ref 69), some (.int v1), some (.int v2), some (.int v3), some (.int v4), some (.int v5), none] [.int (v2 - (I 111 v4.toNatClampNeg)), .ref 108, .int (I 108 ((v2 - ((2 : Int32) * (I 111 v4.toNatClampNeg))).toNatClampNeg)), .int v2, .ref 108] (aw_s I L D) rfl (z_iald (n := 6561) rfl (aw_lt (o := 108) rfl) (h4 q1 q3) d_M_layParts_133 (s_M_layParts_134.go [some (.ref 69), some (.int v1), some (.int v2), some (.int v3), some (.int v4), some (.int v5), none] [.int ((I 108 ((v2 - ((2 : Int32) * (I 111 v4.toNatClampNeg))).toNatClampNeg)) &&& (I 108 ((v2 - (I 111 v4.toNatClampNeg)).toNatClampNeg))), .int v2, .ref 108] (aw_s I L D) rfl (z_iast (n := 6561) rfl (aw_lt (o := 108) rfl) (h5 q1 q3) d_M_layParts_135 (aw_Z.weak (ls' := [some (.ref 69), some (.int v1), some (.int v2), none, none, none, none]) (h6 q1 q3) (Nat.le_of_ble_eq_true rfl) ⟨Or.inr rfl, ⟨Or.inr rfl, ⟨Or.inr rfl, ⟨Or.inl rfl, ⟨Or.inl rfl, ⟨Or.inl rfl, ⟨Or.inl rfl, trivial⟩⟩⟩⟩⟩⟩⟩)))))))))))) (fun q4 => (s_M_layParts_85.go [some (.ref 69), some (.int v1), some (.int v2), some (.int v3), some (.int v4), some (.int v5), none] [.int v3, .ref 69, .int v2, .ref 108] (aw_s I L D) rfl (z_callV (av := [.int v3]) (st := [.int v2, .ref 108]) ok_M_failing (Or.inl w_2106) w_2108 w_130 k_M d_M_layParts_92 rfl (aw_lt (o := 69) rfl) rfl rfl (Nat.le_of_ble_eq_true rfl) (Nat.le_refl _) (Nat.le_refl _) (aw_C.mono (h7 q1 q4) (fun _ _ zz => aw_Z.weak (ls' := [some (.ref 69), some (.int v1), some (.int v2), none, none, none, none]) zz (Nat.le_of_ble_eq_true rfl) ⟨Or.inr rfl, ⟨Or.inr rfl, ⟨Or.inr rfl, ⟨Or.inl rfl, ⟨Or.inl rfl, ⟨Or.inl rfl, ⟨Or.inl rfl, trivial⟩⟩⟩⟩⟩⟩⟩)))))))) (fun q2 => (s_M_layParts_31.go [some (.ref 69), some (.int v1), some (.int v2), some (.int v3), some (.int v4), some (.int v5), none] [.int v5, .ref 111, .int v2] (aw_s I L D) rfl (z_iald (n := 9) rfl (aw_lt (o := 111) rfl) (h8 q2) d_M_layParts_38 (z_idiv d_M_layParts_39 (h9 q2) (s_M_layParts_40.go [some (.ref 69), some (.int v1), some (.int v2), some (.int v3), some (.int v4), some (.int v5), none] [.int (3 : Int32), .int (v2 / (I 111 v5.toNatClampNeg))] (aw_s I L D) rfl (z_irem d_M_layParts_41 (by decide +kernel) (s_M_layParts_42.go [some (.ref 69), some (.int v1), some (.int v2), some (.int v3), some (.int v4), some (.int v5), some (.int ((v2 / (I 111 v5.toNatClampNeg)) - (v2 / (I 111 v5.toNatClampNeg)) / (3 : Int32) * (3 : Int32)))] [.int (2 : Int32), .int ((v2 / (I 111 v5.toNatClampNeg)) - (v2 / (I 111 v5.toNatClampNeg)) / (3 : Int32) * (3 : Int32))] (aw_s I L D) rfl (z_icmp_ne (tgt := 60) d_M_layParts_47 rfl (fun q5 => (h10 q2 q5)) (fun q6 => (s_M_layParts_50.go [some (.ref 69), some (.int v1), some (.int v2), some (.int v3), some (.int v4), some (.int v5), some (.int ((v2 / (I 111 v5.toNatClampNeg)) - (v2 / (I 111 v5.toNatClampNeg)) / (3 : Int32) * (3 : Int32)))] [.int (-1 : Int32), .int v4] (aw_s I L D) rfl (z_icmp_ne (tgt := 60) d_M_layParts_53 rfl (fun q7 => (h11 q2 q6 q7)) (fun q8 => (s_M_layParts_56.go [some (.ref 69), some (.int v1), some (.int v2), some (.int v3), some (.int v5), some (.int v5), some (.int ((v2 / (I 111 v5.toNatClampNeg)) - (v2 / (I 111 v5.toNatClampNeg)) / (3 : Int32) * (3 : Int32)))] [] (aw_s I L D) rfl (h12 q2 q6 q8))))))))))))))))
theorem d_M_layParts_136 : decode y_M_layParts.2.1 136 = .ok (.aload_n 0, 1) := by decide +kernel
theorem d_M_layParts_137 : decode y_M_layParts.2.1 137 = .ok (.getfield 142, 3) := by decide +kernel
theorem d_M_layParts_140 : decode y_M_layParts.2.1 140 = .ok (.iload_n 2, 1) := by decide +kernel
theorem d_M_layParts_141 : decode y_M_layParts.2.1 141 = .ok (.aload_n 0, 1) := by decide +kernel
theorem d_M_layParts_142 : decode y_M_layParts.2.1 142 = .ok (.getfield 139, 3) := by decide +kernel
theorem d_M_layParts_145 : decode y_M_layParts.2.1 145 = .ok (.iload_n 2, 1) := by decide +kernel
theorem s_M_layParts_136 : aw_VS y_M_layParts 136 [o_ald 0, o_getA 9 78, o_ild 2, o_ald 0, o_getA 9 77, o_ild 2] 146 := .cons (v_aload_n (i := 0) d_M_layParts_136 rfl) (.cons (v_getA (k := 78) k_M (by decide) rfl (Or.inl w_1539) d_M_layParts_137) (.cons (v_iload_n (i := 2) d_M_layParts_140 rfl) (.cons (v_aload_n (i := 0) d_M_layParts_141 rfl) (.cons (v_getA (k := 77) k_M (by decide) rfl (Or.inl w_1538) d_M_layParts_142) (.cons (v_iload_n (i := 2) d_M_layParts_145 rfl) .nil)))))
theorem d_M_layParts_146 : decode y_M_layParts.2.1 146 = .ok (.iaload, 1) := by decide +kernel
theorem d_M_layParts_147 : decode y_M_layParts.2.1 147 = .ok (.ifCond .eq (7), 3) := by decide +kernel
theorem d_M_layParts_154 : decode y_M_layParts.2.1 154 = .ok (.ldc_w 494, 3) := by decide +kernel
theorem s_M_layParts_154 : aw_VS y_M_layParts 154 [o_c (.int (1000000 : Int32))] 157 := .cons (v_ldc_w d_M_layParts_154 w_2110) .nil
theorem d_M_layParts_150 : decode y_M_layParts.2.1 150 = .ok (.iconst 1, 1) := by decide +kernel
theorem s_M_layParts_150 : aw_VS y_M_layParts 150 [o_c (.int (1 : Int32))] 151 := .cons (v_iconst (v := (1 : Int32)) d_M_layParts_150 (by decide +kernel)) .nil
theorem d_M_layParts_151 : decode y_M_layParts.2.1 151 = .ok (.goto (6), 3) := by decide +kernel
theorem b_M_layParts_136 {X : aw_X} {d : Nat} {Q : Option Value → aw_H → Prop} {I : Nat → Nat → Int32} {L : Nat → Nat → Int64} {D : Nat → Nat} {v1 : Int32} {v2 : Int32}
    (h1 : vp_in v2 6561)
    (h2 : (I 108 v2.toNatClampNeg) = 0 → aw_z X (d + 1) y_M_layParts Q 157 [some (.ref 69), some (.int v1), some (.int v2), none, none, none, none] [.int (1000000 : Int32), .int v2, .ref 109] (aw_s I L D))
    (h3 : ¬ (I 108 v2.toNatClampNeg) = 0 → aw_z X (d + 1) y_M_layParts Q 157 [some (.ref 69), some (.int v1), some (.int v2), none, none, none, none] [.int (1 : Int32), .int v2, .ref 109] (aw_s I L D)) :
    aw_z X (d + 1) y_M_layParts Q 136 [some (.ref 69), some (.int v1), some (.int v2), none, none, none, none] [] (aw_s I L D) :=
  (s_M_layParts_136.go [some (.ref 69), some (.int v1), some (.int v2), none, none, none, none] [.int v2, .ref 108, .int v2, .ref 109] (aw_s I L D) rfl (z_iald (n := 6561) rfl (aw_lt (o := 108) rfl) (h1) d_M_layParts_146 (z_if_eq (tgt := 154) d_M_layParts_147 rfl (fun q1 => (s_M_layParts_154.go [some (.ref 69), some (.int v1), some (.int v2), none, none, none, none] [.int (1000000 : Int32), .int v2, .ref 109] (aw_s I L D) rfl (h2 q1))) (fun q2 => (s_M_layParts_150.go [some (.ref 69), some (.int v1), some (.int v2), none, none, none, none] [.int (1 : Int32), .int v2, .ref 109] (aw_s I L D) rfl (z_goto (tgt := 157) d_M_layParts_151 rfl (h3 q2)))))))
theorem d_M_layParts_95 : decode y_M_layParts.2.1 95 = .ok (.iastore, 1) := by decide +kernel
theorem d_M_layParts_96 : decode y_M_layParts.2.1 96 = .ok (.goto (40), 3) := by decide +kernel
theorem b_M_layParts_95 {X : aw_X} {d : Nat} {Q : Option Value → aw_H → Prop} {I : Nat → Nat → Int32} {L : Nat → Nat → Int64} {D : Nat → Nat} {v1 : Int32} {v2 : Int32} {s2 : Int32} {s1 : Int32}
    (h1 : vp_in s1 6561)
    (h2 : aw_z X (d + 1) y_M_layParts Q 136 [some (.ref 69), some (.int v1), some (.int v2), none, none, none, none] [] (aw_s (aw_u I 108 s1.toNatClampNeg s2) L D)) :
    aw_z X (d + 1) y_M_layParts Q 95 [some (.ref 69), some (.int v1), some (.int v2), none, none, none, none] [.int s2, .int s1, .ref 108] (aw_s I L D) :=
  (z_iast (n := 6561) rfl (aw_lt (o := 108) rfl) (h1) d_M_layParts_95 (z_goto (tgt := 136) d_M_layParts_96 rfl (h2)))
theorem d_M_layParts_60 : decode y_M_layParts.2.1 60 = .ok (.iload 6, 2) := by decide +kernel
theorem d_M_layParts_62 : decode y_M_layParts.2.1 62 = .ok (.iconst 1, 1) := by decide +kernel
theorem s_M_layParts_60 : aw_VS y_M_layParts 60 [o_ild 6, o_c (.int (1 : Int32))] 63 := .cons (v_iload (i := 6) d_M_layParts_60) (.cons (v_iconst (v := (1 : Int32)) d_M_layParts_62 (by decide +kernel)) .nil)
theorem d_M_layParts_63 : decode y_M_layParts.2.1 63 = .ok (.if_icmp .ne (10), 3) := by decide +kernel
theorem d_M_layParts_73 : decode y_M_layParts.2.1 73 = .ok (.iinc 5 (1), 3) := by decide +kernel
theorem s_M_layParts_73 : aw_VS y_M_layParts 73 [o_inc 5 (1 : Int32)] 76 := .cons (v_iinc (k0 := (1 : Int32)) d_M_layParts_73 (by decide +kernel)) .nil
theorem d_M_layParts_76 : decode y_M_layParts.2.1 76 = .ok (.goto (-51), 3) := by decide +kernel
theorem d_M_layParts_66 : decode y_M_layParts.2.1 66 = .ok (.iload_n 3, 1) := by decide +kernel
theorem d_M_layParts_67 : decode y_M_layParts.2.1 67 = .ok (.iconst 1, 1) := by decide +kernel
theorem d_M_layParts_68 : decode y_M_layParts.2.1 68 = .ok (.iload 5, 2) := by decide +kernel
theorem d_M_layParts_70 : decode y_M_layParts.2.1 70 = .ok (.ishl, 1) := by decide +kernel
theorem d_M_layParts_71 : decode y_M_layParts.2.1 71 = .ok (.ior, 1) := by decide +kernel
theorem d_M_layParts_72 : decode y_M_layParts.2.1 72 = .ok (.istore_n 3, 1) := by decide +kernel
theorem s_M_layParts_66 : aw_VS y_M_layParts 66 [o_ild 3, o_c (.int (1 : Int32)), o_ild 5, o_i2 (fun x z => x <<< (z &&& 31)), o_i2 (fun x z => x ||| z), o_ist 3] 73 := .cons (v_iload_n (i := 3) d_M_layParts_66 rfl) (.cons (v_iconst (v := (1 : Int32)) d_M_layParts_67 (by decide +kernel)) (.cons (v_iload (i := 5) d_M_layParts_68) (.cons (v_ishl d_M_layParts_70) (.cons (v_ior d_M_layParts_71) (.cons (v_istore_n d_M_layParts_72) .nil)))))
theorem b_M_layParts_60 {X : aw_X} {d : Nat} {Q : Option Value → aw_H → Prop} {I : Nat → Nat → Int32} {L : Nat → Nat → Int64} {D : Nat → Nat} {v1 : Int32} {v2 : Int32} {v3 : Int32} {v4 : Int32} {v5 : Int32} {v6 : Int32}
    (h1 : ¬ v6 = (1 : Int32) → aw_z X (d + 1) y_M_layParts Q 25 [some (.ref 69), some (.int v1), some (.int v2), some (.int v3), some (.int v4), some (.int (v5 + (1 : Int32))), none] [] (aw_s I L D))
    (h2 : v6 = (1 : Int32) → aw_z X (d + 1) y_M_layParts Q 25 [some (.ref 69), some (.int v1), some (.int v2), some (.int (v3 ||| ((1 : Int32) <<< (v5 &&& 31)))), some (.int v4), some (.int (v5 + (1 : Int32))), none] [] (aw_s I L D)) :
    aw_z X (d + 1) y_M_layParts Q 60 [some (.ref 69), some (.int v1), some (.int v2), some (.int v3), some (.int v4), some (.int v5), some (.int v6)] [] (aw_s I L D) :=
  (s_M_layParts_60.go [some (.ref 69), some (.int v1), some (.int v2), some (.int v3), some (.int v4), some (.int v5), some (.int v6)] [.int (1 : Int32), .int v6] (aw_s I L D) rfl (z_icmp_ne (tgt := 73) d_M_layParts_63 rfl (fun q1 => (s_M_layParts_73.go [some (.ref 69), some (.int v1), some (.int v2), some (.int v3), some (.int v4), some (.int (v5 + (1 : Int32))), some (.int v6)] [] (aw_s I L D) rfl (z_goto (tgt := 25) d_M_layParts_76 rfl (aw_Z.weak (ls' := [some (.ref 69), some (.int v1), some (.int v2), some (.int v3), some (.int v4), some (.int (v5 + (1 : Int32))), none]) (h1 q1) (Nat.le_of_ble_eq_true rfl) ⟨Or.inr rfl, ⟨Or.inr rfl, ⟨Or.inr rfl, ⟨Or.inr rfl, ⟨Or.inr rfl, ⟨Or.inr rfl, ⟨Or.inl rfl, trivial⟩⟩⟩⟩⟩⟩⟩)))) (fun q2 => (s_M_layParts_66.go [some (.ref 69), some (.int v1), some (.int v2), some (.int (v3 ||| ((1 : Int32) <<< (v5 &&& 31)))), some (.int v4), some (.int v5), some (.int v6)] [] (aw_s I L D) rfl (s_M_layParts_73.go [some (.ref 69), some (.int v1), some (.int v2), some (.int (v3 ||| ((1 : Int32) <<< (v5 &&& 31)))), some (.int v4), some (.int (v5 + (1 : Int32))), some (.int v6)] [] (aw_s I L D) rfl (z_goto (tgt := 25) d_M_layParts_76 rfl (aw_Z.weak (ls' := [some (.ref 69), some (.int v1), some (.int v2), some (.int (v3 ||| ((1 : Int32) <<< (v5 &&& 31)))), some (.int v4), some (.int (v5 + (1 : Int32))), none]) (h2 q2) (Nat.le_of_ble_eq_true rfl) ⟨Or.inr rfl, ⟨Or.inr rfl, ⟨Or.inr rfl, ⟨Or.inr rfl, ⟨Or.inr rfl, ⟨Or.inr rfl, ⟨Or.inl rfl, trivial⟩⟩⟩⟩⟩⟩⟩)))))))
theorem d_M_layParts_157 : decode y_M_layParts.2.1 157 = .ok (.iastore, 1) := by decide +kernel
theorem d_M_layParts_158 : decode y_M_layParts.2.1 158 = .ok (.aload_n 0, 1) := by decide +kernel
theorem d_M_layParts_159 : decode y_M_layParts.2.1 159 = .ok (.getfield 145, 3) := by decide +kernel
theorem d_M_layParts_162 : decode y_M_layParts.2.1 162 = .ok (.iload_n 2, 1) := by decide +kernel
theorem d_M_layParts_163 : decode y_M_layParts.2.1 163 = .ok (.iconst (-1), 1) := by decide +kernel
theorem s_M_layParts_158 : aw_VS y_M_layParts 158 [o_ald 0, o_getA 9 79, o_ild 2, o_c (.int (-1 : Int32))] 164 := .cons (v_aload_n (i := 0) d_M_layParts_158 rfl) (.cons (v_getA (k := 79) k_M (by decide) rfl (Or.inl w_1540) d_M_layParts_159) (.cons (v_iload_n (i := 2) d_M_layParts_162 rfl) (.cons (v_iconst (v := (-1 : Int32)) d_M_layParts_163 (by decide +kernel)) .nil)))
theorem d_M_layParts_164 : decode y_M_layParts.2.1 164 = .ok (.iastore, 1) := by decide +kernel
theorem d_M_layParts_165 : decode y_M_layParts.2.1 165 = .ok (.iconst 0, 1) := by decide +kernel
theorem d_M_layParts_166 : decode y_M_layParts.2.1 166 = .ok (.istore 5, 2) := by decide +kernel
theorem s_M_layParts_165 : aw_VS y_M_layParts 165 [o_c (.int (0 : Int32)), o_ist 5] 168 := .cons (v_iconst (v := (0 : Int32)) d_M_layParts_165 (by decide +kernel)) (.cons (v_istore d_M_layParts_166) .nil)
theorem b_M_layParts_157 {X : aw_X} {d : Nat} {Q : Option Value → aw_H → Prop} {I : Nat → Nat → Int32} {L : Nat → Nat → Int64} {D : Nat → Nat} {v1 : Int32} {v2 : Int32} {s2 : Int32} {s1 : Int32}
    (h1 : vp_in s1 6561)
    (h2 : vp_in v2 6561)
    (h3 : aw_z X (d + 1) y_M_layParts Q 168 [some (.ref 69), some (.int v1), some (.int v2), none, none, some (.int (0 : Int32)), none] [] (aw_s (aw_u (aw_u I 109 s1.toNatClampNeg s2) 110 v2.toNatClampNeg (-1 : Int32)) L D)) :
    aw_z X (d + 1) y_M_layParts Q 157 [some (.ref 69), some (.int v1), some (.int v2), none, none, none, none] [.int s2, .int s1, .ref 109] (aw_s I L D) :=
  (z_iast (n := 6561) rfl (aw_lt (o := 109) rfl) (h1) d_M_layParts_157 (s_M_layParts_158.go [some (.ref 69), some (.int v1), some (.int v2), none, none, none, none] [.int (-1 : Int32), .int v2, .ref 110] (aw_s (aw_u I 109 s1.toNatClampNeg s2) L D) rfl (z_iast (n := 6561) rfl (aw_lt (o := 110) rfl) (h2) d_M_layParts_164 (s_M_layParts_165.go [some (.ref 69), some (.int v1), some (.int v2), none, none, some (.int (0 : Int32)), none] [] (aw_s (aw_u (aw_u I 109 s1.toNatClampNeg s2) 110 v2.toNatClampNeg (-1 : Int32)) L D) rfl (h3)))))
theorem d_M_layParts_168 : decode y_M_layParts.2.1 168 = .ok (.iload 5, 2) := by decide +kernel
theorem d_M_layParts_170 : decode y_M_layParts.2.1 170 = .ok (.iload_n 1, 1) := by decide +kernel
theorem s_M_layParts_168 : aw_VS y_M_layParts 168 [o_ild 5, o_ild 1] 171 := .cons (v_iload (i := 5) d_M_layParts_168) (.cons (v_iload_n (i := 1) d_M_layParts_170 rfl) .nil)
theorem d_M_layParts_171 : decode y_M_layParts.2.1 171 = .ok (.if_icmp .ge (99), 3) := by decide +kernel
theorem d_M_layParts_270 : decode y_M_layParts.2.1 270 = .ok (.iinc 2 (1), 3) := by decide +kernel
theorem s_M_layParts_270 : aw_VS y_M_layParts 270 [o_inc 2 (1 : Int32)] 273 := .cons (v_iinc (k0 := (1 : Int32)) d_M_layParts_270 (by decide +kernel)) .nil
theorem d_M_layParts_273 : decode y_M_layParts.2.1 273 = .ok (.goto (-266), 3) := by decide +kernel
theorem d_M_layParts_174 : decode y_M_layParts.2.1 174 = .ok (.aload_n 0, 1) := by decide +kernel
theorem d_M_layParts_175 : decode y_M_layParts.2.1 175 = .ok (.getfield 139, 3) := by decide +kernel
theorem d_M_layParts_178 : decode y_M_layParts.2.1 178 = .ok (.iload_n 2, 1) := by decide +kernel
theorem s_M_layParts_174 : aw_VS y_M_layParts 174 [o_ald 0, o_getA 9 77, o_ild 2] 179 := .cons (v_aload_n (i := 0) d_M_layParts_174 rfl) (.cons (v_getA (k := 77) k_M (by decide) rfl (Or.inl w_1538) d_M_layParts_175) (.cons (v_iload_n (i := 2) d_M_layParts_178 rfl) .nil))
theorem d_M_layParts_179 : decode y_M_layParts.2.1 179 = .ok (.iaload, 1) := by decide +kernel
theorem d_M_layParts_180 : decode y_M_layParts.2.1 180 = .ok (.ifCond .ne (90), 3) := by decide +kernel
theorem d_M_layParts_183 : decode y_M_layParts.2.1 183 = .ok (.iload_n 2, 1) := by decide +kernel
theorem d_M_layParts_184 : decode y_M_layParts.2.1 184 = .ok (.aload_n 0, 1) := by decide +kernel
theorem d_M_layParts_185 : decode y_M_layParts.2.1 185 = .ok (.getfield 148, 3) := by decide +kernel
theorem d_M_layParts_188 : decode y_M_layParts.2.1 188 = .ok (.iload 5, 2) := by decide +kernel
theorem s_M_layParts_183 : aw_VS y_M_layParts 183 [o_ild 2, o_ald 0, o_getA 9 80, o_ild 5] 190 := .cons (v_iload_n (i := 2) d_M_layParts_183 rfl) (.cons (v_aload_n (i := 0) d_M_layParts_184 rfl) (.cons (v_getA (k := 80) k_M (by decide) rfl (Or.inl w_1541) d_M_layParts_185) (.cons (v_iload (i := 5) d_M_layParts_188) .nil)))
theorem d_M_layParts_190 : decode y_M_layParts.2.1 190 = .ok (.iaload, 1) := by decide +kernel
theorem d_M_layParts_191 : decode y_M_layParts.2.1 191 = .ok (.idiv, 1) := by decide +kernel
theorem d_M_layParts_192 : decode y_M_layParts.2.1 192 = .ok (.iconst 3, 1) := by decide +kernel
theorem s_M_layParts_192 : aw_VS y_M_layParts 192 [o_c (.int (3 : Int32))] 193 := .cons (v_iconst (v := (3 : Int32)) d_M_layParts_192 (by decide +kernel)) .nil
theorem d_M_layParts_193 : decode y_M_layParts.2.1 193 = .ok (.irem, 1) := by decide +kernel
theorem d_M_layParts_194 : decode y_M_layParts.2.1 194 = .ok (.iconst 2, 1) := by decide +kernel
theorem s_M_layParts_194 : aw_VS y_M_layParts 194 [o_c (.int (2 : Int32))] 195 := .cons (v_iconst (v := (2 : Int32)) d_M_layParts_194 (by decide +kernel)) .nil
theorem d_M_layParts_195 : decode y_M_layParts.2.1 195 = .ok (.if_icmp .eq (6), 3) := by decide +kernel
theorem d_M_layParts_201 : decode y_M_layParts.2.1 201 = .ok (.aload_n 0, 1) := by decide +kernel
theorem d_M_layParts_202 : decode y_M_layParts.2.1 202 = .ok (.getfield 142, 3) := by decide +kernel
theorem d_M_layParts_205 : decode y_M_layParts.2.1 205 = .ok (.iload_n 2, 1) := by decide +kernel
theorem d_M_layParts_206 : decode y_M_layParts.2.1 206 = .ok (.iconst 2, 1) := by decide +kernel
theorem d_M_layParts_207 : decode y_M_layParts.2.1 207 = .ok (.aload_n 0, 1) := by decide +kernel
theorem d_M_layParts_208 : decode y_M_layParts.2.1 208 = .ok (.getfield 148, 3) := by decide +kernel
theorem d_M_layParts_211 : decode y_M_layParts.2.1 211 = .ok (.iload 5, 2) := by decide +kernel
theorem s_M_layParts_201 : aw_VS y_M_layParts 201 [o_ald 0, o_getA 9 78, o_ild 2, o_c (.int (2 : Int32)), o_ald 0, o_getA 9 80, o_ild 5] 213 := .cons (v_aload_n (i := 0) d_M_layParts_201 rfl) (.cons (v_getA (k := 78) k_M (by decide) rfl (Or.inl w_1539) d_M_layParts_202) (.cons (v_iload_n (i := 2) d_M_layParts_205 rfl) (.cons (v_iconst (v := (2 : Int32)) d_M_layParts_206 (by decide +kernel)) (.cons (v_aload_n (i := 0) d_M_layParts_207 rfl) (.cons (v_getA (k := 80) k_M (by decide) rfl (Or.inl w_1541) d_M_layParts_208) (.cons (v_iload (i := 5) d_M_layParts_211) .nil))))))
theorem d_M_layParts_213 : decode y_M_layParts.2.1 213 = .ok (.iaload, 1) := by decide +kernel
theorem d_M_layParts_214 : decode y_M_layParts.2.1 214 = .ok (.imul, 1) := by decide +kernel
theorem d_M_layParts_215 : decode y_M_layParts.2.1 215 = .ok (.isub, 1) := by decide +kernel
theorem s_M_layParts_214 : aw_VS y_M_layParts 214 [o_i2 (fun x z => x * z), o_i2 (fun x z => x - z)] 216 := .cons (v_imul d_M_layParts_214) (.cons (v_isub d_M_layParts_215) .nil)
theorem d_M_layParts_216 : decode y_M_layParts.2.1 216 = .ok (.iaload, 1) := by decide +kernel
theorem d_M_layParts_217 : decode y_M_layParts.2.1 217 = .ok (.aload_n 0, 1) := by decide +kernel
theorem d_M_layParts_218 : decode y_M_layParts.2.1 218 = .ok (.getfield 142, 3) := by decide +kernel
theorem d_M_layParts_221 : decode y_M_layParts.2.1 221 = .ok (.iload_n 2, 1) := by decide +kernel
theorem d_M_layParts_222 : decode y_M_layParts.2.1 222 = .ok (.aload_n 0, 1) := by decide +kernel
theorem d_M_layParts_223 : decode y_M_layParts.2.1 223 = .ok (.getfield 148, 3) := by decide +kernel
theorem d_M_layParts_226 : decode y_M_layParts.2.1 226 = .ok (.iload 5, 2) := by decide +kernel
theorem s_M_layParts_217 : aw_VS y_M_layParts 217 [o_ald 0, o_getA 9 78, o_ild 2, o_ald 0, o_getA 9 80, o_ild 5] 228 := .cons (v_aload_n (i := 0) d_M_layParts_217 rfl) (.cons (v_getA (k := 78) k_M (by decide) rfl (Or.inl w_1539) d_M_layParts_218) (.cons (v_iload_n (i := 2) d_M_layParts_221 rfl) (.cons (v_aload_n (i := 0) d_M_layParts_222 rfl) (.cons (v_getA (k := 80) k_M (by decide) rfl (Or.inl w_1541) d_M_layParts_223) (.cons (v_iload (i := 5) d_M_layParts_226) .nil)))))
theorem d_M_layParts_228 : decode y_M_layParts.2.1 228 = .ok (.iaload, 1) := by decide +kernel
theorem d_M_layParts_229 : decode y_M_layParts.2.1 229 = .ok (.isub, 1) := by decide +kernel
theorem s_M_layParts_229 : aw_VS y_M_layParts 229 [o_i2 (fun x z => x - z)] 230 := .cons (v_isub d_M_layParts_229) .nil
theorem d_M_layParts_230 : decode y_M_layParts.2.1 230 = .ok (.iaload, 1) := by decide +kernel
theorem d_M_layParts_231 : decode y_M_layParts.2.1 231 = .ok (.iadd, 1) := by decide +kernel
theorem d_M_layParts_232 : decode y_M_layParts.2.1 232 = .ok (.istore 6, 2) := by decide +kernel
theorem d_M_layParts_234 : decode y_M_layParts.2.1 234 = .ok (.iload 6, 2) := by decide +kernel
theorem d_M_layParts_236 : decode y_M_layParts.2.1 236 = .ok (.aload_n 0, 1) := by decide +kernel
theorem d_M_layParts_237 : decode y_M_layParts.2.1 237 = .ok (.getfield 142, 3) := by decide +kernel
theorem d_M_layParts_240 : decode y_M_layParts.2.1 240 = .ok (.iload_n 2, 1) := by decide +kernel
theorem s_M_layParts_231 : aw_VS y_M_layParts 231 [o_i2 (fun x z => x + z), o_ist 6, o_ild 6, o_ald 0, o_getA 9 78, o_ild 2] 241 := .cons (v_iadd d_M_layParts_231) (.cons (v_istore d_M_layParts_232) (.cons (v_iload (i := 6) d_M_layParts_234) (.cons (v_aload_n (i := 0) d_M_layParts_236 rfl) (.cons (v_getA (k := 78) k_M (by decide) rfl (Or.inl w_1539) d_M_layParts_237) (.cons (v_iload_n (i := 2) d_M_layParts_240 rfl) .nil)))))
theorem d_M_layParts_241 : decode y_M_layParts.2.1 241 = .ok (.iaload, 1) := by decide +kernel
theorem d_M_layParts_242 : decode y_M_layParts.2.1 242 = .ok (.if_icmp .lt (6), 3) := by decide +kernel
theorem d_M_layParts_248 : decode y_M_layParts.2.1 248 = .ok (.aload_n 0, 1) := by decide +kernel
theorem d_M_layParts_249 : decode y_M_layParts.2.1 249 = .ok (.getfield 142, 3) := by decide +kernel
theorem d_M_layParts_252 : decode y_M_layParts.2.1 252 = .ok (.iload_n 2, 1) := by decide +kernel
theorem d_M_layParts_253 : decode y_M_layParts.2.1 253 = .ok (.iload 6, 2) := by decide +kernel
theorem s_M_layParts_248 : aw_VS y_M_layParts 248 [o_ald 0, o_getA 9 78, o_ild 2, o_ild 6] 255 := .cons (v_aload_n (i := 0) d_M_layParts_248 rfl) (.cons (v_getA (k := 78) k_M (by decide) rfl (Or.inl w_1539) d_M_layParts_249) (.cons (v_iload_n (i := 2) d_M_layParts_252 rfl) (.cons (v_iload (i := 6) d_M_layParts_253) .nil)))
theorem d_M_layParts_255 : decode y_M_layParts.2.1 255 = .ok (.iastore, 1) := by decide +kernel
theorem d_M_layParts_256 : decode y_M_layParts.2.1 256 = .ok (.aload_n 0, 1) := by decide +kernel
theorem d_M_layParts_257 : decode y_M_layParts.2.1 257 = .ok (.getfield 145, 3) := by decide +kernel
theorem d_M_layParts_260 : decode y_M_layParts.2.1 260 = .ok (.iload_n 2, 1) := by decide +kernel
theorem d_M_layParts_261 : decode y_M_layParts.2.1 261 = .ok (.iload 5, 2) := by decide +kernel
theorem s_M_layParts_256 : aw_VS y_M_layParts 256 [o_ald 0, o_getA 9 79, o_ild 2, o_ild 5] 263 := .cons (v_aload_n (i := 0) d_M_layParts_256 rfl) (.cons (v_getA (k := 79) k_M (by decide) rfl (Or.inl w_1540) d_M_layParts_257) (.cons (v_iload_n (i := 2) d_M_layParts_260 rfl) (.cons (v_iload (i := 5) d_M_layParts_261) .nil)))
theorem d_M_layParts_263 : decode y_M_layParts.2.1 263 = .ok (.iastore, 1) := by decide +kernel
theorem d_M_layParts_264 : decode y_M_layParts.2.1 264 = .ok (.iinc 5 (1), 3) := by decide +kernel
theorem s_M_layParts_264 : aw_VS y_M_layParts 264 [o_inc 5 (1 : Int32)] 267 := .cons (v_iinc (k0 := (1 : Int32)) d_M_layParts_264 (by decide +kernel)) .nil
theorem d_M_layParts_267 : decode y_M_layParts.2.1 267 = .ok (.goto (-99), 3) := by decide +kernel
theorem d_M_layParts_245 : decode y_M_layParts.2.1 245 = .ok (.goto (19), 3) := by decide +kernel
theorem d_M_layParts_198 : decode y_M_layParts.2.1 198 = .ok (.goto (66), 3) := by decide +kernel
theorem b_M_layParts_168 {X : aw_X} {d : Nat} {Q : Option Value → aw_H → Prop} {I : Nat → Nat → Int32} {L : Nat → Nat → Int64} {D : Nat → Nat} {v1 : Int32} {v2 : Int32} {v5 : Int32}
    (h1 : v1 ≤ v5 → aw_z X (d + 1) y_M_layParts Q 7 [some (.ref 69), some (.int v1), some (.int (v2 + (1 : Int32))), none, none, none, none] [] (aw_s I L D))
    (h2 : ¬ v1 ≤ v5 → vp_in v2 6561)
    (h3 : ¬ v1 ≤ v5 → ¬ (I 108 v2.toNatClampNeg) = 0 → aw_z X (d + 1) y_M_layParts Q 7 [some (.ref 69), some (.int v1), some (.int (v2 + (1 : Int32))), none, none, none, none] [] (aw_s I L D))
    (h4 : ¬ v1 ≤ v5 → (I 108 v2.toNatClampNeg) = 0 → vp_in v5 9)
    (h5 : ¬ v1 ≤ v5 → (I 108 v2.toNatClampNeg) = 0 → ¬ (I 111 v5.toNatClampNeg) = 0)
    (h6 : ¬ v1 ≤ v5 → (I 108 v2.toNatClampNeg) = 0 → ((v2 / (I 111 v5.toNatClampNeg)) - (v2 / (I 111 v5.toNatClampNeg)) / (3 : Int32) * (3 : Int32)) = (2 : Int32) → vp_in v5 9)
    (h7 : ¬ v1 ≤ v5 → (I 108 v2.toNatClampNeg) = 0 → ((v2 / (I 111 v5.toNatClampNeg)) - (v2 / (I 111 v5.toNatClampNeg)) / (3 : Int32) * (3 : Int32)) = (2 : Int32) → vp_in (v2 - ((2 : Int32) * (I 111 v5.toNatClampNeg))) 6561)
    (h8 : ¬ v1 ≤ v5 → (I 108 v2.toNatClampNeg) = 0 → ((v2 / (I 111 v5.toNatClampNeg)) - (v2 / (I 111 v5.toNatClampNeg)) / (3 : Int32) * (3 : Int32)) = (2 : Int32) → vp_in v5 9)
    (h9 : ¬ v1 ≤ v5 → (I 108 v2.toNatClampNeg) = 0 → ((v2 / (I 111 v5.toNatClampNeg)) - (v2 / (I 111 v5.toNatClampNeg)) / (3 : Int32) * (3 : Int32)) = (2 : Int32) → vp_in (v2 - (I 111 v5.toNatClampNeg)) 6561)
    (h10 : ¬ v1 ≤ v5 → (I 108 v2.toNatClampNeg) = 0 → ((v2 / (I 111 v5.toNatClampNeg)) - (v2 / (I 111 v5.toNatClampNeg)) / (3 : Int32) * (3 : Int32)) = (2 : Int32) → vp_in v2 6561)
    (h11 : ¬ v1 ≤ v5 → (I 108 v2.toNatClampNeg) = 0 → ((v2 / (I 111 v5.toNatClampNeg)) - (v2 / (I 111 v5.toNatClampNeg)) / (3 : Int32) * (3 : Int32)) = (2 : Int32) → ((I 109 ((v2 - ((2 : Int32) * (I 111 v5.toNatClampNeg))).toNatClampNeg)) + (I 109 ((v2 - (I 111 v5.toNatClampNeg)).toNatClampNeg))) < (I 109 v2.toNatClampNeg) → vp_in v2 6561)
    (h12 : ¬ v1 ≤ v5 → (I 108 v2.toNatClampNeg) = 0 → ((v2 / (I 111 v5.toNatClampNeg)) - (v2 / (I 111 v5.toNatClampNeg)) / (3 : Int32) * (3 : Int32)) = (2 : Int32) → ((I 109 ((v2 - ((2 : Int32) * (I 111 v5.toNatClampNeg))).toNatClampNeg)) + (I 109 ((v2 - (I 111 v5.toNatClampNeg)).toNatClampNeg))) < (I 109 v2.toNatClampNeg) → vp_in v2 6561)
    (h13 : ¬ v1 ≤ v5 → (I 108 v2.toNatClampNeg) = 0 → ((v2 / (I 111 v5.toNatClampNeg)) - (v2 / (I 111 v5.toNatClampNeg)) / (3 : Int32) * (3 : Int32)) = (2 : Int32) → ((I 109 ((v2 - ((2 : Int32) * (I 111 v5.toNatClampNeg))).toNatClampNeg)) + (I 109 ((v2 - (I 111 v5.toNatClampNeg)).toNatClampNeg))) < (I 109 v2.toNatClampNeg) → aw_z X (d + 1) y_M_layParts Q 168 [some (.ref 69), some (.int v1), some (.int v2), none, none, some (.int (v5 + (1 : Int32))), none] [] (aw_s (aw_u (aw_u I 109 v2.toNatClampNeg ((I 109 ((v2 - ((2 : Int32) * (I 111 v5.toNatClampNeg))).toNatClampNeg)) + (I 109 ((v2 - (I 111 v5.toNatClampNeg)).toNatClampNeg)))) 110 v2.toNatClampNeg v5) L D))
    (h14 : ¬ v1 ≤ v5 → (I 108 v2.toNatClampNeg) = 0 → ((v2 / (I 111 v5.toNatClampNeg)) - (v2 / (I 111 v5.toNatClampNeg)) / (3 : Int32) * (3 : Int32)) = (2 : Int32) → ¬ ((I 109 ((v2 - ((2 : Int32) * (I 111 v5.toNatClampNeg))).toNatClampNeg)) + (I 109 ((v2 - (I 111 v5.toNatClampNeg)).toNatClampNeg))) < (I 109 v2.toNatClampNeg) → aw_z X (d + 1) y_M_layParts Q 168 [some (.ref 69), some (.int v1), some (.int v2), none, none, some (.int (v5 + (1 : Int32))), none] [] (aw_s I L D))
    (h15 : ¬ v1 ≤ v5 → (I 108 v2.toNatClampNeg) = 0 → ¬ ((v2 / (I 111 v5.toNatClampNeg)) - (v2 / (I 111 v5.toNatClampNeg)) / (3 : Int32) * (3 : Int32)) = (2 : Int32) → aw_z X (d + 1) y_M_layParts Q 168 [some (.ref 69), some (.int v1), some (.int v2), none, none, some (.int (v5 + (1 : Int32))), none] [] (aw_s I L D)) :
    aw_z X (d + 1) y_M_layParts Q 168 [some (.ref 69), some (.int v1), some (.int v2), none, none, some (.int v5), none] [] (aw_s I L D) :=
  (s_M_layParts_168.go [some (.ref 69), some (.int v1), some (.int v2), none, none, some (.int v5), none] [.int v1, .int v5] (aw_s I L D) rfl (z_icmp_ge (tgt := 270) d_M_layParts_171 rfl (fun q1 => (s_M_layParts_270.go [some (.ref 69), some (.int v1), some (.int (v2 + (1 : Int32))), none, none, some (.int v5), none] [] (aw_s I L D) rfl (z_goto (tgt := 7) d_M_layParts_273 rfl (aw_Z.weak (ls' := [some (.ref 69), some (.int v1), some (.int (v2 + (1 : Int32))), none, none, none, none]) (h1 q1) (Nat.le_of_ble_eq_true rfl) ⟨Or.inr rfl, ⟨Or.inr rfl, ⟨Or.inr rfl, ⟨Or.inl rfl, ⟨Or.inl rfl, ⟨Or.inl rfl, ⟨Or.inl rfl, trivial⟩⟩⟩⟩⟩⟩⟩)))) (fun q2 => (s_M_layParts_174.go [some (.ref 69), some (.int v1), some (.int v2), none, none, some (.int v5), none] [.int v2, .ref 108] (aw_s I L D) rfl (z_iald (n := 6561) rfl (aw_lt (o := 108) rfl) (h2 q2) d_M_layParts_179 (z_if_ne (tgt := 270) d_M_layParts_180 rfl (fun q3 => (s_M_layParts_270.go [some (.ref 69), some (.int v1), some (.int (v2 + (1 : Int32))), none, none, some (.int v5), none] [] (aw_s I L D) rfl (z_goto (tgt := 7) d_M_layParts_273 rfl (aw_Z.weak (ls' := [some (.ref 69), some (.int v1), some (.int (v2 + (1 : Int32))), none, none, none, none]) (h3 q2 q3) (Nat.le_of_ble_eq_true rfl) ⟨Or.inr rfl, ⟨Or.inr rfl, ⟨Or.inr rfl, ⟨Or.inl rfl, ⟨Or.inl rfl, ⟨Or.inl rfl, ⟨Or.inl rfl, trivial⟩⟩⟩⟩⟩⟩⟩)))) (fun q4 => (s_M_layParts_183.go [some (.ref 69), some (.int v1), some (.int v2), none, none, some (.int v5), none] [.int v5, .ref 111, .int v2] (aw_s I L D) rfl (z_iald (n := 9) rfl (aw_lt (o := 111) rfl) (h4 q2 q4) d_M_layParts_190 (z_idiv d_M_layParts_191 (h5 q2 q4) (s_M_layParts_192.go [some (.ref 69), some (.int v1), some (.int v2), none, none, some (.int v5), none] [.int (3 : Int32), .int (v2 / (I 111 v5.toNatClampNeg))] (aw_s I L D) rfl (z_irem d_M_layParts_193 (by decide +kernel) (s_M_layParts_194.go [some (.ref 69), some (.int v1), some (.int v2), none, none, some (.int v5), none] [.int (2 : Int32), .int ((v2 / (I 111 v5.toNatClampNeg)) - (v2 / (I 111 v5.toNatClampNeg)) / (3 : Int32) * (3 : Int32))] (aw_s I L D) rfl (z_icmp_eq (tgt := 201) d_M_layParts_195 rfl (fun q5 => (s_M_layParts_201.go [some (.ref 69), some (.int v1), some (.int v2), none, none, some (.int v5), none] [.int v5, .ref 111, .int (2 : Int32), .int v2, .ref 109] (aw_s I L D) rfl (z_iald (n := 9) rfl (aw_lt (o := 111) rfl) (h6 q2 q4 q5) d_M_layParts_213 (s_M_layParts_214.go [some (.ref 69), some (.int v1), some (.int v2), none, none, some (.int v5), none] [.int (v2 - ((2 : Int32) * (I 111 v5.toNatClampNeg))), .ref 109] (aw_s I L D) rfl (z_iald (n := 6561) rfl (aw_lt (o := 109) rfl) (h7 q2 q4 q5) d_M_layParts_216 (s_M_layParts_217.go [some (.ref 69), some (.int v1), some (.int v2), none, none, some (.int v5), none] [.int v5, .ref 111, .int v2, .ref 109, .int (I 109 ((v2 - ((2 : Int32) * (I 111 v5.toNatClampNeg))).toNatClampNeg))] (aw_s I L D) rfl (z_iald (n := 9) rfl (aw_lt (o := 111) rfl) (h8 q2 q4 q5) d_M_layParts_228 (s_M_layParts_229.go [some (.ref 69), some (.int v1), some (.int v2), none, none, some (.int v5), none] [.int (v2 - (I 111 v5.toNatClampNeg)), .ref 109, .int (I 109 ((v2 - ((2 : Int32) * (I 111 v5.toNatClampNeg))).toNatClampNeg))] (aw_s I L D) rfl (z_iald (n := 6561) rfl (aw_lt (o := 109) rfl) (h9 q2 q4 q5) d_M_layParts_230 (s_M_layParts_231.go [some (.ref 69), some (.int v1), some (.int v2), none, none, some (.int v5), some (.int ((I 109 ((v2 - ((2 : Int32) * (I 111 v5.toNatClampNeg))).toNatClampNeg)) + (I 109 ((v2 - (I 111 v5.toNatClampNeg)).toNatClampNeg))))] [.int v2, .ref 109, .int ((I 109 ((v2 - ((2 : Int32) * (I 111 v5.toNatClampNeg))).toNatClampNeg)) + (I 109 ((v2 - (I 111 v5.toNatClampNeg)).toNatClampNeg)))] (aw_s I L D) rfl (z_iald (n := 6561) rfl (aw_lt (o := 109) rfl) (h10 q2 q4 q5) d_M_layParts_241 (z_icmp_lt (tgt := 248) d_M_layParts_242 rfl (fun q7 => (s_M_layParts_248.go [some (.ref 69), some (.int v1), some (.int v2), none, none, some (.int v5), some (.int ((I 109 ((v2 - ((2 : Int32) * (I 111 v5.toNatClampNeg))).toNatClampNeg)) + (I 109 ((v2 - (I 111 v5.toNatClampNeg)).toNatClampNeg))))] [.int ((I 109 ((v2 - ((2 : Int32) * (I 111 v5.toNatClampNeg))).toNatClampNeg)) + (I 109 ((v2 - (I 111 v5.toNatClampNeg)).toNatClampNeg))), .int v2, .ref 109] (aw_s I L D) rfl (z_iast (n := 6561) rfl (aw_lt (o := 109) rfl) (h11 q2 q4 q5 q7) d_M_layParts_255 (s_M_layParts_256.go [some (.ref 69), some (.int v1), some (.int v2), none, none, some (.int v5), some (.int ((I 109 ((v2 - ((2 : Int32) * (I 111 v5.toNatClampNeg))).toNatClampNeg)) + (I 109 ((v2 - (I 111 v5.toNatClampNeg)).toNatClampNeg))))] [.int v5, .int v2, .ref 110] (aw_s (aw_u I 109 v2.toNatClampNeg ((I 109 ((v2 - ((2 : Int32) * (I 111 v5.toNatClampNeg))).toNatClampNeg)) + (I 109 ((v2 - (I 111 v5.toNatClampNeg)).toNatClampNeg)))) L D) rfl (z_iast (n := 6561) rfl (aw_lt (o := 110) rfl) (h12 q2 q4 q5 q7) d_M_layParts_263 (s_M_layParts_264.go [some (.ref 69), some (.int v1), some (.int v2), none, none, some (.int (v5 + (1 : Int32))), some (.int ((I 109 ((v2 - ((2 : Int32) * (I 111 v5.toNatClampNeg))).toNatClampNeg)) + (I 109 ((v2 - (I 111 v5.toNatClampNeg)).toNatClampNeg))))] [] (aw_s (aw_u (aw_u I 109 v2.toNatClampNeg ((I 109 ((v2 - ((2 : Int32) * (I 111 v5.toNatClampNeg))).toNatClampNeg)) + (I 109 ((v2 - (I 111 v5.toNatClampNeg)).toNatClampNeg)))) 110 v2.toNatClampNeg v5) L D) rfl (z_goto (tgt := 168) d_M_layParts_267 rfl (aw_Z.weak (ls' := [some (.ref 69), some (.int v1), some (.int v2), none, none, some (.int (v5 + (1 : Int32))), none]) (h13 q2 q4 q5 q7) (Nat.le_of_ble_eq_true rfl) ⟨Or.inr rfl, ⟨Or.inr rfl, ⟨Or.inr rfl, ⟨Or.inl rfl, ⟨Or.inl rfl, ⟨Or.inr rfl, ⟨Or.inl rfl, trivial⟩⟩⟩⟩⟩⟩⟩)))))))) (fun q8 => (z_goto (tgt := 264) d_M_layParts_245 rfl (s_M_layParts_264.go [some (.ref 69), some (.int v1), some (.int v2), none, none, some (.int (v5 + (1 : Int32))), some (.int ((I 109 ((v2 - ((2 : Int32) * (I 111 v5.toNatClampNeg))).toNatClampNeg)) + (I 109 ((v2 - (I 111 v5.toNatClampNeg)).toNatClampNeg))))] [] (aw_s I L D) rfl (z_goto (tgt := 168) d_M_layParts_267 rfl (aw_Z.weak (ls' := [some (.ref 69), some (.int v1), some (.int v2), none, none, some (.int (v5 + (1 : Int32))), none]) (h14 q2 q4 q5 q8) (Nat.le_of_ble_eq_true rfl) ⟨Or.inr rfl, ⟨Or.inr rfl, ⟨Or.inr rfl, ⟨Or.inl rfl, ⟨Or.inl rfl, ⟨Or.inr rfl, ⟨Or.inl rfl, trivial⟩⟩⟩⟩⟩⟩⟩))))))))))))))))) (fun q6 => (z_goto (tgt := 264) d_M_layParts_198 rfl (s_M_layParts_264.go [some (.ref 69), some (.int v1), some (.int v2), none, none, some (.int (v5 + (1 : Int32))), none] [] (aw_s I L D) rfl (z_goto (tgt := 168) d_M_layParts_267 rfl (h15 q2 q4 q6)))))))))))))))))))
