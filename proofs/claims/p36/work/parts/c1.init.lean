/-! PART c1 (by gen_init.py): the constructors of the class -/
theorem w_ac_int : Cond.arrayClass .int ∈ aw_T := aw_t1 62 rfl rfl
theorem w_ac_long : Cond.arrayClass .long ∈ aw_T := aw_t1 141 rfl rfl
theorem gt_AW : ∀ j, j < 18 → aw_gt (aw_ty 0 j) = true := by decide
theorem gt_Sz : ∀ j, j < 3 → aw_gt (aw_ty 1 j) = true := by decide
theorem gt_Tp : ∀ j, j < 2 → aw_gt (aw_ty 2 j) = true := by decide
theorem gt_Mc : ∀ j, j < 20 → aw_gt (aw_ty 3 j) = true := by decide
theorem gt_Wk : ∀ j, j < 17 → aw_gt (aw_ty 4 j) = true := by decide
theorem gt_Pf : ∀ j, j < 9 → aw_gt (aw_ty 5 j) = true := by decide
theorem gt_Cd : ∀ j, j < 11 → aw_gt (aw_ty 6 j) = true := by decide
theorem gt_Ps : ∀ j, j < 5 → aw_gt (aw_ty 7 j) = true := by decide
theorem gt_Tk : ∀ j, j < 9 → aw_gt (aw_ty 8 j) = true := by decide
theorem d_AW_init_0 : decode y_AW_init.2.1 0 = .ok (.aload_n 0, 1) := by decide +kernel
theorem s_AW_init_0 : aw_VS y_AW_init 0 [o_ald 0] 1 := .cons (v_aload_n (i := 0) d_AW_init_0 rfl) .nil
theorem d_AW_init_1 : decode y_AW_init.2.1 1 = .ok (.invokespecial 3, 3) := by decide +kernel
theorem d_AW_init_4 : decode y_AW_init.2.1 4 = .ok (.aload_n 0, 1) := by decide +kernel
theorem s_AW_init_4 : aw_VS y_AW_init 4 [o_ald 0] 5 := .cons (v_aload_n (i := 0) d_AW_init_4 rfl) .nil
theorem d_AW_init_5 : decode y_AW_init.2.1 5 = .ok (.new 9, 3) := by decide +kernel
theorem d_AW_init_8 : decode y_AW_init.2.1 8 = .ok (.dup, 1) := by decide +kernel
theorem s_AW_init_8 : aw_VS y_AW_init 8 [o_dup] 9 := .cons (v_dup d_AW_init_8) .nil
theorem d_Sz_init_0 : decode y_Sz_init.2.1 0 = .ok (.aload_n 0, 1) := by decide +kernel
theorem s_Sz_init_0 : aw_VS y_Sz_init 0 [o_ald 0] 1 := .cons (v_aload_n (i := 0) d_Sz_init_0 rfl) .nil
theorem d_Sz_init_1 : decode y_Sz_init.2.1 1 = .ok (.invokespecial 3, 3) := by decide +kernel
theorem d_Sz_init_16 : decode y_Sz_init.2.1 16 = .ok (.putfield 18, 3) := by decide +kernel
theorem d_Sz_init_15 : decode y_Sz_init.2.1 15 = .ok (.iconst 0, 1) := by decide +kernel
theorem d_Sz_init_14 : decode y_Sz_init.2.1 14 = .ok (.aload_n 0, 1) := by decide +kernel
theorem d_Sz_init_11 : decode y_Sz_init.2.1 11 = .ok (.putfield 15, 3) := by decide +kernel
theorem d_Sz_init_10 : decode y_Sz_init.2.1 10 = .ok (.iconst 1, 1) := by decide +kernel
theorem d_Sz_init_9 : decode y_Sz_init.2.1 9 = .ok (.aload_n 0, 1) := by decide +kernel
theorem d_Sz_init_6 : decode y_Sz_init.2.1 6 = .ok (.putfield 9, 3) := by decide +kernel
theorem d_Sz_init_5 : decode y_Sz_init.2.1 5 = .ok (.iconst 3, 1) := by decide +kernel
theorem d_Sz_init_4 : decode y_Sz_init.2.1 4 = .ok (.aload_n 0, 1) := by decide +kernel
theorem s_Sz_init_4 : aw_VS y_Sz_init 4 [o_ald 0, o_c (.int (3 : Int32)), o_putI 1 0, o_ald 0, o_c (.int (1 : Int32)), o_putI 1 1, o_ald 0, o_c (.int (0 : Int32)), o_putI 1 2] 19 := .cons (v_aload_n (i := 0) d_Sz_init_4 rfl) (.cons (v_iconst (v := (3 : Int32)) d_Sz_init_5 (by decide +kernel)) (.cons (v_putI (k := 0) k_Sz (by decide) rfl (Or.inl ⟨rfl, Or.inl w_87⟩) d_Sz_init_6) (.cons (v_aload_n (i := 0) d_Sz_init_9 rfl) (.cons (v_iconst (v := (1 : Int32)) d_Sz_init_10 (by decide +kernel)) (.cons (v_putI (k := 1) k_Sz (by decide) rfl (Or.inl ⟨rfl, Or.inl w_89⟩) d_Sz_init_11) (.cons (v_aload_n (i := 0) d_Sz_init_14 rfl) (.cons (v_iconst (v := (0 : Int32)) d_Sz_init_15 (by decide +kernel)) (.cons (v_putI (k := 2) k_Sz (by decide) rfl (Or.inl ⟨rfl, Or.inl w_91⟩) d_Sz_init_16) .nil))))))))
theorem d_Sz_init_19 : decode y_Sz_init.2.1 19 = .ok (.return_, 1) := by decide +kernel
theorem d_AW_init_9 : decode y_AW_init.2.1 9 = .ok (.invokespecial 11, 3) := by decide +kernel
theorem d_AW_init_15 : decode y_AW_init.2.1 15 = .ok (.aload_n 0, 1) := by decide +kernel
theorem d_AW_init_12 : decode y_AW_init.2.1 12 = .ok (.putfield 12, 3) := by decide +kernel
theorem s_AW_init_12 : aw_VS y_AW_init 12 [o_putA 0 0, o_ald 0] 16 := .cons (v_putA (k := 0) k_AW (by decide) rfl (Or.inr ⟨rfl, rfl, rfl, w_395⟩) d_AW_init_12) (.cons (v_aload_n (i := 0) d_AW_init_15 rfl) .nil)
theorem d_AW_init_16 : decode y_AW_init.2.1 16 = .ok (.new 16, 3) := by decide +kernel
theorem d_AW_init_19 : decode y_AW_init.2.1 19 = .ok (.dup, 1) := by decide +kernel
theorem s_AW_init_19 : aw_VS y_AW_init 19 [o_dup] 20 := .cons (v_dup d_AW_init_19) .nil
theorem d_Tp_init_0 : decode y_Tp_init.2.1 0 = .ok (.aload_n 0, 1) := by decide +kernel
theorem s_Tp_init_0 : aw_VS y_Tp_init 0 [o_ald 0] 1 := .cons (v_aload_n (i := 0) d_Tp_init_0 rfl) .nil
theorem d_Tp_init_1 : decode y_Tp_init.2.1 1 = .ok (.invokespecial 3, 3) := by decide +kernel
theorem d_Tp_init_5 : decode y_Tp_init.2.1 5 = .ok (.sipush 540, 3) := by decide +kernel
theorem d_Tp_init_4 : decode y_Tp_init.2.1 4 = .ok (.aload_n 0, 1) := by decide +kernel
theorem s_Tp_init_4 : aw_VS y_Tp_init 4 [o_ald 0, o_c (.int (540 : Int32))] 8 := .cons (v_aload_n (i := 0) d_Tp_init_4 rfl) (.cons (v_sipush (v := (540 : Int32)) d_Tp_init_5 (by decide +kernel)) .nil)
theorem d_Tp_init_8 : decode y_Tp_init.2.1 8 = .ok (.newarray .int, 2) := by decide +kernel
theorem d_Tp_init_10 : decode y_Tp_init.2.1 10 = .ok (.putfield 9, 3) := by decide +kernel
theorem s_Tp_init_10 : aw_VS y_Tp_init 10 [o_putA 2 0] 13 := .cons (v_putA (k := 0) k_Tp (by decide) rfl (Or.inr ⟨rfl, rfl, rfl, w_105⟩) d_Tp_init_10) .nil
theorem d_Tp_init_13 : decode y_Tp_init.2.1 13 = .ok (.return_, 1) := by decide +kernel
theorem d_AW_init_20 : decode y_AW_init.2.1 20 = .ok (.invokespecial 18, 3) := by decide +kernel
theorem d_AW_init_26 : decode y_AW_init.2.1 26 = .ok (.aload_n 0, 1) := by decide +kernel
theorem d_AW_init_23 : decode y_AW_init.2.1 23 = .ok (.putfield 19, 3) := by decide +kernel
theorem s_AW_init_23 : aw_VS y_AW_init 23 [o_putA 0 1, o_ald 0] 27 := .cons (v_putA (k := 1) k_AW (by decide) rfl (Or.inr ⟨rfl, rfl, rfl, w_396⟩) d_AW_init_23) (.cons (v_aload_n (i := 0) d_AW_init_26 rfl) .nil)
theorem d_AW_init_27 : decode y_AW_init.2.1 27 = .ok (.new 23, 3) := by decide +kernel
theorem d_AW_init_32 : decode y_AW_init.2.1 32 = .ok (.getfield 12, 3) := by decide +kernel
theorem d_AW_init_31 : decode y_AW_init.2.1 31 = .ok (.aload_n 0, 1) := by decide +kernel
theorem d_AW_init_30 : decode y_AW_init.2.1 30 = .ok (.dup, 1) := by decide +kernel
theorem s_AW_init_30 : aw_VS y_AW_init 30 [o_dup, o_ald 0, o_getA 0 0] 35 := .cons (v_dup d_AW_init_30) (.cons (v_aload_n (i := 0) d_AW_init_31 rfl) (.cons (v_getA (k := 0) k_AW (by decide) rfl (Or.inl w_395) d_AW_init_32) .nil))
theorem d_Mc_init_0 : decode y_Mc_init.2.1 0 = .ok (.aload_n 0, 1) := by decide +kernel
theorem s_Mc_init_0 : aw_VS y_Mc_init 0 [o_ald 0] 1 := .cons (v_aload_n (i := 0) d_Mc_init_0 rfl) .nil
theorem d_Mc_init_1 : decode y_Mc_init.2.1 1 = .ok (.invokespecial 3, 3) := by decide +kernel
theorem d_Mc_init_5 : decode y_Mc_init.2.1 5 = .ok (.bipush 8, 2) := by decide +kernel
theorem d_Mc_init_4 : decode y_Mc_init.2.1 4 = .ok (.aload_n 0, 1) := by decide +kernel
theorem s_Mc_init_4 : aw_VS y_Mc_init 4 [o_ald 0, o_c (.int (8 : Int32))] 7 := .cons (v_aload_n (i := 0) d_Mc_init_4 rfl) (.cons (v_bipush (v := (8 : Int32)) d_Mc_init_5 (by decide +kernel)) .nil)
theorem d_Mc_init_7 : decode y_Mc_init.2.1 7 = .ok (.newarray .int, 2) := by decide +kernel
theorem d_Mc_init_13 : decode y_Mc_init.2.1 13 = .ok (.bipush 8, 2) := by decide +kernel
theorem d_Mc_init_12 : decode y_Mc_init.2.1 12 = .ok (.aload_n 0, 1) := by decide +kernel
theorem d_Mc_init_9 : decode y_Mc_init.2.1 9 = .ok (.putfield 9, 3) := by decide +kernel
theorem s_Mc_init_9 : aw_VS y_Mc_init 9 [o_putA 3 1, o_ald 0, o_c (.int (8 : Int32))] 15 := .cons (v_putA (k := 1) k_Mc (by decide) rfl (Or.inr ⟨rfl, rfl, rfl, w_122⟩) d_Mc_init_9) (.cons (v_aload_n (i := 0) d_Mc_init_12 rfl) (.cons (v_bipush (v := (8 : Int32)) d_Mc_init_13 (by decide +kernel)) .nil))
theorem d_Mc_init_15 : decode y_Mc_init.2.1 15 = .ok (.newarray .int, 2) := by decide +kernel
theorem d_Mc_init_21 : decode y_Mc_init.2.1 21 = .ok (.bipush 64, 2) := by decide +kernel
theorem d_Mc_init_20 : decode y_Mc_init.2.1 20 = .ok (.aload_n 0, 1) := by decide +kernel
theorem d_Mc_init_17 : decode y_Mc_init.2.1 17 = .ok (.putfield 15, 3) := by decide +kernel
theorem s_Mc_init_17 : aw_VS y_Mc_init 17 [o_putA 3 2, o_ald 0, o_c (.int (64 : Int32))] 23 := .cons (v_putA (k := 2) k_Mc (by decide) rfl (Or.inr ⟨rfl, rfl, rfl, w_124⟩) d_Mc_init_17) (.cons (v_aload_n (i := 0) d_Mc_init_20 rfl) (.cons (v_bipush (v := (64 : Int32)) d_Mc_init_21 (by decide +kernel)) .nil))
theorem d_Mc_init_23 : decode y_Mc_init.2.1 23 = .ok (.newarray .int, 2) := by decide +kernel
theorem d_Mc_init_29 : decode y_Mc_init.2.1 29 = .ok (.iconst 4, 1) := by decide +kernel
theorem d_Mc_init_28 : decode y_Mc_init.2.1 28 = .ok (.aload_n 0, 1) := by decide +kernel
theorem d_Mc_init_25 : decode y_Mc_init.2.1 25 = .ok (.putfield 18, 3) := by decide +kernel
theorem s_Mc_init_25 : aw_VS y_Mc_init 25 [o_putA 3 3, o_ald 0, o_c (.int (4 : Int32))] 30 := .cons (v_putA (k := 3) k_Mc (by decide) rfl (Or.inr ⟨rfl, rfl, rfl, w_126⟩) d_Mc_init_25) (.cons (v_aload_n (i := 0) d_Mc_init_28 rfl) (.cons (v_iconst (v := (4 : Int32)) d_Mc_init_29 (by decide +kernel)) .nil))
theorem d_Mc_init_30 : decode y_Mc_init.2.1 30 = .ok (.newarray .int, 2) := by decide +kernel
theorem d_Mc_init_36 : decode y_Mc_init.2.1 36 = .ok (.sipush 1001, 3) := by decide +kernel
theorem d_Mc_init_35 : decode y_Mc_init.2.1 35 = .ok (.aload_n 0, 1) := by decide +kernel
theorem d_Mc_init_32 : decode y_Mc_init.2.1 32 = .ok (.putfield 21, 3) := by decide +kernel
theorem s_Mc_init_32 : aw_VS y_Mc_init 32 [o_putA 3 5, o_ald 0, o_c (.int (1001 : Int32))] 39 := .cons (v_putA (k := 5) k_Mc (by decide) rfl (Or.inr ⟨rfl, rfl, rfl, w_128⟩) d_Mc_init_32) (.cons (v_aload_n (i := 0) d_Mc_init_35 rfl) (.cons (v_sipush (v := (1001 : Int32)) d_Mc_init_36 (by decide +kernel)) .nil))
theorem d_Mc_init_39 : decode y_Mc_init.2.1 39 = .ok (.newarray .long, 2) := by decide +kernel
theorem d_Mc_init_45 : decode y_Mc_init.2.1 45 = .ok (.bipush 60, 2) := by decide +kernel
theorem d_Mc_init_44 : decode y_Mc_init.2.1 44 = .ok (.aload_n 0, 1) := by decide +kernel
theorem d_Mc_init_41 : decode y_Mc_init.2.1 41 = .ok (.putfield 24, 3) := by decide +kernel
theorem s_Mc_init_41 : aw_VS y_Mc_init 41 [o_putA 3 17, o_ald 0, o_c (.int (60 : Int32))] 47 := .cons (v_putA (k := 17) k_Mc (by decide) rfl (Or.inr ⟨rfl, rfl, rfl, w_147⟩) d_Mc_init_41) (.cons (v_aload_n (i := 0) d_Mc_init_44 rfl) (.cons (v_bipush (v := (60 : Int32)) d_Mc_init_45 (by decide +kernel)) .nil))
theorem d_Mc_init_47 : decode y_Mc_init.2.1 47 = .ok (.newarray .int, 2) := by decide +kernel
theorem d_Mc_init_54 : decode y_Mc_init.2.1 54 = .ok (.putfield 31, 3) := by decide +kernel
theorem d_Mc_init_53 : decode y_Mc_init.2.1 53 = .ok (.aload_n 1, 1) := by decide +kernel
theorem d_Mc_init_52 : decode y_Mc_init.2.1 52 = .ok (.aload_n 0, 1) := by decide +kernel
theorem d_Mc_init_49 : decode y_Mc_init.2.1 49 = .ok (.putfield 28, 3) := by decide +kernel
theorem s_Mc_init_49 : aw_VS y_Mc_init 49 [o_putA 3 18, o_ald 0, o_ald 1, o_putA 3 0] 57 := .cons (v_putA (k := 18) k_Mc (by decide) rfl (Or.inr ⟨rfl, rfl, rfl, w_149⟩) d_Mc_init_49) (.cons (v_aload_n (i := 0) d_Mc_init_52 rfl) (.cons (v_aload_n (i := 1) d_Mc_init_53 rfl) (.cons (v_putA (k := 0) k_Mc (by decide) rfl (Or.inr ⟨rfl, rfl, rfl, w_121⟩) d_Mc_init_54) .nil)))
theorem d_Mc_init_57 : decode y_Mc_init.2.1 57 = .ok (.return_, 1) := by decide +kernel
theorem d_AW_init_35 : decode y_AW_init.2.1 35 = .ok (.invokespecial 25, 3) := by decide +kernel
theorem d_AW_init_41 : decode y_AW_init.2.1 41 = .ok (.aload_n 0, 1) := by decide +kernel
theorem d_AW_init_38 : decode y_AW_init.2.1 38 = .ok (.putfield 28, 3) := by decide +kernel
theorem s_AW_init_38 : aw_VS y_AW_init 38 [o_putA 0 2, o_ald 0] 42 := .cons (v_putA (k := 2) k_AW (by decide) rfl (Or.inr ⟨rfl, rfl, rfl, w_397⟩) d_AW_init_38) (.cons (v_aload_n (i := 0) d_AW_init_41 rfl) .nil)
theorem d_AW_init_42 : decode y_AW_init.2.1 42 = .ok (.new 32, 3) := by decide +kernel
theorem d_AW_init_45 : decode y_AW_init.2.1 45 = .ok (.dup, 1) := by decide +kernel
theorem s_AW_init_45 : aw_VS y_AW_init 45 [o_dup] 46 := .cons (v_dup d_AW_init_45) .nil
theorem d_Wk_init_0 : decode y_Wk_init.2.1 0 = .ok (.aload_n 0, 1) := by decide +kernel
theorem s_Wk_init_0 : aw_VS y_Wk_init 0 [o_ald 0] 1 := .cons (v_aload_n (i := 0) d_Wk_init_0 rfl) .nil
theorem d_Wk_init_1 : decode y_Wk_init.2.1 1 = .ok (.invokespecial 3, 3) := by decide +kernel
theorem d_Wk_init_5 : decode y_Wk_init.2.1 5 = .ok (.sipush 4096, 3) := by decide +kernel
theorem d_Wk_init_4 : decode y_Wk_init.2.1 4 = .ok (.aload_n 0, 1) := by decide +kernel
theorem s_Wk_init_4 : aw_VS y_Wk_init 4 [o_ald 0, o_c (.int (4096 : Int32))] 8 := .cons (v_aload_n (i := 0) d_Wk_init_4 rfl) (.cons (v_sipush (v := (4096 : Int32)) d_Wk_init_5 (by decide +kernel)) .nil)
theorem d_Wk_init_8 : decode y_Wk_init.2.1 8 = .ok (.newarray .long, 2) := by decide +kernel
theorem d_Wk_init_14 : decode y_Wk_init.2.1 14 = .ok (.sipush 4096, 3) := by decide +kernel
theorem d_Wk_init_13 : decode y_Wk_init.2.1 13 = .ok (.aload_n 0, 1) := by decide +kernel
theorem d_Wk_init_10 : decode y_Wk_init.2.1 10 = .ok (.putfield 9, 3) := by decide +kernel
theorem s_Wk_init_10 : aw_VS y_Wk_init 10 [o_putA 4 3, o_ald 0, o_c (.int (4096 : Int32))] 17 := .cons (v_putA (k := 3) k_Wk (by decide) rfl (Or.inr ⟨rfl, rfl, rfl, w_203⟩) d_Wk_init_10) (.cons (v_aload_n (i := 0) d_Wk_init_13 rfl) (.cons (v_sipush (v := (4096 : Int32)) d_Wk_init_14 (by decide +kernel)) .nil))
theorem d_Wk_init_17 : decode y_Wk_init.2.1 17 = .ok (.newarray .int, 2) := by decide +kernel
theorem d_Wk_init_23 : decode y_Wk_init.2.1 23 = .ok (.sipush 4096, 3) := by decide +kernel
theorem d_Wk_init_22 : decode y_Wk_init.2.1 22 = .ok (.aload_n 0, 1) := by decide +kernel
theorem d_Wk_init_19 : decode y_Wk_init.2.1 19 = .ok (.putfield 15, 3) := by decide +kernel
theorem s_Wk_init_19 : aw_VS y_Wk_init 19 [o_putA 4 4, o_ald 0, o_c (.int (4096 : Int32))] 26 := .cons (v_putA (k := 4) k_Wk (by decide) rfl (Or.inr ⟨rfl, rfl, rfl, w_204⟩) d_Wk_init_19) (.cons (v_aload_n (i := 0) d_Wk_init_22 rfl) (.cons (v_sipush (v := (4096 : Int32)) d_Wk_init_23 (by decide +kernel)) .nil))
theorem d_Wk_init_26 : decode y_Wk_init.2.1 26 = .ok (.newarray .long, 2) := by decide +kernel
theorem d_Wk_init_32 : decode y_Wk_init.2.1 32 = .ok (.sipush 4096, 3) := by decide +kernel
theorem d_Wk_init_31 : decode y_Wk_init.2.1 31 = .ok (.aload_n 0, 1) := by decide +kernel
theorem d_Wk_init_28 : decode y_Wk_init.2.1 28 = .ok (.putfield 19, 3) := by decide +kernel
theorem s_Wk_init_28 : aw_VS y_Wk_init 28 [o_putA 4 5, o_ald 0, o_c (.int (4096 : Int32))] 35 := .cons (v_putA (k := 5) k_Wk (by decide) rfl (Or.inr ⟨rfl, rfl, rfl, w_205⟩) d_Wk_init_28) (.cons (v_aload_n (i := 0) d_Wk_init_31 rfl) (.cons (v_sipush (v := (4096 : Int32)) d_Wk_init_32 (by decide +kernel)) .nil))
theorem d_Wk_init_35 : decode y_Wk_init.2.1 35 = .ok (.newarray .long, 2) := by decide +kernel
theorem d_Wk_init_41 : decode y_Wk_init.2.1 41 = .ok (.sipush 4096, 3) := by decide +kernel
theorem d_Wk_init_40 : decode y_Wk_init.2.1 40 = .ok (.aload_n 0, 1) := by decide +kernel
theorem d_Wk_init_37 : decode y_Wk_init.2.1 37 = .ok (.putfield 22, 3) := by decide +kernel
theorem s_Wk_init_37 : aw_VS y_Wk_init 37 [o_putA 4 7, o_ald 0, o_c (.int (4096 : Int32))] 44 := .cons (v_putA (k := 7) k_Wk (by decide) rfl (Or.inr ⟨rfl, rfl, rfl, w_208⟩) d_Wk_init_37) (.cons (v_aload_n (i := 0) d_Wk_init_40 rfl) (.cons (v_sipush (v := (4096 : Int32)) d_Wk_init_41 (by decide +kernel)) .nil))
theorem d_Wk_init_44 : decode y_Wk_init.2.1 44 = .ok (.newarray .int, 2) := by decide +kernel
theorem d_Wk_init_50 : decode y_Wk_init.2.1 50 = .ok (.sipush 4096, 3) := by decide +kernel
theorem d_Wk_init_49 : decode y_Wk_init.2.1 49 = .ok (.aload_n 0, 1) := by decide +kernel
theorem d_Wk_init_46 : decode y_Wk_init.2.1 46 = .ok (.putfield 25, 3) := by decide +kernel
theorem s_Wk_init_46 : aw_VS y_Wk_init 46 [o_putA 4 8, o_ald 0, o_c (.int (4096 : Int32))] 53 := .cons (v_putA (k := 8) k_Wk (by decide) rfl (Or.inr ⟨rfl, rfl, rfl, w_209⟩) d_Wk_init_46) (.cons (v_aload_n (i := 0) d_Wk_init_49 rfl) (.cons (v_sipush (v := (4096 : Int32)) d_Wk_init_50 (by decide +kernel)) .nil))
theorem d_Wk_init_53 : decode y_Wk_init.2.1 53 = .ok (.newarray .int, 2) := by decide +kernel
theorem d_Wk_init_59 : decode y_Wk_init.2.1 59 = .ok (.sipush 480, 3) := by decide +kernel
theorem d_Wk_init_58 : decode y_Wk_init.2.1 58 = .ok (.aload_n 0, 1) := by decide +kernel
theorem d_Wk_init_55 : decode y_Wk_init.2.1 55 = .ok (.putfield 28, 3) := by decide +kernel
theorem s_Wk_init_55 : aw_VS y_Wk_init 55 [o_putA 4 9, o_ald 0, o_c (.int (480 : Int32))] 62 := .cons (v_putA (k := 9) k_Wk (by decide) rfl (Or.inr ⟨rfl, rfl, rfl, w_210⟩) d_Wk_init_55) (.cons (v_aload_n (i := 0) d_Wk_init_58 rfl) (.cons (v_sipush (v := (480 : Int32)) d_Wk_init_59 (by decide +kernel)) .nil))
theorem d_Wk_init_62 : decode y_Wk_init.2.1 62 = .ok (.newarray .long, 2) := by decide +kernel
theorem d_Wk_init_68 : decode y_Wk_init.2.1 68 = .ok (.sipush 3840, 3) := by decide +kernel
theorem d_Wk_init_67 : decode y_Wk_init.2.1 67 = .ok (.aload_n 0, 1) := by decide +kernel
theorem d_Wk_init_64 : decode y_Wk_init.2.1 64 = .ok (.putfield 31, 3) := by decide +kernel
theorem s_Wk_init_64 : aw_VS y_Wk_init 64 [o_putA 4 12, o_ald 0, o_c (.int (3840 : Int32))] 71 := .cons (v_putA (k := 12) k_Wk (by decide) rfl (Or.inr ⟨rfl, rfl, rfl, w_213⟩) d_Wk_init_64) (.cons (v_aload_n (i := 0) d_Wk_init_67 rfl) (.cons (v_sipush (v := (3840 : Int32)) d_Wk_init_68 (by decide +kernel)) .nil))
theorem d_Wk_init_71 : decode y_Wk_init.2.1 71 = .ok (.newarray .int, 2) := by decide +kernel
theorem d_Wk_init_77 : decode y_Wk_init.2.1 77 = .ok (.bipush 60, 2) := by decide +kernel
theorem d_Wk_init_76 : decode y_Wk_init.2.1 76 = .ok (.aload_n 0, 1) := by decide +kernel
theorem d_Wk_init_73 : decode y_Wk_init.2.1 73 = .ok (.putfield 34, 3) := by decide +kernel
theorem s_Wk_init_73 : aw_VS y_Wk_init 73 [o_putA 4 13, o_ald 0, o_c (.int (60 : Int32))] 79 := .cons (v_putA (k := 13) k_Wk (by decide) rfl (Or.inr ⟨rfl, rfl, rfl, w_214⟩) d_Wk_init_73) (.cons (v_aload_n (i := 0) d_Wk_init_76 rfl) (.cons (v_bipush (v := (60 : Int32)) d_Wk_init_77 (by decide +kernel)) .nil))
theorem d_Wk_init_79 : decode y_Wk_init.2.1 79 = .ok (.newarray .int, 2) := by decide +kernel
theorem d_Wk_init_85 : decode y_Wk_init.2.1 85 = .ok (.bipush 60, 2) := by decide +kernel
theorem d_Wk_init_84 : decode y_Wk_init.2.1 84 = .ok (.aload_n 0, 1) := by decide +kernel
theorem d_Wk_init_81 : decode y_Wk_init.2.1 81 = .ok (.putfield 37, 3) := by decide +kernel
theorem s_Wk_init_81 : aw_VS y_Wk_init 81 [o_putA 4 14, o_ald 0, o_c (.int (60 : Int32))] 87 := .cons (v_putA (k := 14) k_Wk (by decide) rfl (Or.inr ⟨rfl, rfl, rfl, w_215⟩) d_Wk_init_81) (.cons (v_aload_n (i := 0) d_Wk_init_84 rfl) (.cons (v_bipush (v := (60 : Int32)) d_Wk_init_85 (by decide +kernel)) .nil))
theorem d_Wk_init_87 : decode y_Wk_init.2.1 87 = .ok (.newarray .int, 2) := by decide +kernel
theorem d_Wk_init_93 : decode y_Wk_init.2.1 93 = .ok (.sipush 4096, 3) := by decide +kernel
theorem d_Wk_init_92 : decode y_Wk_init.2.1 92 = .ok (.aload_n 0, 1) := by decide +kernel
theorem d_Wk_init_89 : decode y_Wk_init.2.1 89 = .ok (.putfield 40, 3) := by decide +kernel
theorem s_Wk_init_89 : aw_VS y_Wk_init 89 [o_putA 4 15, o_ald 0, o_c (.int (4096 : Int32))] 96 := .cons (v_putA (k := 15) k_Wk (by decide) rfl (Or.inr ⟨rfl, rfl, rfl, w_216⟩) d_Wk_init_89) (.cons (v_aload_n (i := 0) d_Wk_init_92 rfl) (.cons (v_sipush (v := (4096 : Int32)) d_Wk_init_93 (by decide +kernel)) .nil))
theorem d_Wk_init_96 : decode y_Wk_init.2.1 96 = .ok (.newarray .int, 2) := by decide +kernel
theorem d_Wk_init_98 : decode y_Wk_init.2.1 98 = .ok (.putfield 43, 3) := by decide +kernel
theorem s_Wk_init_98 : aw_VS y_Wk_init 98 [o_putA 4 16] 101 := .cons (v_putA (k := 16) k_Wk (by decide) rfl (Or.inr ⟨rfl, rfl, rfl, w_217⟩) d_Wk_init_98) .nil
theorem d_Wk_init_101 : decode y_Wk_init.2.1 101 = .ok (.return_, 1) := by decide +kernel
theorem d_AW_init_46 : decode y_AW_init.2.1 46 = .ok (.invokespecial 34, 3) := by decide +kernel
theorem d_AW_init_52 : decode y_AW_init.2.1 52 = .ok (.aload_n 0, 1) := by decide +kernel
theorem d_AW_init_49 : decode y_AW_init.2.1 49 = .ok (.putfield 35, 3) := by decide +kernel
theorem s_AW_init_49 : aw_VS y_AW_init 49 [o_putA 0 3, o_ald 0] 53 := .cons (v_putA (k := 3) k_AW (by decide) rfl (Or.inr ⟨rfl, rfl, rfl, w_398⟩) d_AW_init_49) (.cons (v_aload_n (i := 0) d_AW_init_52 rfl) .nil)
theorem d_AW_init_53 : decode y_AW_init.2.1 53 = .ok (.new 39, 3) := by decide +kernel
theorem d_AW_init_62 : decode y_AW_init.2.1 62 = .ok (.getfield 28, 3) := by decide +kernel
theorem d_AW_init_61 : decode y_AW_init.2.1 61 = .ok (.aload_n 0, 1) := by decide +kernel
theorem d_AW_init_58 : decode y_AW_init.2.1 58 = .ok (.getfield 12, 3) := by decide +kernel
theorem d_AW_init_57 : decode y_AW_init.2.1 57 = .ok (.aload_n 0, 1) := by decide +kernel
theorem d_AW_init_56 : decode y_AW_init.2.1 56 = .ok (.dup, 1) := by decide +kernel
theorem s_AW_init_56 : aw_VS y_AW_init 56 [o_dup, o_ald 0, o_getA 0 0, o_ald 0, o_getA 0 2] 65 := .cons (v_dup d_AW_init_56) (.cons (v_aload_n (i := 0) d_AW_init_57 rfl) (.cons (v_getA (k := 0) k_AW (by decide) rfl (Or.inl w_395) d_AW_init_58) (.cons (v_aload_n (i := 0) d_AW_init_61 rfl) (.cons (v_getA (k := 2) k_AW (by decide) rfl (Or.inl w_397) d_AW_init_62) .nil))))
theorem d_Pf_init_0 : decode y_Pf_init.2.1 0 = .ok (.aload_n 0, 1) := by decide +kernel
theorem s_Pf_init_0 : aw_VS y_Pf_init 0 [o_ald 0] 1 := .cons (v_aload_n (i := 0) d_Pf_init_0 rfl) .nil
theorem d_Pf_init_1 : decode y_Pf_init.2.1 1 = .ok (.invokespecial 3, 3) := by decide +kernel
theorem d_Pf_init_5 : decode y_Pf_init.2.1 5 = .ok (.sipush 6561, 3) := by decide +kernel
theorem d_Pf_init_4 : decode y_Pf_init.2.1 4 = .ok (.aload_n 0, 1) := by decide +kernel
theorem s_Pf_init_4 : aw_VS y_Pf_init 4 [o_ald 0, o_c (.int (6561 : Int32))] 8 := .cons (v_aload_n (i := 0) d_Pf_init_4 rfl) (.cons (v_sipush (v := (6561 : Int32)) d_Pf_init_5 (by decide +kernel)) .nil)
theorem d_Pf_init_8 : decode y_Pf_init.2.1 8 = .ok (.newarray .int, 2) := by decide +kernel
theorem d_Pf_init_14 : decode y_Pf_init.2.1 14 = .ok (.sipush 6561, 3) := by decide +kernel
theorem d_Pf_init_13 : decode y_Pf_init.2.1 13 = .ok (.aload_n 0, 1) := by decide +kernel
theorem d_Pf_init_10 : decode y_Pf_init.2.1 10 = .ok (.putfield 11, 3) := by decide +kernel
theorem s_Pf_init_10 : aw_VS y_Pf_init 10 [o_putA 5 2, o_ald 0, o_c (.int (6561 : Int32))] 17 := .cons (v_putA (k := 2) k_Pf (by decide) rfl (Or.inr ⟨rfl, rfl, rfl, w_261⟩) d_Pf_init_10) (.cons (v_aload_n (i := 0) d_Pf_init_13 rfl) (.cons (v_sipush (v := (6561 : Int32)) d_Pf_init_14 (by decide +kernel)) .nil))
theorem d_Pf_init_17 : decode y_Pf_init.2.1 17 = .ok (.newarray .int, 2) := by decide +kernel
theorem d_Pf_init_23 : decode y_Pf_init.2.1 23 = .ok (.sipush 6561, 3) := by decide +kernel
theorem d_Pf_init_22 : decode y_Pf_init.2.1 22 = .ok (.aload_n 0, 1) := by decide +kernel
theorem d_Pf_init_19 : decode y_Pf_init.2.1 19 = .ok (.putfield 15, 3) := by decide +kernel
theorem s_Pf_init_19 : aw_VS y_Pf_init 19 [o_putA 5 3, o_ald 0, o_c (.int (6561 : Int32))] 26 := .cons (v_putA (k := 3) k_Pf (by decide) rfl (Or.inr ⟨rfl, rfl, rfl, w_262⟩) d_Pf_init_19) (.cons (v_aload_n (i := 0) d_Pf_init_22 rfl) (.cons (v_sipush (v := (6561 : Int32)) d_Pf_init_23 (by decide +kernel)) .nil))
theorem d_Pf_init_26 : decode y_Pf_init.2.1 26 = .ok (.newarray .int, 2) := by decide +kernel
theorem d_Pf_init_32 : decode y_Pf_init.2.1 32 = .ok (.bipush 16, 2) := by decide +kernel
theorem d_Pf_init_31 : decode y_Pf_init.2.1 31 = .ok (.aload_n 0, 1) := by decide +kernel
theorem d_Pf_init_28 : decode y_Pf_init.2.1 28 = .ok (.putfield 18, 3) := by decide +kernel
theorem s_Pf_init_28 : aw_VS y_Pf_init 28 [o_putA 5 4, o_ald 0, o_c (.int (16 : Int32))] 34 := .cons (v_putA (k := 4) k_Pf (by decide) rfl (Or.inr ⟨rfl, rfl, rfl, w_263⟩) d_Pf_init_28) (.cons (v_aload_n (i := 0) d_Pf_init_31 rfl) (.cons (v_bipush (v := (16 : Int32)) d_Pf_init_32 (by decide +kernel)) .nil))
theorem d_Pf_init_34 : decode y_Pf_init.2.1 34 = .ok (.newarray .int, 2) := by decide +kernel
theorem d_Pf_init_40 : decode y_Pf_init.2.1 40 = .ok (.sipush 511, 3) := by decide +kernel
theorem d_Pf_init_39 : decode y_Pf_init.2.1 39 = .ok (.aload_n 0, 1) := by decide +kernel
theorem d_Pf_init_36 : decode y_Pf_init.2.1 36 = .ok (.putfield 21, 3) := by decide +kernel
theorem s_Pf_init_36 : aw_VS y_Pf_init 36 [o_putA 5 5, o_ald 0, o_c (.int (511 : Int32))] 43 := .cons (v_putA (k := 5) k_Pf (by decide) rfl (Or.inr ⟨rfl, rfl, rfl, w_264⟩) d_Pf_init_36) (.cons (v_aload_n (i := 0) d_Pf_init_39 rfl) (.cons (v_sipush (v := (511 : Int32)) d_Pf_init_40 (by decide +kernel)) .nil))
theorem d_Pf_init_43 : decode y_Pf_init.2.1 43 = .ok (.newarray .int, 2) := by decide +kernel
theorem d_Pf_init_55 : decode y_Pf_init.2.1 55 = .ok (.putfield 31, 3) := by decide +kernel
theorem d_Pf_init_54 : decode y_Pf_init.2.1 54 = .ok (.aload_n 2, 1) := by decide +kernel
theorem d_Pf_init_53 : decode y_Pf_init.2.1 53 = .ok (.aload_n 0, 1) := by decide +kernel
theorem d_Pf_init_50 : decode y_Pf_init.2.1 50 = .ok (.putfield 27, 3) := by decide +kernel
theorem d_Pf_init_49 : decode y_Pf_init.2.1 49 = .ok (.aload_n 1, 1) := by decide +kernel
theorem d_Pf_init_48 : decode y_Pf_init.2.1 48 = .ok (.aload_n 0, 1) := by decide +kernel
theorem d_Pf_init_45 : decode y_Pf_init.2.1 45 = .ok (.putfield 24, 3) := by decide +kernel
theorem s_Pf_init_45 : aw_VS y_Pf_init 45 [o_putA 5 7, o_ald 0, o_ald 1, o_putA 5 0, o_ald 0, o_ald 2, o_putA 5 1] 58 := .cons (v_putA (k := 7) k_Pf (by decide) rfl (Or.inr ⟨rfl, rfl, rfl, w_265⟩) d_Pf_init_45) (.cons (v_aload_n (i := 0) d_Pf_init_48 rfl) (.cons (v_aload_n (i := 1) d_Pf_init_49 rfl) (.cons (v_putA (k := 0) k_Pf (by decide) rfl (Or.inr ⟨rfl, rfl, rfl, w_259⟩) d_Pf_init_50) (.cons (v_aload_n (i := 0) d_Pf_init_53 rfl) (.cons (v_aload_n (i := 2) d_Pf_init_54 rfl) (.cons (v_putA (k := 1) k_Pf (by decide) rfl (Or.inr ⟨rfl, rfl, rfl, w_260⟩) d_Pf_init_55) .nil))))))
theorem d_Pf_init_58 : decode y_Pf_init.2.1 58 = .ok (.return_, 1) := by decide +kernel
theorem d_AW_init_65 : decode y_AW_init.2.1 65 = .ok (.invokespecial 41, 3) := by decide +kernel
theorem d_AW_init_72 : decode y_AW_init.2.1 72 = .ok (.iconst 4, 1) := by decide +kernel
theorem d_AW_init_71 : decode y_AW_init.2.1 71 = .ok (.aload_n 0, 1) := by decide +kernel
theorem d_AW_init_68 : decode y_AW_init.2.1 68 = .ok (.putfield 44, 3) := by decide +kernel
theorem s_AW_init_68 : aw_VS y_AW_init 68 [o_putA 0 4, o_ald 0, o_c (.int (4 : Int32))] 73 := .cons (v_putA (k := 4) k_AW (by decide) rfl (Or.inr ⟨rfl, rfl, rfl, w_399⟩) d_AW_init_68) (.cons (v_aload_n (i := 0) d_AW_init_71 rfl) (.cons (v_iconst (v := (4 : Int32)) d_AW_init_72 (by decide +kernel)) .nil))
theorem d_AW_init_73 : decode y_AW_init.2.1 73 = .ok (.anewarray 48, 3) := by decide +kernel
theorem d_AW_init_77 : decode y_AW_init.2.1 77 = .ok (.iconst 0, 1) := by decide +kernel
theorem d_AW_init_76 : decode y_AW_init.2.1 76 = .ok (.dup, 1) := by decide +kernel
theorem s_AW_init_76 : aw_VS y_AW_init 76 [o_dup, o_c (.int (0 : Int32))] 78 := .cons (v_dup d_AW_init_76) (.cons (v_iconst (v := (0 : Int32)) d_AW_init_77 (by decide +kernel)) .nil)
theorem d_AW_init_78 : decode y_AW_init.2.1 78 = .ok (.new 48, 3) := by decide +kernel
theorem d_AW_init_81 : decode y_AW_init.2.1 81 = .ok (.dup, 1) := by decide +kernel
theorem s_AW_init_81 : aw_VS y_AW_init 81 [o_dup] 82 := .cons (v_dup d_AW_init_81) .nil
theorem d_Cd_init_0 : decode y_Cd_init.2.1 0 = .ok (.aload_n 0, 1) := by decide +kernel
theorem s_Cd_init_0 : aw_VS y_Cd_init 0 [o_ald 0] 1 := .cons (v_aload_n (i := 0) d_Cd_init_0 rfl) .nil
theorem d_Cd_init_1 : decode y_Cd_init.2.1 1 = .ok (.invokespecial 3, 3) := by decide +kernel
theorem d_Cd_init_5 : decode y_Cd_init.2.1 5 = .ok (.sipush 600, 3) := by decide +kernel
theorem d_Cd_init_4 : decode y_Cd_init.2.1 4 = .ok (.aload_n 0, 1) := by decide +kernel
theorem s_Cd_init_4 : aw_VS y_Cd_init 4 [o_ald 0, o_c (.int (600 : Int32))] 8 := .cons (v_aload_n (i := 0) d_Cd_init_4 rfl) (.cons (v_sipush (v := (600 : Int32)) d_Cd_init_5 (by decide +kernel)) .nil)
theorem d_Cd_init_8 : decode y_Cd_init.2.1 8 = .ok (.newarray .int, 2) := by decide +kernel
theorem d_Cd_init_14 : decode y_Cd_init.2.1 14 = .ok (.sipush 600, 3) := by decide +kernel
theorem d_Cd_init_13 : decode y_Cd_init.2.1 13 = .ok (.aload_n 0, 1) := by decide +kernel
theorem d_Cd_init_10 : decode y_Cd_init.2.1 10 = .ok (.putfield 11, 3) := by decide +kernel
theorem s_Cd_init_10 : aw_VS y_Cd_init 10 [o_putA 6 0, o_ald 0, o_c (.int (600 : Int32))] 17 := .cons (v_putA (k := 0) k_Cd (by decide) rfl (Or.inr ⟨rfl, rfl, rfl, w_292⟩) d_Cd_init_10) (.cons (v_aload_n (i := 0) d_Cd_init_13 rfl) (.cons (v_sipush (v := (600 : Int32)) d_Cd_init_14 (by decide +kernel)) .nil))
theorem d_Cd_init_17 : decode y_Cd_init.2.1 17 = .ok (.newarray .int, 2) := by decide +kernel
theorem d_Cd_init_23 : decode y_Cd_init.2.1 23 = .ok (.bipush 20, 2) := by decide +kernel
theorem d_Cd_init_22 : decode y_Cd_init.2.1 22 = .ok (.aload_n 0, 1) := by decide +kernel
theorem d_Cd_init_19 : decode y_Cd_init.2.1 19 = .ok (.putfield 15, 3) := by decide +kernel
theorem s_Cd_init_19 : aw_VS y_Cd_init 19 [o_putA 6 1, o_ald 0, o_c (.int (20 : Int32))] 25 := .cons (v_putA (k := 1) k_Cd (by decide) rfl (Or.inr ⟨rfl, rfl, rfl, w_293⟩) d_Cd_init_19) (.cons (v_aload_n (i := 0) d_Cd_init_22 rfl) (.cons (v_bipush (v := (20 : Int32)) d_Cd_init_23 (by decide +kernel)) .nil))
theorem d_Cd_init_25 : decode y_Cd_init.2.1 25 = .ok (.newarray .int, 2) := by decide +kernel
theorem d_Cd_init_31 : decode y_Cd_init.2.1 31 = .ok (.bipush 20, 2) := by decide +kernel
theorem d_Cd_init_30 : decode y_Cd_init.2.1 30 = .ok (.aload_n 0, 1) := by decide +kernel
theorem d_Cd_init_27 : decode y_Cd_init.2.1 27 = .ok (.putfield 18, 3) := by decide +kernel
theorem s_Cd_init_27 : aw_VS y_Cd_init 27 [o_putA 6 2, o_ald 0, o_c (.int (20 : Int32))] 33 := .cons (v_putA (k := 2) k_Cd (by decide) rfl (Or.inr ⟨rfl, rfl, rfl, w_294⟩) d_Cd_init_27) (.cons (v_aload_n (i := 0) d_Cd_init_30 rfl) (.cons (v_bipush (v := (20 : Int32)) d_Cd_init_31 (by decide +kernel)) .nil))
theorem d_Cd_init_33 : decode y_Cd_init.2.1 33 = .ok (.newarray .int, 2) := by decide +kernel
theorem d_Cd_init_35 : decode y_Cd_init.2.1 35 = .ok (.putfield 21, 3) := by decide +kernel
theorem s_Cd_init_35 : aw_VS y_Cd_init 35 [o_putA 6 3] 38 := .cons (v_putA (k := 3) k_Cd (by decide) rfl (Or.inr ⟨rfl, rfl, rfl, w_295⟩) d_Cd_init_35) .nil
theorem d_Cd_init_38 : decode y_Cd_init.2.1 38 = .ok (.return_, 1) := by decide +kernel
theorem d_AW_init_82 : decode y_AW_init.2.1 82 = .ok (.invokespecial 50, 3) := by decide +kernel
theorem d_AW_init_85 : decode y_AW_init.2.1 85 = .ok (.aastore, 1) := by decide +kernel
theorem d_AW_init_87 : decode y_AW_init.2.1 87 = .ok (.iconst 1, 1) := by decide +kernel
theorem d_AW_init_86 : decode y_AW_init.2.1 86 = .ok (.dup, 1) := by decide +kernel
theorem s_AW_init_86 : aw_VS y_AW_init 86 [o_dup, o_c (.int (1 : Int32))] 88 := .cons (v_dup d_AW_init_86) (.cons (v_iconst (v := (1 : Int32)) d_AW_init_87 (by decide +kernel)) .nil)
theorem d_AW_init_88 : decode y_AW_init.2.1 88 = .ok (.new 48, 3) := by decide +kernel
theorem d_AW_init_91 : decode y_AW_init.2.1 91 = .ok (.dup, 1) := by decide +kernel
theorem s_AW_init_91 : aw_VS y_AW_init 91 [o_dup] 92 := .cons (v_dup d_AW_init_91) .nil
theorem d_AW_init_92 : decode y_AW_init.2.1 92 = .ok (.invokespecial 50, 3) := by decide +kernel
theorem d_AW_init_95 : decode y_AW_init.2.1 95 = .ok (.aastore, 1) := by decide +kernel
theorem d_AW_init_97 : decode y_AW_init.2.1 97 = .ok (.iconst 2, 1) := by decide +kernel
theorem d_AW_init_96 : decode y_AW_init.2.1 96 = .ok (.dup, 1) := by decide +kernel
theorem s_AW_init_96 : aw_VS y_AW_init 96 [o_dup, o_c (.int (2 : Int32))] 98 := .cons (v_dup d_AW_init_96) (.cons (v_iconst (v := (2 : Int32)) d_AW_init_97 (by decide +kernel)) .nil)
theorem d_AW_init_98 : decode y_AW_init.2.1 98 = .ok (.new 48, 3) := by decide +kernel
theorem d_AW_init_101 : decode y_AW_init.2.1 101 = .ok (.dup, 1) := by decide +kernel
theorem s_AW_init_101 : aw_VS y_AW_init 101 [o_dup] 102 := .cons (v_dup d_AW_init_101) .nil
theorem d_AW_init_102 : decode y_AW_init.2.1 102 = .ok (.invokespecial 50, 3) := by decide +kernel
theorem d_AW_init_105 : decode y_AW_init.2.1 105 = .ok (.aastore, 1) := by decide +kernel
theorem d_AW_init_107 : decode y_AW_init.2.1 107 = .ok (.iconst 3, 1) := by decide +kernel
theorem d_AW_init_106 : decode y_AW_init.2.1 106 = .ok (.dup, 1) := by decide +kernel
theorem s_AW_init_106 : aw_VS y_AW_init 106 [o_dup, o_c (.int (3 : Int32))] 108 := .cons (v_dup d_AW_init_106) (.cons (v_iconst (v := (3 : Int32)) d_AW_init_107 (by decide +kernel)) .nil)
theorem d_AW_init_108 : decode y_AW_init.2.1 108 = .ok (.new 48, 3) := by decide +kernel
theorem d_AW_init_111 : decode y_AW_init.2.1 111 = .ok (.dup, 1) := by decide +kernel
theorem s_AW_init_111 : aw_VS y_AW_init 111 [o_dup] 112 := .cons (v_dup d_AW_init_111) .nil
theorem d_AW_init_112 : decode y_AW_init.2.1 112 = .ok (.invokespecial 50, 3) := by decide +kernel
theorem d_AW_init_115 : decode y_AW_init.2.1 115 = .ok (.aastore, 1) := by decide +kernel
theorem d_AW_init_119 : decode y_AW_init.2.1 119 = .ok (.aload_n 0, 1) := by decide +kernel
theorem d_AW_init_116 : decode y_AW_init.2.1 116 = .ok (.putfield 51, 3) := by decide +kernel
theorem s_AW_init_116 : aw_VS y_AW_init 116 [o_putA 0 5, o_ald 0] 120 := .cons (v_putA (k := 5) k_AW (by decide) rfl (Or.inr ⟨rfl, rfl, rfl, w_400⟩) d_AW_init_116) (.cons (v_aload_n (i := 0) d_AW_init_119 rfl) .nil)
theorem d_AW_init_120 : decode y_AW_init.2.1 120 = .ok (.new 48, 3) := by decide +kernel
theorem d_AW_init_123 : decode y_AW_init.2.1 123 = .ok (.dup, 1) := by decide +kernel
theorem s_AW_init_123 : aw_VS y_AW_init 123 [o_dup] 124 := .cons (v_dup d_AW_init_123) .nil
theorem d_AW_init_124 : decode y_AW_init.2.1 124 = .ok (.invokespecial 50, 3) := by decide +kernel
theorem d_AW_init_130 : decode y_AW_init.2.1 130 = .ok (.aload_n 0, 1) := by decide +kernel
theorem d_AW_init_127 : decode y_AW_init.2.1 127 = .ok (.putfield 55, 3) := by decide +kernel
theorem s_AW_init_127 : aw_VS y_AW_init 127 [o_putA 0 6, o_ald 0] 131 := .cons (v_putA (k := 6) k_AW (by decide) rfl (Or.inl ⟨rfl, Or.inl w_401⟩) d_AW_init_127) (.cons (v_aload_n (i := 0) d_AW_init_130 rfl) .nil)
theorem d_AW_init_131 : decode y_AW_init.2.1 131 = .ok (.new 48, 3) := by decide +kernel
theorem d_AW_init_134 : decode y_AW_init.2.1 134 = .ok (.dup, 1) := by decide +kernel
theorem s_AW_init_134 : aw_VS y_AW_init 134 [o_dup] 135 := .cons (v_dup d_AW_init_134) .nil
theorem d_AW_init_135 : decode y_AW_init.2.1 135 = .ok (.invokespecial 50, 3) := by decide +kernel
theorem d_AW_init_141 : decode y_AW_init.2.1 141 = .ok (.aload_n 0, 1) := by decide +kernel
theorem d_AW_init_138 : decode y_AW_init.2.1 138 = .ok (.putfield 59, 3) := by decide +kernel
theorem s_AW_init_138 : aw_VS y_AW_init 138 [o_putA 0 7, o_ald 0] 142 := .cons (v_putA (k := 7) k_AW (by decide) rfl (Or.inl ⟨rfl, Or.inl w_402⟩) d_AW_init_138) (.cons (v_aload_n (i := 0) d_AW_init_141 rfl) .nil)
theorem d_AW_init_142 : decode y_AW_init.2.1 142 = .ok (.new 62, 3) := by decide +kernel
theorem d_AW_init_151 : decode y_AW_init.2.1 151 = .ok (.getfield 59, 3) := by decide +kernel
theorem d_AW_init_150 : decode y_AW_init.2.1 150 = .ok (.aload_n 0, 1) := by decide +kernel
theorem d_AW_init_147 : decode y_AW_init.2.1 147 = .ok (.getfield 19, 3) := by decide +kernel
theorem d_AW_init_146 : decode y_AW_init.2.1 146 = .ok (.aload_n 0, 1) := by decide +kernel
theorem d_AW_init_145 : decode y_AW_init.2.1 145 = .ok (.dup, 1) := by decide +kernel
theorem s_AW_init_145 : aw_VS y_AW_init 145 [o_dup, o_ald 0, o_getA 0 1, o_ald 0, o_getA 0 7] 154 := .cons (v_dup d_AW_init_145) (.cons (v_aload_n (i := 0) d_AW_init_146 rfl) (.cons (v_getA (k := 1) k_AW (by decide) rfl (Or.inl w_396) d_AW_init_147) (.cons (v_aload_n (i := 0) d_AW_init_150 rfl) (.cons (v_getA (k := 7) k_AW (by decide) rfl (Or.inl w_402) d_AW_init_151) .nil))))
theorem d_Ps_init_0 : decode y_Ps_init.2.1 0 = .ok (.aload_n 0, 1) := by decide +kernel
theorem s_Ps_init_0 : aw_VS y_Ps_init 0 [o_ald 0] 1 := .cons (v_aload_n (i := 0) d_Ps_init_0 rfl) .nil
theorem d_Ps_init_1 : decode y_Ps_init.2.1 1 = .ok (.invokespecial 3, 3) := by decide +kernel
theorem d_Ps_init_5 : decode y_Ps_init.2.1 5 = .ok (.iconst 4, 1) := by decide +kernel
theorem d_Ps_init_4 : decode y_Ps_init.2.1 4 = .ok (.aload_n 0, 1) := by decide +kernel
theorem s_Ps_init_4 : aw_VS y_Ps_init 4 [o_ald 0, o_c (.int (4 : Int32))] 6 := .cons (v_aload_n (i := 0) d_Ps_init_4 rfl) (.cons (v_iconst (v := (4 : Int32)) d_Ps_init_5 (by decide +kernel)) .nil)
theorem d_Ps_init_6 : decode y_Ps_init.2.1 6 = .ok (.newarray .int, 2) := by decide +kernel
theorem d_Ps_init_11 : decode y_Ps_init.2.1 11 = .ok (.aload_n 0, 1) := by decide +kernel
theorem d_Ps_init_8 : decode y_Ps_init.2.1 8 = .ok (.putfield 9, 3) := by decide +kernel
theorem s_Ps_init_8 : aw_VS y_Ps_init 8 [o_putA 7 1, o_ald 0] 12 := .cons (v_putA (k := 1) k_Ps (by decide) rfl (Or.inr ⟨rfl, rfl, rfl, w_378⟩) d_Ps_init_8) (.cons (v_aload_n (i := 0) d_Ps_init_11 rfl) .nil)
theorem d_Ps_init_12 : decode y_Ps_init.2.1 12 = .ok (.new 15, 3) := by decide +kernel
theorem d_Ps_init_16 : decode y_Ps_init.2.1 16 = .ok (.aload_n 1, 1) := by decide +kernel
theorem d_Ps_init_15 : decode y_Ps_init.2.1 15 = .ok (.dup, 1) := by decide +kernel
theorem s_Ps_init_15 : aw_VS y_Ps_init 15 [o_dup, o_ald 1] 17 := .cons (v_dup d_Ps_init_15) (.cons (v_aload_n (i := 1) d_Ps_init_16 rfl) .nil)
theorem d_Tk_init_0 : decode y_Tk_init.2.1 0 = .ok (.aload_n 0, 1) := by decide +kernel
theorem s_Tk_init_0 : aw_VS y_Tk_init 0 [o_ald 0] 1 := .cons (v_aload_n (i := 0) d_Tk_init_0 rfl) .nil
theorem d_Tk_init_1 : decode y_Tk_init.2.1 1 = .ok (.invokespecial 3, 3) := by decide +kernel
theorem d_Tk_init_5 : decode y_Tk_init.2.1 5 = .ok (.sipush 501, 3) := by decide +kernel
theorem d_Tk_init_4 : decode y_Tk_init.2.1 4 = .ok (.aload_n 0, 1) := by decide +kernel
theorem s_Tk_init_4 : aw_VS y_Tk_init 4 [o_ald 0, o_c (.int (501 : Int32))] 8 := .cons (v_aload_n (i := 0) d_Tk_init_4 rfl) (.cons (v_sipush (v := (501 : Int32)) d_Tk_init_5 (by decide +kernel)) .nil)
theorem d_Tk_init_8 : decode y_Tk_init.2.1 8 = .ok (.newarray .int, 2) := by decide +kernel
theorem d_Tk_init_14 : decode y_Tk_init.2.1 14 = .ok (.sipush 501, 3) := by decide +kernel
theorem d_Tk_init_13 : decode y_Tk_init.2.1 13 = .ok (.aload_n 0, 1) := by decide +kernel
theorem d_Tk_init_10 : decode y_Tk_init.2.1 10 = .ok (.putfield 9, 3) := by decide +kernel
theorem s_Tk_init_10 : aw_VS y_Tk_init 10 [o_putA 8 1, o_ald 0, o_c (.int (501 : Int32))] 17 := .cons (v_putA (k := 1) k_Tk (by decide) rfl (Or.inr ⟨rfl, rfl, rfl, w_347⟩) d_Tk_init_10) (.cons (v_aload_n (i := 0) d_Tk_init_13 rfl) (.cons (v_sipush (v := (501 : Int32)) d_Tk_init_14 (by decide +kernel)) .nil))
theorem d_Tk_init_17 : decode y_Tk_init.2.1 17 = .ok (.newarray .int, 2) := by decide +kernel
theorem d_Tk_init_23 : decode y_Tk_init.2.1 23 = .ok (.sipush 501, 3) := by decide +kernel
theorem d_Tk_init_22 : decode y_Tk_init.2.1 22 = .ok (.aload_n 0, 1) := by decide +kernel
theorem d_Tk_init_19 : decode y_Tk_init.2.1 19 = .ok (.putfield 15, 3) := by decide +kernel
theorem s_Tk_init_19 : aw_VS y_Tk_init 19 [o_putA 8 2, o_ald 0, o_c (.int (501 : Int32))] 26 := .cons (v_putA (k := 2) k_Tk (by decide) rfl (Or.inr ⟨rfl, rfl, rfl, w_348⟩) d_Tk_init_19) (.cons (v_aload_n (i := 0) d_Tk_init_22 rfl) (.cons (v_sipush (v := (501 : Int32)) d_Tk_init_23 (by decide +kernel)) .nil))
theorem d_Tk_init_26 : decode y_Tk_init.2.1 26 = .ok (.newarray .int, 2) := by decide +kernel
theorem d_Tk_init_33 : decode y_Tk_init.2.1 33 = .ok (.putfield 21, 3) := by decide +kernel
theorem d_Tk_init_32 : decode y_Tk_init.2.1 32 = .ok (.aload_n 1, 1) := by decide +kernel
theorem d_Tk_init_31 : decode y_Tk_init.2.1 31 = .ok (.aload_n 0, 1) := by decide +kernel
theorem d_Tk_init_28 : decode y_Tk_init.2.1 28 = .ok (.putfield 18, 3) := by decide +kernel
theorem s_Tk_init_28 : aw_VS y_Tk_init 28 [o_putA 8 3, o_ald 0, o_ald 1, o_putA 8 0] 36 := .cons (v_putA (k := 3) k_Tk (by decide) rfl (Or.inr ⟨rfl, rfl, rfl, w_349⟩) d_Tk_init_28) (.cons (v_aload_n (i := 0) d_Tk_init_31 rfl) (.cons (v_aload_n (i := 1) d_Tk_init_32 rfl) (.cons (v_putA (k := 0) k_Tk (by decide) rfl (Or.inr ⟨rfl, rfl, rfl, w_346⟩) d_Tk_init_33) .nil)))
theorem d_Tk_init_36 : decode y_Tk_init.2.1 36 = .ok (.return_, 1) := by decide +kernel
theorem d_Ps_init_17 : decode y_Ps_init.2.1 17 = .ok (.invokespecial 17, 3) := by decide +kernel
theorem d_Ps_init_25 : decode y_Ps_init.2.1 25 = .ok (.putfield 24, 3) := by decide +kernel
theorem d_Ps_init_24 : decode y_Ps_init.2.1 24 = .ok (.aload_n 2, 1) := by decide +kernel
theorem d_Ps_init_23 : decode y_Ps_init.2.1 23 = .ok (.aload_n 0, 1) := by decide +kernel
theorem d_Ps_init_20 : decode y_Ps_init.2.1 20 = .ok (.putfield 20, 3) := by decide +kernel
theorem s_Ps_init_20 : aw_VS y_Ps_init 20 [o_putA 7 0, o_ald 0, o_ald 2, o_putA 7 2] 28 := .cons (v_putA (k := 0) k_Ps (by decide) rfl (Or.inr ⟨rfl, rfl, rfl, w_377⟩) d_Ps_init_20) (.cons (v_aload_n (i := 0) d_Ps_init_23 rfl) (.cons (v_aload_n (i := 2) d_Ps_init_24 rfl) (.cons (v_putA (k := 2) k_Ps (by decide) rfl (Or.inl ⟨rfl, Or.inl w_379⟩) d_Ps_init_25) .nil)))
theorem d_Ps_init_28 : decode y_Ps_init.2.1 28 = .ok (.return_, 1) := by decide +kernel
theorem d_AW_init_154 : decode y_AW_init.2.1 154 = .ok (.invokespecial 64, 3) := by decide +kernel
theorem d_AW_init_161 : decode y_AW_init.2.1 161 = .ok (.iconst 2, 1) := by decide +kernel
theorem d_AW_init_160 : decode y_AW_init.2.1 160 = .ok (.aload_n 0, 1) := by decide +kernel
theorem d_AW_init_157 : decode y_AW_init.2.1 157 = .ok (.putfield 67, 3) := by decide +kernel
theorem s_AW_init_157 : aw_VS y_AW_init 157 [o_putA 0 8, o_ald 0, o_c (.int (2 : Int32))] 162 := .cons (v_putA (k := 8) k_AW (by decide) rfl (Or.inr ⟨rfl, rfl, rfl, w_403⟩) d_AW_init_157) (.cons (v_aload_n (i := 0) d_AW_init_160 rfl) (.cons (v_iconst (v := (2 : Int32)) d_AW_init_161 (by decide +kernel)) .nil))
theorem d_AW_init_162 : decode y_AW_init.2.1 162 = .ok (.newarray .int, 2) := by decide +kernel
theorem d_AW_init_173 : decode y_AW_init.2.1 173 = .ok (.bipush 28, 2) := by decide +kernel
theorem d_AW_init_172 : decode y_AW_init.2.1 172 = .ok (.aload_n 0, 1) := by decide +kernel
theorem d_AW_init_169 : decode y_AW_init.2.1 169 = .ok (.putfield 75, 3) := by decide +kernel
theorem d_AW_init_168 : decode y_AW_init.2.1 168 = .ok (.iconst (-1), 1) := by decide +kernel
theorem d_AW_init_167 : decode y_AW_init.2.1 167 = .ok (.aload_n 0, 1) := by decide +kernel
theorem d_AW_init_164 : decode y_AW_init.2.1 164 = .ok (.putfield 71, 3) := by decide +kernel
theorem s_AW_init_164 : aw_VS y_AW_init 164 [o_putA 0 10, o_ald 0, o_c (.int (-1 : Int32)), o_putI 0 12, o_ald 0, o_c (.int (28 : Int32))] 175 := .cons (v_putA (k := 10) k_AW (by decide) rfl (Or.inr ⟨rfl, rfl, rfl, w_405⟩) d_AW_init_164) (.cons (v_aload_n (i := 0) d_AW_init_167 rfl) (.cons (v_iconst (v := (-1 : Int32)) d_AW_init_168 (by decide +kernel)) (.cons (v_putI (k := 12) k_AW (by decide) rfl (Or.inl ⟨rfl, Or.inl w_406⟩) d_AW_init_169) (.cons (v_aload_n (i := 0) d_AW_init_172 rfl) (.cons (v_bipush (v := (28 : Int32)) d_AW_init_173 (by decide +kernel)) .nil)))))
theorem d_AW_init_175 : decode y_AW_init.2.1 175 = .ok (.newarray .int, 2) := by decide +kernel
theorem d_AW_init_186 : decode y_AW_init.2.1 186 = .ok (.bipush 17, 2) := by decide +kernel
theorem d_AW_init_185 : decode y_AW_init.2.1 185 = .ok (.aload_n 0, 1) := by decide +kernel
theorem d_AW_init_182 : decode y_AW_init.2.1 182 = .ok (.putfield 82, 3) := by decide +kernel
theorem d_AW_init_181 : decode y_AW_init.2.1 181 = .ok (.iconst (-1), 1) := by decide +kernel
theorem d_AW_init_180 : decode y_AW_init.2.1 180 = .ok (.aload_n 0, 1) := by decide +kernel
theorem d_AW_init_177 : decode y_AW_init.2.1 177 = .ok (.putfield 79, 3) := by decide +kernel
theorem s_AW_init_177 : aw_VS y_AW_init 177 [o_putA 0 13, o_ald 0, o_c (.int (-1 : Int32)), o_putI 0 15, o_ald 0, o_c (.int (17 : Int32))] 188 := .cons (v_putA (k := 13) k_AW (by decide) rfl (Or.inr ⟨rfl, rfl, rfl, w_407⟩) d_AW_init_177) (.cons (v_aload_n (i := 0) d_AW_init_180 rfl) (.cons (v_iconst (v := (-1 : Int32)) d_AW_init_181 (by decide +kernel)) (.cons (v_putI (k := 15) k_AW (by decide) rfl (Or.inl ⟨rfl, Or.inl w_408⟩) d_AW_init_182) (.cons (v_aload_n (i := 0) d_AW_init_185 rfl) (.cons (v_bipush (v := (17 : Int32)) d_AW_init_186 (by decide +kernel)) .nil)))))
theorem d_AW_init_188 : decode y_AW_init.2.1 188 = .ok (.newarray .int, 2) := by decide +kernel
theorem d_AW_init_190 : decode y_AW_init.2.1 190 = .ok (.putfield 85, 3) := by decide +kernel
theorem s_AW_init_190 : aw_VS y_AW_init 190 [o_putA 0 16] 193 := .cons (v_putA (k := 16) k_AW (by decide) rfl (Or.inr ⟨rfl, rfl, rfl, w_409⟩) d_AW_init_190) .nil
theorem d_AW_init_193 : decode y_AW_init.2.1 193 = .ok (.return_, 1) := by decide +kernel
theorem aw_exn {A : aw_H} {o : Nat} (h : Nat.ble (o + 1) A.2.2.2.1 = true) : aw_ex A o := Or.inr (Nat.le_of_ble_eq_true h)
theorem aw_ltn {o n : Nat} (h : Nat.ble (o + 1) n = true) : o < n := Nat.le_of_ble_eq_true h
set_option maxHeartbeats 4000000 in
set_option maxRecDepth 100000 in
theorem ci_1 {X : aw_X} {d : Nat} {Q : Option Value → aw_H → Prop} {I : Nat → Nat → Int32} {L : Nat → Nat → Int64} {R : Nat → Nat → Option Nat} (f0 : aw_F I L R 2) (hQ : aw_F (aw_u (aw_u (aw_u I 1 0 (3 : Int32)) 1 1 (1 : Int32)) 1 2 (0 : Int32)) L R 2 → Q none ((aw_u (aw_u (aw_u I 1 0 (3 : Int32)) 1 1 (1 : Int32)) 1 2 (0 : Int32)), L, R, 2, true)) : aw_C X (d + 1) 0 0 y_Sz_init [.ref 1] (I, L, R, 2, true) Q := by
  refine aw_C.of rfl (Nat.le_of_ble_eq_true rfl) ?_
  refine s_Sz_init_0.go [some (.ref 1)] [.ref 1] (I, L, R, 2, true) rfl ?_
  refine z_objInit (idx := 3) w_86 w_79 w_80 d_Sz_init_1 (Nat.le_of_ble_eq_true rfl) ?_
  refine s_Sz_init_4.go [some (.ref 1)] [] ((aw_u (aw_u (aw_u I 1 0 (3 : Int32)) 1 1 (1 : Int32)) 1 2 (0 : Int32)), L, R, 2, true) rfl ?_
  have f1 := f0.i (o := 1) (k := 0) (v := (3 : Int32)) (Nat.le_of_ble_eq_true rfl)
  have f2 := f1.i (o := 1) (k := 1) (v := (1 : Int32)) (Nat.le_of_ble_eq_true rfl)
  have f3 := f2.i (o := 1) (k := 2) (v := (0 : Int32)) (Nat.le_of_ble_eq_true rfl)
  exact z_vret d_Sz_init_19 rfl (hQ f3)

set_option maxHeartbeats 4000000 in
set_option maxRecDepth 100000 in
theorem ci_2 {X : aw_X} {d : Nat} {Q : Option Value → aw_H → Prop} {I : Nat → Nat → Int32} {L : Nat → Nat → Int64} {R : Nat → Nat → Option Nat} (f0 : aw_F I L R 3) (hQ : aw_F I L (aw_u R 2 0 (some 3)) 4 → Q none (I, L, (aw_u R 2 0 (some 3)), 4, true)) : aw_C X (d + 1) 1 540 y_Tp_init [.ref 2] (I, L, R, 3, true) Q := by
  refine aw_C.of rfl (Nat.le_of_ble_eq_true rfl) ?_
  refine s_Tp_init_0.go [some (.ref 2)] [.ref 2] (I, L, R, 3, true) rfl ?_
  refine z_objInit (idx := 3) w_104 w_79 w_80 d_Tp_init_1 (Nat.le_of_ble_eq_true rfl) ?_
  refine s_Tp_init_4.go [some (.ref 2)] [.int (540 : Int32), .ref 2] (I, L, R, 3, true) rfl ?_
  refine z_newI (N := 540) w_ac_int d_Tp_init_8 rfl (aw_ltn rfl) (by decide +kernel) (by decide +kernel) rfl f0 (Nat.le_of_ble_eq_true rfl) (Nat.le_of_ble_eq_true rfl) (fun f1 => ?_)
  refine s_Tp_init_10.go [some (.ref 2)] [] (I, L, (aw_u R 2 0 (some 3)), 4, true) rfl ?_
  have f2 := f1.r (o := 2) (k := 0) (v := some 3) (Nat.le_of_ble_eq_true rfl)
  exact z_vret d_Tp_init_13 rfl (hQ f2)

set_option maxHeartbeats 4000000 in
set_option maxRecDepth 100000 in
theorem ci_4 {X : aw_X} {d : Nat} {Q : Option Value → aw_H → Prop} {I : Nat → Nat → Int32} {L : Nat → Nat → Int64} {R : Nat → Nat → Option Nat} (f0 : aw_F I L R 5) (hQ : aw_F I L (aw_u (aw_u (aw_u (aw_u (aw_u (aw_u (aw_u R 4 1 (some 5)) 4 2 (some 6)) 4 3 (some 7)) 4 5 (some 8)) 4 17 (some 9)) 4 18 (some 10)) 4 0 (some 1)) 11 → Q none (I, L, (aw_u (aw_u (aw_u (aw_u (aw_u (aw_u (aw_u R 4 1 (some 5)) 4 2 (some 6)) 4 3 (some 7)) 4 5 (some 8)) 4 17 (some 9)) 4 18 (some 10)) 4 0 (some 1)), 11, true)) : aw_C X (d + 1) 6 1145 y_Mc_init [.ref 4, .ref 1] (I, L, R, 5, true) Q := by
  refine aw_C.of rfl (Nat.le_of_ble_eq_true rfl) ?_
  refine s_Mc_init_0.go [some (.ref 4), some (.ref 1)] [.ref 4] (I, L, R, 5, true) rfl ?_
  refine z_objInit (idx := 3) w_120 w_79 w_80 d_Mc_init_1 (Nat.le_of_ble_eq_true rfl) ?_
  refine s_Mc_init_4.go [some (.ref 4), some (.ref 1)] [.int (8 : Int32), .ref 4] (I, L, R, 5, true) rfl ?_
  refine z_newI (N := 8) w_ac_int d_Mc_init_7 rfl (aw_ltn rfl) (by decide +kernel) (by decide +kernel) rfl f0 (Nat.le_of_ble_eq_true rfl) (Nat.le_of_ble_eq_true rfl) (fun f1 => ?_)
  refine s_Mc_init_9.go [some (.ref 4), some (.ref 1)] [.int (8 : Int32), .ref 4] (I, L, (aw_u R 4 1 (some 5)), 6, true) rfl ?_
  have f2 := f1.r (o := 4) (k := 1) (v := some 5) (Nat.le_of_ble_eq_true rfl)
  refine z_newI (N := 8) w_ac_int d_Mc_init_15 rfl (aw_ltn rfl) (by decide +kernel) (by decide +kernel) rfl f2 (Nat.le_of_ble_eq_true rfl) (Nat.le_of_ble_eq_true rfl) (fun f3 => ?_)
  refine s_Mc_init_17.go [some (.ref 4), some (.ref 1)] [.int (64 : Int32), .ref 4] (I, L, (aw_u (aw_u R 4 1 (some 5)) 4 2 (some 6)), 7, true) rfl ?_
  have f4 := f3.r (o := 4) (k := 2) (v := some 6) (Nat.le_of_ble_eq_true rfl)
  refine z_newI (N := 64) w_ac_int d_Mc_init_23 rfl (aw_ltn rfl) (by decide +kernel) (by decide +kernel) rfl f4 (Nat.le_of_ble_eq_true rfl) (Nat.le_of_ble_eq_true rfl) (fun f5 => ?_)
  refine s_Mc_init_25.go [some (.ref 4), some (.ref 1)] [.int (4 : Int32), .ref 4] (I, L, (aw_u (aw_u (aw_u R 4 1 (some 5)) 4 2 (some 6)) 4 3 (some 7)), 8, true) rfl ?_
  have f6 := f5.r (o := 4) (k := 3) (v := some 7) (Nat.le_of_ble_eq_true rfl)
  refine z_newI (N := 4) w_ac_int d_Mc_init_30 rfl (aw_ltn rfl) (by decide +kernel) (by decide +kernel) rfl f6 (Nat.le_of_ble_eq_true rfl) (Nat.le_of_ble_eq_true rfl) (fun f7 => ?_)
  refine s_Mc_init_32.go [some (.ref 4), some (.ref 1)] [.int (1001 : Int32), .ref 4] (I, L, (aw_u (aw_u (aw_u (aw_u R 4 1 (some 5)) 4 2 (some 6)) 4 3 (some 7)) 4 5 (some 8)), 9, true) rfl ?_
  have f8 := f7.r (o := 4) (k := 5) (v := some 8) (Nat.le_of_ble_eq_true rfl)
  refine z_newJ (N := 1001) w_ac_long d_Mc_init_39 rfl (aw_ltn rfl) (by decide +kernel) (by decide +kernel) rfl f8 (Nat.le_of_ble_eq_true rfl) (Nat.le_of_ble_eq_true rfl) (fun f9 => ?_)
  refine s_Mc_init_41.go [some (.ref 4), some (.ref 1)] [.int (60 : Int32), .ref 4] (I, L, (aw_u (aw_u (aw_u (aw_u (aw_u R 4 1 (some 5)) 4 2 (some 6)) 4 3 (some 7)) 4 5 (some 8)) 4 17 (some 9)), 10, true) rfl ?_
  have f10 := f9.r (o := 4) (k := 17) (v := some 9) (Nat.le_of_ble_eq_true rfl)
  refine z_newI (N := 60) w_ac_int d_Mc_init_47 rfl (aw_ltn rfl) (by decide +kernel) (by decide +kernel) rfl f10 (Nat.le_of_ble_eq_true rfl) (Nat.le_of_ble_eq_true rfl) (fun f11 => ?_)
  refine s_Mc_init_49.go [some (.ref 4), some (.ref 1)] [] (I, L, (aw_u (aw_u (aw_u (aw_u (aw_u (aw_u (aw_u R 4 1 (some 5)) 4 2 (some 6)) 4 3 (some 7)) 4 5 (some 8)) 4 17 (some 9)) 4 18 (some 10)) 4 0 (some 1)), 11, true) rfl ?_
  have f12 := f11.r (o := 4) (k := 18) (v := some 10) (Nat.le_of_ble_eq_true rfl)
  have f13 := f12.r (o := 4) (k := 0) (v := some 1) (Nat.le_of_ble_eq_true rfl)
  exact z_vret d_Mc_init_57 rfl (hQ f13)

set_option maxHeartbeats 4000000 in
set_option maxRecDepth 100000 in
theorem ci_11 {X : aw_X} {d : Nat} {Q : Option Value → aw_H → Prop} {I : Nat → Nat → Int32} {L : Nat → Nat → Int64} {R : Nat → Nat → Option Nat} (f0 : aw_F I L R 12) (hQ : aw_F I L (aw_u (aw_u (aw_u (aw_u (aw_u (aw_u (aw_u (aw_u (aw_u (aw_u (aw_u R 11 3 (some 12)) 11 4 (some 13)) 11 5 (some 14)) 11 7 (some 15)) 11 8 (some 16)) 11 9 (some 17)) 11 12 (some 18)) 11 13 (some 19)) 11 14 (some 20)) 11 15 (some 21)) 11 16 (some 22)) 23 → Q none (I, L, (aw_u (aw_u (aw_u (aw_u (aw_u (aw_u (aw_u (aw_u (aw_u (aw_u (aw_u R 11 3 (some 12)) 11 4 (some 13)) 11 5 (some 14)) 11 7 (some 15)) 11 8 (some 16)) 11 9 (some 17)) 11 12 (some 18)) 11 13 (some 19)) 11 14 (some 20)) 11 15 (some 21)) 11 16 (some 22)), 23, true)) : aw_C X (d + 1) 11 33112 y_Wk_init [.ref 11] (I, L, R, 12, true) Q := by
  refine aw_C.of rfl (Nat.le_of_ble_eq_true rfl) ?_
  refine s_Wk_init_0.go [some (.ref 11)] [.ref 11] (I, L, R, 12, true) rfl ?_
  refine z_objInit (idx := 3) w_199 w_79 w_80 d_Wk_init_1 (Nat.le_of_ble_eq_true rfl) ?_
  refine s_Wk_init_4.go [some (.ref 11)] [.int (4096 : Int32), .ref 11] (I, L, R, 12, true) rfl ?_
  refine z_newJ (N := 4096) w_ac_long d_Wk_init_8 rfl (aw_ltn rfl) (by decide +kernel) (by decide +kernel) rfl f0 (Nat.le_of_ble_eq_true rfl) (Nat.le_of_ble_eq_true rfl) (fun f1 => ?_)
  refine s_Wk_init_10.go [some (.ref 11)] [.int (4096 : Int32), .ref 11] (I, L, (aw_u R 11 3 (some 12)), 13, true) rfl ?_
  have f2 := f1.r (o := 11) (k := 3) (v := some 12) (Nat.le_of_ble_eq_true rfl)
  refine z_newI (N := 4096) w_ac_int d_Wk_init_17 rfl (aw_ltn rfl) (by decide +kernel) (by decide +kernel) rfl f2 (Nat.le_of_ble_eq_true rfl) (Nat.le_of_ble_eq_true rfl) (fun f3 => ?_)
  refine s_Wk_init_19.go [some (.ref 11)] [.int (4096 : Int32), .ref 11] (I, L, (aw_u (aw_u R 11 3 (some 12)) 11 4 (some 13)), 14, true) rfl ?_
  have f4 := f3.r (o := 11) (k := 4) (v := some 13) (Nat.le_of_ble_eq_true rfl)
  refine z_newJ (N := 4096) w_ac_long d_Wk_init_26 rfl (aw_ltn rfl) (by decide +kernel) (by decide +kernel) rfl f4 (Nat.le_of_ble_eq_true rfl) (Nat.le_of_ble_eq_true rfl) (fun f5 => ?_)
  refine s_Wk_init_28.go [some (.ref 11)] [.int (4096 : Int32), .ref 11] (I, L, (aw_u (aw_u (aw_u R 11 3 (some 12)) 11 4 (some 13)) 11 5 (some 14)), 15, true) rfl ?_
  have f6 := f5.r (o := 11) (k := 5) (v := some 14) (Nat.le_of_ble_eq_true rfl)
  refine z_newJ (N := 4096) w_ac_long d_Wk_init_35 rfl (aw_ltn rfl) (by decide +kernel) (by decide +kernel) rfl f6 (Nat.le_of_ble_eq_true rfl) (Nat.le_of_ble_eq_true rfl) (fun f7 => ?_)
  refine s_Wk_init_37.go [some (.ref 11)] [.int (4096 : Int32), .ref 11] (I, L, (aw_u (aw_u (aw_u (aw_u R 11 3 (some 12)) 11 4 (some 13)) 11 5 (some 14)) 11 7 (some 15)), 16, true) rfl ?_
  have f8 := f7.r (o := 11) (k := 7) (v := some 15) (Nat.le_of_ble_eq_true rfl)
  refine z_newI (N := 4096) w_ac_int d_Wk_init_44 rfl (aw_ltn rfl) (by decide +kernel) (by decide +kernel) rfl f8 (Nat.le_of_ble_eq_true rfl) (Nat.le_of_ble_eq_true rfl) (fun f9 => ?_)
  refine s_Wk_init_46.go [some (.ref 11)] [.int (4096 : Int32), .ref 11] (I, L, (aw_u (aw_u (aw_u (aw_u (aw_u R 11 3 (some 12)) 11 4 (some 13)) 11 5 (some 14)) 11 7 (some 15)) 11 8 (some 16)), 17, true) rfl ?_
  have f10 := f9.r (o := 11) (k := 8) (v := some 16) (Nat.le_of_ble_eq_true rfl)
  refine z_newI (N := 4096) w_ac_int d_Wk_init_53 rfl (aw_ltn rfl) (by decide +kernel) (by decide +kernel) rfl f10 (Nat.le_of_ble_eq_true rfl) (Nat.le_of_ble_eq_true rfl) (fun f11 => ?_)
  refine s_Wk_init_55.go [some (.ref 11)] [.int (480 : Int32), .ref 11] (I, L, (aw_u (aw_u (aw_u (aw_u (aw_u (aw_u R 11 3 (some 12)) 11 4 (some 13)) 11 5 (some 14)) 11 7 (some 15)) 11 8 (some 16)) 11 9 (some 17)), 18, true) rfl ?_
  have f12 := f11.r (o := 11) (k := 9) (v := some 17) (Nat.le_of_ble_eq_true rfl)
  refine z_newJ (N := 480) w_ac_long d_Wk_init_62 rfl (aw_ltn rfl) (by decide +kernel) (by decide +kernel) rfl f12 (Nat.le_of_ble_eq_true rfl) (Nat.le_of_ble_eq_true rfl) (fun f13 => ?_)
  refine s_Wk_init_64.go [some (.ref 11)] [.int (3840 : Int32), .ref 11] (I, L, (aw_u (aw_u (aw_u (aw_u (aw_u (aw_u (aw_u R 11 3 (some 12)) 11 4 (some 13)) 11 5 (some 14)) 11 7 (some 15)) 11 8 (some 16)) 11 9 (some 17)) 11 12 (some 18)), 19, true) rfl ?_
  have f14 := f13.r (o := 11) (k := 12) (v := some 18) (Nat.le_of_ble_eq_true rfl)
  refine z_newI (N := 3840) w_ac_int d_Wk_init_71 rfl (aw_ltn rfl) (by decide +kernel) (by decide +kernel) rfl f14 (Nat.le_of_ble_eq_true rfl) (Nat.le_of_ble_eq_true rfl) (fun f15 => ?_)
  refine s_Wk_init_73.go [some (.ref 11)] [.int (60 : Int32), .ref 11] (I, L, (aw_u (aw_u (aw_u (aw_u (aw_u (aw_u (aw_u (aw_u R 11 3 (some 12)) 11 4 (some 13)) 11 5 (some 14)) 11 7 (some 15)) 11 8 (some 16)) 11 9 (some 17)) 11 12 (some 18)) 11 13 (some 19)), 20, true) rfl ?_
  have f16 := f15.r (o := 11) (k := 13) (v := some 19) (Nat.le_of_ble_eq_true rfl)
  refine z_newI (N := 60) w_ac_int d_Wk_init_79 rfl (aw_ltn rfl) (by decide +kernel) (by decide +kernel) rfl f16 (Nat.le_of_ble_eq_true rfl) (Nat.le_of_ble_eq_true rfl) (fun f17 => ?_)
  refine s_Wk_init_81.go [some (.ref 11)] [.int (60 : Int32), .ref 11] (I, L, (aw_u (aw_u (aw_u (aw_u (aw_u (aw_u (aw_u (aw_u (aw_u R 11 3 (some 12)) 11 4 (some 13)) 11 5 (some 14)) 11 7 (some 15)) 11 8 (some 16)) 11 9 (some 17)) 11 12 (some 18)) 11 13 (some 19)) 11 14 (some 20)), 21, true) rfl ?_
  have f18 := f17.r (o := 11) (k := 14) (v := some 20) (Nat.le_of_ble_eq_true rfl)
  refine z_newI (N := 60) w_ac_int d_Wk_init_87 rfl (aw_ltn rfl) (by decide +kernel) (by decide +kernel) rfl f18 (Nat.le_of_ble_eq_true rfl) (Nat.le_of_ble_eq_true rfl) (fun f19 => ?_)
  refine s_Wk_init_89.go [some (.ref 11)] [.int (4096 : Int32), .ref 11] (I, L, (aw_u (aw_u (aw_u (aw_u (aw_u (aw_u (aw_u (aw_u (aw_u (aw_u R 11 3 (some 12)) 11 4 (some 13)) 11 5 (some 14)) 11 7 (some 15)) 11 8 (some 16)) 11 9 (some 17)) 11 12 (some 18)) 11 13 (some 19)) 11 14 (some 20)) 11 15 (some 21)), 22, true) rfl ?_
  have f20 := f19.r (o := 11) (k := 15) (v := some 21) (Nat.le_of_ble_eq_true rfl)
  refine z_newI (N := 4096) w_ac_int d_Wk_init_96 rfl (aw_ltn rfl) (by decide +kernel) (by decide +kernel) rfl f20 (Nat.le_of_ble_eq_true rfl) (Nat.le_of_ble_eq_true rfl) (fun f21 => ?_)
  refine s_Wk_init_98.go [some (.ref 11)] [] (I, L, (aw_u (aw_u (aw_u (aw_u (aw_u (aw_u (aw_u (aw_u (aw_u (aw_u (aw_u R 11 3 (some 12)) 11 4 (some 13)) 11 5 (some 14)) 11 7 (some 15)) 11 8 (some 16)) 11 9 (some 17)) 11 12 (some 18)) 11 13 (some 19)) 11 14 (some 20)) 11 15 (some 21)) 11 16 (some 22)), 23, true) rfl ?_
  have f22 := f21.r (o := 11) (k := 16) (v := some 22) (Nat.le_of_ble_eq_true rfl)
  exact z_vret d_Wk_init_101 rfl (hQ f22)

set_option maxHeartbeats 4000000 in
set_option maxRecDepth 100000 in
theorem ci_23 {X : aw_X} {d : Nat} {Q : Option Value → aw_H → Prop} {I : Nat → Nat → Int32} {L : Nat → Nat → Int64} {R : Nat → Nat → Option Nat} (f0 : aw_F I L R 24) (hQ : aw_F I L (aw_u (aw_u (aw_u (aw_u (aw_u (aw_u (aw_u R 23 2 (some 24)) 23 3 (some 25)) 23 4 (some 26)) 23 5 (some 27)) 23 7 (some 28)) 23 0 (some 1)) 23 1 (some 4)) 29 → Q none (I, L, (aw_u (aw_u (aw_u (aw_u (aw_u (aw_u (aw_u R 23 2 (some 24)) 23 3 (some 25)) 23 4 (some 26)) 23 5 (some 27)) 23 7 (some 28)) 23 0 (some 1)) 23 1 (some 4)), 29, true)) : aw_C X (d + 1) 5 20210 y_Pf_init [.ref 23, .ref 1, .ref 4] (I, L, R, 24, true) Q := by
  refine aw_C.of rfl (Nat.le_of_ble_eq_true rfl) ?_
  refine s_Pf_init_0.go [some (.ref 23), some (.ref 1), some (.ref 4)] [.ref 23] (I, L, R, 24, true) rfl ?_
  refine z_objInit (idx := 3) w_258 w_79 w_80 d_Pf_init_1 (Nat.le_of_ble_eq_true rfl) ?_
  refine s_Pf_init_4.go [some (.ref 23), some (.ref 1), some (.ref 4)] [.int (6561 : Int32), .ref 23] (I, L, R, 24, true) rfl ?_
  refine z_newI (N := 6561) w_ac_int d_Pf_init_8 rfl (aw_ltn rfl) (by decide +kernel) (by decide +kernel) rfl f0 (Nat.le_of_ble_eq_true rfl) (Nat.le_of_ble_eq_true rfl) (fun f1 => ?_)
  refine s_Pf_init_10.go [some (.ref 23), some (.ref 1), some (.ref 4)] [.int (6561 : Int32), .ref 23] (I, L, (aw_u R 23 2 (some 24)), 25, true) rfl ?_
  have f2 := f1.r (o := 23) (k := 2) (v := some 24) (Nat.le_of_ble_eq_true rfl)
  refine z_newI (N := 6561) w_ac_int d_Pf_init_17 rfl (aw_ltn rfl) (by decide +kernel) (by decide +kernel) rfl f2 (Nat.le_of_ble_eq_true rfl) (Nat.le_of_ble_eq_true rfl) (fun f3 => ?_)
  refine s_Pf_init_19.go [some (.ref 23), some (.ref 1), some (.ref 4)] [.int (6561 : Int32), .ref 23] (I, L, (aw_u (aw_u R 23 2 (some 24)) 23 3 (some 25)), 26, true) rfl ?_
  have f4 := f3.r (o := 23) (k := 3) (v := some 25) (Nat.le_of_ble_eq_true rfl)
  refine z_newI (N := 6561) w_ac_int d_Pf_init_26 rfl (aw_ltn rfl) (by decide +kernel) (by decide +kernel) rfl f4 (Nat.le_of_ble_eq_true rfl) (Nat.le_of_ble_eq_true rfl) (fun f5 => ?_)
  refine s_Pf_init_28.go [some (.ref 23), some (.ref 1), some (.ref 4)] [.int (16 : Int32), .ref 23] (I, L, (aw_u (aw_u (aw_u R 23 2 (some 24)) 23 3 (some 25)) 23 4 (some 26)), 27, true) rfl ?_
  have f6 := f5.r (o := 23) (k := 4) (v := some 26) (Nat.le_of_ble_eq_true rfl)
  refine z_newI (N := 16) w_ac_int d_Pf_init_34 rfl (aw_ltn rfl) (by decide +kernel) (by decide +kernel) rfl f6 (Nat.le_of_ble_eq_true rfl) (Nat.le_of_ble_eq_true rfl) (fun f7 => ?_)
  refine s_Pf_init_36.go [some (.ref 23), some (.ref 1), some (.ref 4)] [.int (511 : Int32), .ref 23] (I, L, (aw_u (aw_u (aw_u (aw_u R 23 2 (some 24)) 23 3 (some 25)) 23 4 (some 26)) 23 5 (some 27)), 28, true) rfl ?_
  have f8 := f7.r (o := 23) (k := 5) (v := some 27) (Nat.le_of_ble_eq_true rfl)
  refine z_newI (N := 511) w_ac_int d_Pf_init_43 rfl (aw_ltn rfl) (by decide +kernel) (by decide +kernel) rfl f8 (Nat.le_of_ble_eq_true rfl) (Nat.le_of_ble_eq_true rfl) (fun f9 => ?_)
  refine s_Pf_init_45.go [some (.ref 23), some (.ref 1), some (.ref 4)] [] (I, L, (aw_u (aw_u (aw_u (aw_u (aw_u (aw_u (aw_u R 23 2 (some 24)) 23 3 (some 25)) 23 4 (some 26)) 23 5 (some 27)) 23 7 (some 28)) 23 0 (some 1)) 23 1 (some 4)), 29, true) rfl ?_
  have f10 := f9.r (o := 23) (k := 7) (v := some 28) (Nat.le_of_ble_eq_true rfl)
  have f11 := f10.r (o := 23) (k := 0) (v := some 1) (Nat.le_of_ble_eq_true rfl)
  have f12 := f11.r (o := 23) (k := 1) (v := some 4) (Nat.le_of_ble_eq_true rfl)
  exact z_vret d_Pf_init_58 rfl (hQ f12)

set_option maxHeartbeats 4000000 in
set_option maxRecDepth 100000 in
theorem ci_30 {X : aw_X} {d : Nat} {Q : Option Value → aw_H → Prop} {I : Nat → Nat → Int32} {L : Nat → Nat → Int64} {R : Nat → Nat → Option Nat} (f0 : aw_F I L R 31) (hQ : aw_F I L (aw_u (aw_u (aw_u (aw_u R 30 0 (some 31)) 30 1 (some 32)) 30 2 (some 33)) 30 3 (some 34)) 35 → Q none (I, L, (aw_u (aw_u (aw_u (aw_u R 30 0 (some 31)) 30 1 (some 32)) 30 2 (some 33)) 30 3 (some 34)), 35, true)) : aw_C X (d + 1) 4 1240 y_Cd_init [.ref 30] (I, L, R, 31, true) Q := by
  refine aw_C.of rfl (Nat.le_of_ble_eq_true rfl) ?_
  refine s_Cd_init_0.go [some (.ref 30)] [.ref 30] (I, L, R, 31, true) rfl ?_
  refine z_objInit (idx := 3) w_291 w_79 w_80 d_Cd_init_1 (Nat.le_of_ble_eq_true rfl) ?_
  refine s_Cd_init_4.go [some (.ref 30)] [.int (600 : Int32), .ref 30] (I, L, R, 31, true) rfl ?_
  refine z_newI (N := 600) w_ac_int d_Cd_init_8 rfl (aw_ltn rfl) (by decide +kernel) (by decide +kernel) rfl f0 (Nat.le_of_ble_eq_true rfl) (Nat.le_of_ble_eq_true rfl) (fun f1 => ?_)
  refine s_Cd_init_10.go [some (.ref 30)] [.int (600 : Int32), .ref 30] (I, L, (aw_u R 30 0 (some 31)), 32, true) rfl ?_
  have f2 := f1.r (o := 30) (k := 0) (v := some 31) (Nat.le_of_ble_eq_true rfl)
  refine z_newI (N := 600) w_ac_int d_Cd_init_17 rfl (aw_ltn rfl) (by decide +kernel) (by decide +kernel) rfl f2 (Nat.le_of_ble_eq_true rfl) (Nat.le_of_ble_eq_true rfl) (fun f3 => ?_)
  refine s_Cd_init_19.go [some (.ref 30)] [.int (20 : Int32), .ref 30] (I, L, (aw_u (aw_u R 30 0 (some 31)) 30 1 (some 32)), 33, true) rfl ?_
  have f4 := f3.r (o := 30) (k := 1) (v := some 32) (Nat.le_of_ble_eq_true rfl)
  refine z_newI (N := 20) w_ac_int d_Cd_init_25 rfl (aw_ltn rfl) (by decide +kernel) (by decide +kernel) rfl f4 (Nat.le_of_ble_eq_true rfl) (Nat.le_of_ble_eq_true rfl) (fun f5 => ?_)
  refine s_Cd_init_27.go [some (.ref 30)] [.int (20 : Int32), .ref 30] (I, L, (aw_u (aw_u (aw_u R 30 0 (some 31)) 30 1 (some 32)) 30 2 (some 33)), 34, true) rfl ?_
  have f6 := f5.r (o := 30) (k := 2) (v := some 33) (Nat.le_of_ble_eq_true rfl)
  refine z_newI (N := 20) w_ac_int d_Cd_init_33 rfl (aw_ltn rfl) (by decide +kernel) (by decide +kernel) rfl f6 (Nat.le_of_ble_eq_true rfl) (Nat.le_of_ble_eq_true rfl) (fun f7 => ?_)
  refine s_Cd_init_35.go [some (.ref 30)] [] (I, L, (aw_u (aw_u (aw_u (aw_u R 30 0 (some 31)) 30 1 (some 32)) 30 2 (some 33)) 30 3 (some 34)), 35, true) rfl ?_
  have f8 := f7.r (o := 30) (k := 3) (v := some 34) (Nat.le_of_ble_eq_true rfl)
  exact z_vret d_Cd_init_38 rfl (hQ f8)

set_option maxHeartbeats 4000000 in
set_option maxRecDepth 100000 in
theorem ci_35 {X : aw_X} {d : Nat} {Q : Option Value → aw_H → Prop} {I : Nat → Nat → Int32} {L : Nat → Nat → Int64} {R : Nat → Nat → Option Nat} (f0 : aw_F I L R 36) (hQ : aw_F I L (aw_u (aw_u (aw_u (aw_u R 35 0 (some 36)) 35 1 (some 37)) 35 2 (some 38)) 35 3 (some 39)) 40 → Q none (I, L, (aw_u (aw_u (aw_u (aw_u R 35 0 (some 36)) 35 1 (some 37)) 35 2 (some 38)) 35 3 (some 39)), 40, true)) : aw_C X (d + 1) 4 1240 y_Cd_init [.ref 35] (I, L, R, 36, true) Q := by
  refine aw_C.of rfl (Nat.le_of_ble_eq_true rfl) ?_
  refine s_Cd_init_0.go [some (.ref 35)] [.ref 35] (I, L, R, 36, true) rfl ?_
  refine z_objInit (idx := 3) w_291 w_79 w_80 d_Cd_init_1 (Nat.le_of_ble_eq_true rfl) ?_
  refine s_Cd_init_4.go [some (.ref 35)] [.int (600 : Int32), .ref 35] (I, L, R, 36, true) rfl ?_
  refine z_newI (N := 600) w_ac_int d_Cd_init_8 rfl (aw_ltn rfl) (by decide +kernel) (by decide +kernel) rfl f0 (Nat.le_of_ble_eq_true rfl) (Nat.le_of_ble_eq_true rfl) (fun f1 => ?_)
  refine s_Cd_init_10.go [some (.ref 35)] [.int (600 : Int32), .ref 35] (I, L, (aw_u R 35 0 (some 36)), 37, true) rfl ?_
  have f2 := f1.r (o := 35) (k := 0) (v := some 36) (Nat.le_of_ble_eq_true rfl)
  refine z_newI (N := 600) w_ac_int d_Cd_init_17 rfl (aw_ltn rfl) (by decide +kernel) (by decide +kernel) rfl f2 (Nat.le_of_ble_eq_true rfl) (Nat.le_of_ble_eq_true rfl) (fun f3 => ?_)
  refine s_Cd_init_19.go [some (.ref 35)] [.int (20 : Int32), .ref 35] (I, L, (aw_u (aw_u R 35 0 (some 36)) 35 1 (some 37)), 38, true) rfl ?_
  have f4 := f3.r (o := 35) (k := 1) (v := some 37) (Nat.le_of_ble_eq_true rfl)
  refine z_newI (N := 20) w_ac_int d_Cd_init_25 rfl (aw_ltn rfl) (by decide +kernel) (by decide +kernel) rfl f4 (Nat.le_of_ble_eq_true rfl) (Nat.le_of_ble_eq_true rfl) (fun f5 => ?_)
  refine s_Cd_init_27.go [some (.ref 35)] [.int (20 : Int32), .ref 35] (I, L, (aw_u (aw_u (aw_u R 35 0 (some 36)) 35 1 (some 37)) 35 2 (some 38)), 39, true) rfl ?_
  have f6 := f5.r (o := 35) (k := 2) (v := some 38) (Nat.le_of_ble_eq_true rfl)
  refine z_newI (N := 20) w_ac_int d_Cd_init_33 rfl (aw_ltn rfl) (by decide +kernel) (by decide +kernel) rfl f6 (Nat.le_of_ble_eq_true rfl) (Nat.le_of_ble_eq_true rfl) (fun f7 => ?_)
  refine s_Cd_init_35.go [some (.ref 35)] [] (I, L, (aw_u (aw_u (aw_u (aw_u R 35 0 (some 36)) 35 1 (some 37)) 35 2 (some 38)) 35 3 (some 39)), 40, true) rfl ?_
  have f8 := f7.r (o := 35) (k := 3) (v := some 39) (Nat.le_of_ble_eq_true rfl)
  exact z_vret d_Cd_init_38 rfl (hQ f8)

set_option maxHeartbeats 4000000 in
set_option maxRecDepth 100000 in
theorem ci_40 {X : aw_X} {d : Nat} {Q : Option Value → aw_H → Prop} {I : Nat → Nat → Int32} {L : Nat → Nat → Int64} {R : Nat → Nat → Option Nat} (f0 : aw_F I L R 41) (hQ : aw_F I L (aw_u (aw_u (aw_u (aw_u R 40 0 (some 41)) 40 1 (some 42)) 40 2 (some 43)) 40 3 (some 44)) 45 → Q none (I, L, (aw_u (aw_u (aw_u (aw_u R 40 0 (some 41)) 40 1 (some 42)) 40 2 (some 43)) 40 3 (some 44)), 45, true)) : aw_C X (d + 1) 4 1240 y_Cd_init [.ref 40] (I, L, R, 41, true) Q := by
  refine aw_C.of rfl (Nat.le_of_ble_eq_true rfl) ?_
  refine s_Cd_init_0.go [some (.ref 40)] [.ref 40] (I, L, R, 41, true) rfl ?_
  refine z_objInit (idx := 3) w_291 w_79 w_80 d_Cd_init_1 (Nat.le_of_ble_eq_true rfl) ?_
  refine s_Cd_init_4.go [some (.ref 40)] [.int (600 : Int32), .ref 40] (I, L, R, 41, true) rfl ?_
  refine z_newI (N := 600) w_ac_int d_Cd_init_8 rfl (aw_ltn rfl) (by decide +kernel) (by decide +kernel) rfl f0 (Nat.le_of_ble_eq_true rfl) (Nat.le_of_ble_eq_true rfl) (fun f1 => ?_)
  refine s_Cd_init_10.go [some (.ref 40)] [.int (600 : Int32), .ref 40] (I, L, (aw_u R 40 0 (some 41)), 42, true) rfl ?_
  have f2 := f1.r (o := 40) (k := 0) (v := some 41) (Nat.le_of_ble_eq_true rfl)
  refine z_newI (N := 600) w_ac_int d_Cd_init_17 rfl (aw_ltn rfl) (by decide +kernel) (by decide +kernel) rfl f2 (Nat.le_of_ble_eq_true rfl) (Nat.le_of_ble_eq_true rfl) (fun f3 => ?_)
  refine s_Cd_init_19.go [some (.ref 40)] [.int (20 : Int32), .ref 40] (I, L, (aw_u (aw_u R 40 0 (some 41)) 40 1 (some 42)), 43, true) rfl ?_
  have f4 := f3.r (o := 40) (k := 1) (v := some 42) (Nat.le_of_ble_eq_true rfl)
  refine z_newI (N := 20) w_ac_int d_Cd_init_25 rfl (aw_ltn rfl) (by decide +kernel) (by decide +kernel) rfl f4 (Nat.le_of_ble_eq_true rfl) (Nat.le_of_ble_eq_true rfl) (fun f5 => ?_)
  refine s_Cd_init_27.go [some (.ref 40)] [.int (20 : Int32), .ref 40] (I, L, (aw_u (aw_u (aw_u R 40 0 (some 41)) 40 1 (some 42)) 40 2 (some 43)), 44, true) rfl ?_
  have f6 := f5.r (o := 40) (k := 2) (v := some 43) (Nat.le_of_ble_eq_true rfl)
  refine z_newI (N := 20) w_ac_int d_Cd_init_33 rfl (aw_ltn rfl) (by decide +kernel) (by decide +kernel) rfl f6 (Nat.le_of_ble_eq_true rfl) (Nat.le_of_ble_eq_true rfl) (fun f7 => ?_)
  refine s_Cd_init_35.go [some (.ref 40)] [] (I, L, (aw_u (aw_u (aw_u (aw_u R 40 0 (some 41)) 40 1 (some 42)) 40 2 (some 43)) 40 3 (some 44)), 45, true) rfl ?_
  have f8 := f7.r (o := 40) (k := 3) (v := some 44) (Nat.le_of_ble_eq_true rfl)
  exact z_vret d_Cd_init_38 rfl (hQ f8)

set_option maxHeartbeats 4000000 in
set_option maxRecDepth 100000 in
theorem ci_45 {X : aw_X} {d : Nat} {Q : Option Value → aw_H → Prop} {I : Nat → Nat → Int32} {L : Nat → Nat → Int64} {R : Nat → Nat → Option Nat} (f0 : aw_F I L R 46) (hQ : aw_F I L (aw_u (aw_u (aw_u (aw_u R 45 0 (some 46)) 45 1 (some 47)) 45 2 (some 48)) 45 3 (some 49)) 50 → Q none (I, L, (aw_u (aw_u (aw_u (aw_u R 45 0 (some 46)) 45 1 (some 47)) 45 2 (some 48)) 45 3 (some 49)), 50, true)) : aw_C X (d + 1) 4 1240 y_Cd_init [.ref 45] (I, L, R, 46, true) Q := by
  refine aw_C.of rfl (Nat.le_of_ble_eq_true rfl) ?_
  refine s_Cd_init_0.go [some (.ref 45)] [.ref 45] (I, L, R, 46, true) rfl ?_
  refine z_objInit (idx := 3) w_291 w_79 w_80 d_Cd_init_1 (Nat.le_of_ble_eq_true rfl) ?_
  refine s_Cd_init_4.go [some (.ref 45)] [.int (600 : Int32), .ref 45] (I, L, R, 46, true) rfl ?_
  refine z_newI (N := 600) w_ac_int d_Cd_init_8 rfl (aw_ltn rfl) (by decide +kernel) (by decide +kernel) rfl f0 (Nat.le_of_ble_eq_true rfl) (Nat.le_of_ble_eq_true rfl) (fun f1 => ?_)
  refine s_Cd_init_10.go [some (.ref 45)] [.int (600 : Int32), .ref 45] (I, L, (aw_u R 45 0 (some 46)), 47, true) rfl ?_
  have f2 := f1.r (o := 45) (k := 0) (v := some 46) (Nat.le_of_ble_eq_true rfl)
  refine z_newI (N := 600) w_ac_int d_Cd_init_17 rfl (aw_ltn rfl) (by decide +kernel) (by decide +kernel) rfl f2 (Nat.le_of_ble_eq_true rfl) (Nat.le_of_ble_eq_true rfl) (fun f3 => ?_)
  refine s_Cd_init_19.go [some (.ref 45)] [.int (20 : Int32), .ref 45] (I, L, (aw_u (aw_u R 45 0 (some 46)) 45 1 (some 47)), 48, true) rfl ?_
  have f4 := f3.r (o := 45) (k := 1) (v := some 47) (Nat.le_of_ble_eq_true rfl)
  refine z_newI (N := 20) w_ac_int d_Cd_init_25 rfl (aw_ltn rfl) (by decide +kernel) (by decide +kernel) rfl f4 (Nat.le_of_ble_eq_true rfl) (Nat.le_of_ble_eq_true rfl) (fun f5 => ?_)
  refine s_Cd_init_27.go [some (.ref 45)] [.int (20 : Int32), .ref 45] (I, L, (aw_u (aw_u (aw_u R 45 0 (some 46)) 45 1 (some 47)) 45 2 (some 48)), 49, true) rfl ?_
  have f6 := f5.r (o := 45) (k := 2) (v := some 48) (Nat.le_of_ble_eq_true rfl)
  refine z_newI (N := 20) w_ac_int d_Cd_init_33 rfl (aw_ltn rfl) (by decide +kernel) (by decide +kernel) rfl f6 (Nat.le_of_ble_eq_true rfl) (Nat.le_of_ble_eq_true rfl) (fun f7 => ?_)
  refine s_Cd_init_35.go [some (.ref 45)] [] (I, L, (aw_u (aw_u (aw_u (aw_u R 45 0 (some 46)) 45 1 (some 47)) 45 2 (some 48)) 45 3 (some 49)), 50, true) rfl ?_
  have f8 := f7.r (o := 45) (k := 3) (v := some 49) (Nat.le_of_ble_eq_true rfl)
  exact z_vret d_Cd_init_38 rfl (hQ f8)

set_option maxHeartbeats 4000000 in
set_option maxRecDepth 100000 in
theorem ci_50 {X : aw_X} {d : Nat} {Q : Option Value → aw_H → Prop} {I : Nat → Nat → Int32} {L : Nat → Nat → Int64} {R : Nat → Nat → Option Nat} (f0 : aw_F I L R 51) (hQ : aw_F I L (aw_u (aw_u (aw_u (aw_u R 50 0 (some 51)) 50 1 (some 52)) 50 2 (some 53)) 50 3 (some 54)) 55 → Q none (I, L, (aw_u (aw_u (aw_u (aw_u R 50 0 (some 51)) 50 1 (some 52)) 50 2 (some 53)) 50 3 (some 54)), 55, true)) : aw_C X (d + 1) 4 1240 y_Cd_init [.ref 50] (I, L, R, 51, true) Q := by
  refine aw_C.of rfl (Nat.le_of_ble_eq_true rfl) ?_
  refine s_Cd_init_0.go [some (.ref 50)] [.ref 50] (I, L, R, 51, true) rfl ?_
  refine z_objInit (idx := 3) w_291 w_79 w_80 d_Cd_init_1 (Nat.le_of_ble_eq_true rfl) ?_
  refine s_Cd_init_4.go [some (.ref 50)] [.int (600 : Int32), .ref 50] (I, L, R, 51, true) rfl ?_
  refine z_newI (N := 600) w_ac_int d_Cd_init_8 rfl (aw_ltn rfl) (by decide +kernel) (by decide +kernel) rfl f0 (Nat.le_of_ble_eq_true rfl) (Nat.le_of_ble_eq_true rfl) (fun f1 => ?_)
  refine s_Cd_init_10.go [some (.ref 50)] [.int (600 : Int32), .ref 50] (I, L, (aw_u R 50 0 (some 51)), 52, true) rfl ?_
  have f2 := f1.r (o := 50) (k := 0) (v := some 51) (Nat.le_of_ble_eq_true rfl)
  refine z_newI (N := 600) w_ac_int d_Cd_init_17 rfl (aw_ltn rfl) (by decide +kernel) (by decide +kernel) rfl f2 (Nat.le_of_ble_eq_true rfl) (Nat.le_of_ble_eq_true rfl) (fun f3 => ?_)
  refine s_Cd_init_19.go [some (.ref 50)] [.int (20 : Int32), .ref 50] (I, L, (aw_u (aw_u R 50 0 (some 51)) 50 1 (some 52)), 53, true) rfl ?_
  have f4 := f3.r (o := 50) (k := 1) (v := some 52) (Nat.le_of_ble_eq_true rfl)
  refine z_newI (N := 20) w_ac_int d_Cd_init_25 rfl (aw_ltn rfl) (by decide +kernel) (by decide +kernel) rfl f4 (Nat.le_of_ble_eq_true rfl) (Nat.le_of_ble_eq_true rfl) (fun f5 => ?_)
  refine s_Cd_init_27.go [some (.ref 50)] [.int (20 : Int32), .ref 50] (I, L, (aw_u (aw_u (aw_u R 50 0 (some 51)) 50 1 (some 52)) 50 2 (some 53)), 54, true) rfl ?_
  have f6 := f5.r (o := 50) (k := 2) (v := some 53) (Nat.le_of_ble_eq_true rfl)
  refine z_newI (N := 20) w_ac_int d_Cd_init_33 rfl (aw_ltn rfl) (by decide +kernel) (by decide +kernel) rfl f6 (Nat.le_of_ble_eq_true rfl) (Nat.le_of_ble_eq_true rfl) (fun f7 => ?_)
  refine s_Cd_init_35.go [some (.ref 50)] [] (I, L, (aw_u (aw_u (aw_u (aw_u R 50 0 (some 51)) 50 1 (some 52)) 50 2 (some 53)) 50 3 (some 54)), 55, true) rfl ?_
  have f8 := f7.r (o := 50) (k := 3) (v := some 54) (Nat.le_of_ble_eq_true rfl)
  exact z_vret d_Cd_init_38 rfl (hQ f8)

set_option maxHeartbeats 4000000 in
set_option maxRecDepth 100000 in
theorem ci_55 {X : aw_X} {d : Nat} {Q : Option Value → aw_H → Prop} {I : Nat → Nat → Int32} {L : Nat → Nat → Int64} {R : Nat → Nat → Option Nat} (f0 : aw_F I L R 56) (hQ : aw_F I L (aw_u (aw_u (aw_u (aw_u R 55 0 (some 56)) 55 1 (some 57)) 55 2 (some 58)) 55 3 (some 59)) 60 → Q none (I, L, (aw_u (aw_u (aw_u (aw_u R 55 0 (some 56)) 55 1 (some 57)) 55 2 (some 58)) 55 3 (some 59)), 60, true)) : aw_C X (d + 1) 4 1240 y_Cd_init [.ref 55] (I, L, R, 56, true) Q := by
  refine aw_C.of rfl (Nat.le_of_ble_eq_true rfl) ?_
  refine s_Cd_init_0.go [some (.ref 55)] [.ref 55] (I, L, R, 56, true) rfl ?_
  refine z_objInit (idx := 3) w_291 w_79 w_80 d_Cd_init_1 (Nat.le_of_ble_eq_true rfl) ?_
  refine s_Cd_init_4.go [some (.ref 55)] [.int (600 : Int32), .ref 55] (I, L, R, 56, true) rfl ?_
  refine z_newI (N := 600) w_ac_int d_Cd_init_8 rfl (aw_ltn rfl) (by decide +kernel) (by decide +kernel) rfl f0 (Nat.le_of_ble_eq_true rfl) (Nat.le_of_ble_eq_true rfl) (fun f1 => ?_)
  refine s_Cd_init_10.go [some (.ref 55)] [.int (600 : Int32), .ref 55] (I, L, (aw_u R 55 0 (some 56)), 57, true) rfl ?_
  have f2 := f1.r (o := 55) (k := 0) (v := some 56) (Nat.le_of_ble_eq_true rfl)
  refine z_newI (N := 600) w_ac_int d_Cd_init_17 rfl (aw_ltn rfl) (by decide +kernel) (by decide +kernel) rfl f2 (Nat.le_of_ble_eq_true rfl) (Nat.le_of_ble_eq_true rfl) (fun f3 => ?_)
  refine s_Cd_init_19.go [some (.ref 55)] [.int (20 : Int32), .ref 55] (I, L, (aw_u (aw_u R 55 0 (some 56)) 55 1 (some 57)), 58, true) rfl ?_
  have f4 := f3.r (o := 55) (k := 1) (v := some 57) (Nat.le_of_ble_eq_true rfl)
  refine z_newI (N := 20) w_ac_int d_Cd_init_25 rfl (aw_ltn rfl) (by decide +kernel) (by decide +kernel) rfl f4 (Nat.le_of_ble_eq_true rfl) (Nat.le_of_ble_eq_true rfl) (fun f5 => ?_)
  refine s_Cd_init_27.go [some (.ref 55)] [.int (20 : Int32), .ref 55] (I, L, (aw_u (aw_u (aw_u R 55 0 (some 56)) 55 1 (some 57)) 55 2 (some 58)), 59, true) rfl ?_
  have f6 := f5.r (o := 55) (k := 2) (v := some 58) (Nat.le_of_ble_eq_true rfl)
  refine z_newI (N := 20) w_ac_int d_Cd_init_33 rfl (aw_ltn rfl) (by decide +kernel) (by decide +kernel) rfl f6 (Nat.le_of_ble_eq_true rfl) (Nat.le_of_ble_eq_true rfl) (fun f7 => ?_)
  refine s_Cd_init_35.go [some (.ref 55)] [] (I, L, (aw_u (aw_u (aw_u (aw_u R 55 0 (some 56)) 55 1 (some 57)) 55 2 (some 58)) 55 3 (some 59)), 60, true) rfl ?_
  have f8 := f7.r (o := 55) (k := 3) (v := some 59) (Nat.le_of_ble_eq_true rfl)
  exact z_vret d_Cd_init_38 rfl (hQ f8)

set_option maxHeartbeats 4000000 in
set_option maxRecDepth 100000 in
theorem ci_62 {X : aw_X} {d : Nat} {Q : Option Value → aw_H → Prop} {I : Nat → Nat → Int32} {L : Nat → Nat → Int64} {R : Nat → Nat → Option Nat} (f0 : aw_F I L R 63) (hQ : aw_F I L (aw_u (aw_u (aw_u (aw_u R 62 1 (some 63)) 62 2 (some 64)) 62 3 (some 65)) 62 0 (some 2)) 66 → Q none (I, L, (aw_u (aw_u (aw_u (aw_u R 62 1 (some 63)) 62 2 (some 64)) 62 3 (some 65)) 62 0 (some 2)), 66, true)) : aw_C X (d + 1) 3 1503 y_Tk_init [.ref 62, .ref 2] (I, L, R, 63, true) Q := by
  refine aw_C.of rfl (Nat.le_of_ble_eq_true rfl) ?_
  refine s_Tk_init_0.go [some (.ref 62), some (.ref 2)] [.ref 62] (I, L, R, 63, true) rfl ?_
  refine z_objInit (idx := 3) w_345 w_79 w_80 d_Tk_init_1 (Nat.le_of_ble_eq_true rfl) ?_
  refine s_Tk_init_4.go [some (.ref 62), some (.ref 2)] [.int (501 : Int32), .ref 62] (I, L, R, 63, true) rfl ?_
  refine z_newI (N := 501) w_ac_int d_Tk_init_8 rfl (aw_ltn rfl) (by decide +kernel) (by decide +kernel) rfl f0 (Nat.le_of_ble_eq_true rfl) (Nat.le_of_ble_eq_true rfl) (fun f1 => ?_)
  refine s_Tk_init_10.go [some (.ref 62), some (.ref 2)] [.int (501 : Int32), .ref 62] (I, L, (aw_u R 62 1 (some 63)), 64, true) rfl ?_
  have f2 := f1.r (o := 62) (k := 1) (v := some 63) (Nat.le_of_ble_eq_true rfl)
  refine z_newI (N := 501) w_ac_int d_Tk_init_17 rfl (aw_ltn rfl) (by decide +kernel) (by decide +kernel) rfl f2 (Nat.le_of_ble_eq_true rfl) (Nat.le_of_ble_eq_true rfl) (fun f3 => ?_)
  refine s_Tk_init_19.go [some (.ref 62), some (.ref 2)] [.int (501 : Int32), .ref 62] (I, L, (aw_u (aw_u R 62 1 (some 63)) 62 2 (some 64)), 65, true) rfl ?_
  have f4 := f3.r (o := 62) (k := 2) (v := some 64) (Nat.le_of_ble_eq_true rfl)
  refine z_newI (N := 501) w_ac_int d_Tk_init_26 rfl (aw_ltn rfl) (by decide +kernel) (by decide +kernel) rfl f4 (Nat.le_of_ble_eq_true rfl) (Nat.le_of_ble_eq_true rfl) (fun f5 => ?_)
  refine s_Tk_init_28.go [some (.ref 62), some (.ref 2)] [] (I, L, (aw_u (aw_u (aw_u (aw_u R 62 1 (some 63)) 62 2 (some 64)) 62 3 (some 65)) 62 0 (some 2)), 66, true) rfl ?_
  have f6 := f5.r (o := 62) (k := 3) (v := some 65) (Nat.le_of_ble_eq_true rfl)
  have f7 := f6.r (o := 62) (k := 0) (v := some 2) (Nat.le_of_ble_eq_true rfl)
  exact z_vret d_Tk_init_36 rfl (hQ f7)

set_option maxHeartbeats 4000000 in
set_option maxRecDepth 100000 in
theorem ci_60 {X : aw_X} {d : Nat} {Q : Option Value → aw_H → Prop} {I : Nat → Nat → Int32} {L : Nat → Nat → Int64} {R : Nat → Nat → Option Nat} (f0 : aw_F I L R 61) (hQ : aw_F I L (aw_u (aw_u (aw_u (aw_u (aw_u (aw_u (aw_u R 60 1 (some 61)) 62 1 (some 63)) 62 2 (some 64)) 62 3 (some 65)) 62 0 (some 2)) 60 0 (some 62)) 60 2 (some 55)) 66 → Q none (I, L, (aw_u (aw_u (aw_u (aw_u (aw_u (aw_u (aw_u R 60 1 (some 61)) 62 1 (some 63)) 62 2 (some 64)) 62 3 (some 65)) 62 0 (some 2)) 60 0 (some 62)) 60 2 (some 55)), 66, true)) : aw_C X (d + 2) 5 1516 y_Ps_init [.ref 60, .ref 2, .ref 55] (I, L, R, 61, true) Q := by
  refine aw_C.of rfl (Nat.le_of_ble_eq_true rfl) ?_
  refine s_Ps_init_0.go [some (.ref 60), some (.ref 2), some (.ref 55)] [.ref 60] (I, L, R, 61, true) rfl ?_
  refine z_objInit (idx := 3) w_339 w_79 w_80 d_Ps_init_1 (Nat.le_of_ble_eq_true rfl) ?_
  refine s_Ps_init_4.go [some (.ref 60), some (.ref 2), some (.ref 55)] [.int (4 : Int32), .ref 60] (I, L, R, 61, true) rfl ?_
  refine z_newI (N := 4) w_ac_int d_Ps_init_6 rfl (aw_ltn rfl) (by decide +kernel) (by decide +kernel) rfl f0 (Nat.le_of_ble_eq_true rfl) (Nat.le_of_ble_eq_true rfl) (fun f1 => ?_)
  refine s_Ps_init_8.go [some (.ref 60), some (.ref 2), some (.ref 55)] [.ref 60] (I, L, (aw_u R 60 1 (some 61)), 62, true) rfl ?_
  have f2 := f1.r (o := 60) (k := 1) (v := some 61) (Nat.le_of_ble_eq_true rfl)
  refine z_new (idx := 15) (N := 9) k_Tk gt_Tk w_340 w_341 w_61 d_Ps_init_12 rfl (aw_ltn rfl) f2 (Nat.le_of_ble_eq_true rfl) (Nat.le_of_ble_eq_true rfl) (fun f3 => ?_)
  refine s_Ps_init_15.go [some (.ref 60), some (.ref 2), some (.ref 55)] [.ref 2, .ref 62, .ref 62, .ref 60] (I, L, (aw_u R 60 1 (some 61)), 63, true) rfl ?_
  refine z_callI (av := [.ref 2]) (st := [.ref 62, .ref 60]) (mc2 := 3) (ms2 := 1503) ok_Tk_init rfl rfl (Or.inl w_342) w_343 d_Ps_init_17 (aw_exn rfl) rfl rfl (Nat.le_of_ble_eq_true rfl) (Nat.le_of_ble_eq_true rfl) (Nat.le_of_ble_eq_true rfl) (ci_62 (d := d + 0) f3 (fun f4 => ?_))
  show aw_Z _ _ _ _ _ _ _ _ _ _ [.ref 62, .ref 60] (I, L, (aw_u (aw_u (aw_u (aw_u (aw_u R 60 1 (some 61)) 62 1 (some 63)) 62 2 (some 64)) 62 3 (some 65)) 62 0 (some 2)), 66, true)
  refine s_Ps_init_20.go [some (.ref 60), some (.ref 2), some (.ref 55)] [] (I, L, (aw_u (aw_u (aw_u (aw_u (aw_u (aw_u (aw_u R 60 1 (some 61)) 62 1 (some 63)) 62 2 (some 64)) 62 3 (some 65)) 62 0 (some 2)) 60 0 (some 62)) 60 2 (some 55)), 66, true) rfl ?_
  have f5 := f4.r (o := 60) (k := 0) (v := some 62) (Nat.le_of_ble_eq_true rfl)
  have f6 := f5.r (o := 60) (k := 2) (v := some 55) (Nat.le_of_ble_eq_true rfl)
  exact z_vret d_Ps_init_28 rfl (hQ f6)

set_option maxHeartbeats 4000000 in
set_option maxRecDepth 100000 in
theorem ci_0 {X : aw_X} {d : Nat} {Q : Option Value → aw_H → Prop} {I : Nat → Nat → Int32} {L : Nat → Nat → Int64} {R : Nat → Nat → Option Nat} (f0 : aw_F I L R 1) (hQ : aw_F (aw_u (aw_u (aw_u (aw_u (aw_u I 1 0 (3 : Int32)) 1 1 (1 : Int32)) 1 2 (0 : Int32)) 0 12 (-1 : Int32)) 0 15 (-1 : Int32)) L (aw_u (aw_u (aw_u (aw_u (aw_u (aw_u (aw_u (aw_u (aw_u (aw_u (aw_u (aw_u (aw_u (aw_u (aw_u (aw_u (aw_u (aw_u (aw_u (aw_u (aw_u (aw_u (aw_u (aw_u (aw_u (aw_u (aw_u (aw_u (aw_u (aw_u (aw_u (aw_u (aw_u (aw_u (aw_u (aw_u (aw_u (aw_u (aw_u (aw_u (aw_u (aw_u (aw_u (aw_u (aw_u (aw_u (aw_u (aw_u (aw_u (aw_u (aw_u (aw_u (aw_u (aw_u (aw_u (aw_u (aw_u (aw_u (aw_u (aw_u (aw_u (aw_u (aw_u (aw_u (aw_u (aw_u (aw_u (aw_u (aw_u (aw_u (aw_u (aw_u (aw_u R 0 0 (some 1)) 2 0 (some 3)) 0 1 (some 2)) 4 1 (some 5)) 4 2 (some 6)) 4 3 (some 7)) 4 5 (some 8)) 4 17 (some 9)) 4 18 (some 10)) 4 0 (some 1)) 0 2 (some 4)) 11 3 (some 12)) 11 4 (some 13)) 11 5 (some 14)) 11 7 (some 15)) 11 8 (some 16)) 11 9 (some 17)) 11 12 (some 18)) 11 13 (some 19)) 11 14 (some 20)) 11 15 (some 21)) 11 16 (some 22)) 0 3 (some 11)) 23 2 (some 24)) 23 3 (some 25)) 23 4 (some 26)) 23 5 (some 27)) 23 7 (some 28)) 23 0 (some 1)) 23 1 (some 4)) 0 4 (some 23)) 30 0 (some 31)) 30 1 (some 32)) 30 2 (some 33)) 30 3 (some 34)) 29 0 (some 30)) 35 0 (some 36)) 35 1 (some 37)) 35 2 (some 38)) 35 3 (some 39)) 29 1 (some 35)) 40 0 (some 41)) 40 1 (some 42)) 40 2 (some 43)) 40 3 (some 44)) 29 2 (some 40)) 45 0 (some 46)) 45 1 (some 47)) 45 2 (some 48)) 45 3 (some 49)) 29 3 (some 45)) 0 5 (some 29)) 50 0 (some 51)) 50 1 (some 52)) 50 2 (some 53)) 50 3 (some 54)) 0 6 (some 50)) 55 0 (some 56)) 55 1 (some 57)) 55 2 (some 58)) 55 3 (some 59)) 0 7 (some 55)) 60 1 (some 61)) 62 1 (some 63)) 62 2 (some 64)) 62 3 (some 65)) 62 0 (some 2)) 60 0 (some 62)) 60 2 (some 55)) 0 8 (some 60)) 0 10 (some 66)) 0 13 (some 67)) 0 16 (some 68)) 69 → Q none ((aw_u (aw_u (aw_u (aw_u (aw_u I 1 0 (3 : Int32)) 1 1 (1 : Int32)) 1 2 (0 : Int32)) 0 12 (-1 : Int32)) 0 15 (-1 : Int32)), L, (aw_u (aw_u (aw_u (aw_u (aw_u (aw_u (aw_u (aw_u (aw_u (aw_u (aw_u (aw_u (aw_u (aw_u (aw_u (aw_u (aw_u (aw_u (aw_u (aw_u (aw_u (aw_u (aw_u (aw_u (aw_u (aw_u (aw_u (aw_u (aw_u (aw_u (aw_u (aw_u (aw_u (aw_u (aw_u (aw_u (aw_u (aw_u (aw_u (aw_u (aw_u (aw_u (aw_u (aw_u (aw_u (aw_u (aw_u (aw_u (aw_u (aw_u (aw_u (aw_u (aw_u (aw_u (aw_u (aw_u (aw_u (aw_u (aw_u (aw_u (aw_u (aw_u (aw_u (aw_u (aw_u (aw_u (aw_u (aw_u (aw_u (aw_u (aw_u (aw_u (aw_u R 0 0 (some 1)) 2 0 (some 3)) 0 1 (some 2)) 4 1 (some 5)) 4 2 (some 6)) 4 3 (some 7)) 4 5 (some 8)) 4 17 (some 9)) 4 18 (some 10)) 4 0 (some 1)) 0 2 (some 4)) 11 3 (some 12)) 11 4 (some 13)) 11 5 (some 14)) 11 7 (some 15)) 11 8 (some 16)) 11 9 (some 17)) 11 12 (some 18)) 11 13 (some 19)) 11 14 (some 20)) 11 15 (some 21)) 11 16 (some 22)) 0 3 (some 11)) 23 2 (some 24)) 23 3 (some 25)) 23 4 (some 26)) 23 5 (some 27)) 23 7 (some 28)) 23 0 (some 1)) 23 1 (some 4)) 0 4 (some 23)) 30 0 (some 31)) 30 1 (some 32)) 30 2 (some 33)) 30 3 (some 34)) 29 0 (some 30)) 35 0 (some 36)) 35 1 (some 37)) 35 2 (some 38)) 35 3 (some 39)) 29 1 (some 35)) 40 0 (some 41)) 40 1 (some 42)) 40 2 (some 43)) 40 3 (some 44)) 29 2 (some 40)) 45 0 (some 46)) 45 1 (some 47)) 45 2 (some 48)) 45 3 (some 49)) 29 3 (some 45)) 0 5 (some 29)) 50 0 (some 51)) 50 1 (some 52)) 50 2 (some 53)) 50 3 (some 54)) 0 6 (some 50)) 55 0 (some 56)) 55 1 (some 57)) 55 2 (some 58)) 55 3 (some 59)) 0 7 (some 55)) 60 1 (some 61)) 62 1 (some 63)) 62 2 (some 64)) 62 3 (some 65)) 62 0 (some 2)) 60 0 (some 62)) 60 2 (some 55)) 0 8 (some 60)) 0 10 (some 66)) 0 13 (some 67)) 0 16 (some 68)), 69, true)) : aw_C X (d + 3) 68 64136 y_AW_init [.ref 0] (I, L, R, 1, true) Q := by
  refine aw_C.of rfl (Nat.le_of_ble_eq_true rfl) ?_
  refine s_AW_init_0.go [some (.ref 0)] [.ref 0] (I, L, R, 1, true) rfl ?_
  refine z_objInit (idx := 3) w_78 w_79 w_80 d_AW_init_1 (Nat.le_of_ble_eq_true rfl) ?_
  refine s_AW_init_4.go [some (.ref 0)] [.ref 0] (I, L, R, 1, true) rfl ?_
  refine z_new (idx := 9) (N := 3) k_Sz gt_Sz w_81 w_82 w_54 d_AW_init_5 rfl (aw_ltn rfl) f0 (Nat.le_of_ble_eq_true rfl) (Nat.le_of_ble_eq_true rfl) (fun f1 => ?_)
  refine s_AW_init_8.go [some (.ref 0)] [.ref 1, .ref 1, .ref 0] (I, L, R, 2, true) rfl ?_
  refine z_callI (av := []) (st := [.ref 1, .ref 0]) (mc2 := 0) (ms2 := 0) ok_Sz_init rfl rfl (Or.inr ⟨"AllWays", w_83⟩) w_84 d_AW_init_9 (aw_exn rfl) rfl rfl (Nat.le_of_ble_eq_true rfl) (Nat.le_of_ble_eq_true rfl) (Nat.le_of_ble_eq_true rfl) (ci_1 (d := d + 1) f1 (fun f2 => ?_))
  show aw_Z _ _ _ _ _ _ _ _ _ _ [.ref 1, .ref 0] ((aw_u (aw_u (aw_u I 1 0 (3 : Int32)) 1 1 (1 : Int32)) 1 2 (0 : Int32)), L, R, 2, true)
  refine s_AW_init_12.go [some (.ref 0)] [.ref 0] ((aw_u (aw_u (aw_u I 1 0 (3 : Int32)) 1 1 (1 : Int32)) 1 2 (0 : Int32)), L, (aw_u R 0 0 (some 1)), 2, true) rfl ?_
  have f3 := f2.r (o := 0) (k := 0) (v := some 1) (Nat.le_of_ble_eq_true rfl)
  refine z_new (idx := 16) (N := 2) k_Tp gt_Tp w_99 w_100 w_55 d_AW_init_16 rfl (aw_ltn rfl) f3 (Nat.le_of_ble_eq_true rfl) (Nat.le_of_ble_eq_true rfl) (fun f4 => ?_)
  refine s_AW_init_19.go [some (.ref 0)] [.ref 2, .ref 2, .ref 0] ((aw_u (aw_u (aw_u I 1 0 (3 : Int32)) 1 1 (1 : Int32)) 1 2 (0 : Int32)), L, (aw_u R 0 0 (some 1)), 3, true) rfl ?_
  refine z_callI (av := []) (st := [.ref 2, .ref 0]) (mc2 := 1) (ms2 := 540) ok_Tp_init rfl rfl (Or.inr ⟨"AllWays", w_101⟩) w_102 d_AW_init_20 (aw_exn rfl) rfl rfl (Nat.le_of_ble_eq_true rfl) (Nat.le_of_ble_eq_true rfl) (Nat.le_of_ble_eq_true rfl) (ci_2 (d := d + 1) f4 (fun f5 => ?_))
  show aw_Z _ _ _ _ _ _ _ _ _ _ [.ref 2, .ref 0] ((aw_u (aw_u (aw_u I 1 0 (3 : Int32)) 1 1 (1 : Int32)) 1 2 (0 : Int32)), L, (aw_u (aw_u R 0 0 (some 1)) 2 0 (some 3)), 4, true)
  refine s_AW_init_23.go [some (.ref 0)] [.ref 0] ((aw_u (aw_u (aw_u I 1 0 (3 : Int32)) 1 1 (1 : Int32)) 1 2 (0 : Int32)), L, (aw_u (aw_u (aw_u R 0 0 (some 1)) 2 0 (some 3)) 0 1 (some 2)), 4, true) rfl ?_
  have f6 := f5.r (o := 0) (k := 1) (v := some 2) (Nat.le_of_ble_eq_true rfl)
  refine z_new (idx := 23) (N := 20) k_Mc gt_Mc w_115 w_116 w_56 d_AW_init_27 rfl (aw_ltn rfl) f6 (Nat.le_of_ble_eq_true rfl) (Nat.le_of_ble_eq_true rfl) (fun f7 => ?_)
  refine s_AW_init_30.go [some (.ref 0)] [.ref 1, .ref 4, .ref 4, .ref 0] ((aw_u (aw_u (aw_u I 1 0 (3 : Int32)) 1 1 (1 : Int32)) 1 2 (0 : Int32)), L, (aw_u (aw_u (aw_u R 0 0 (some 1)) 2 0 (some 3)) 0 1 (some 2)), 5, true) rfl ?_
  refine z_callI (av := [.ref 1]) (st := [.ref 4, .ref 0]) (mc2 := 6) (ms2 := 1145) ok_Mc_init rfl rfl (Or.inl w_117) w_118 d_AW_init_35 (aw_exn rfl) rfl rfl (Nat.le_of_ble_eq_true rfl) (Nat.le_of_ble_eq_true rfl) (Nat.le_of_ble_eq_true rfl) (ci_4 (d := d + 1) f7 (fun f8 => ?_))
  show aw_Z _ _ _ _ _ _ _ _ _ _ [.ref 4, .ref 0] ((aw_u (aw_u (aw_u I 1 0 (3 : Int32)) 1 1 (1 : Int32)) 1 2 (0 : Int32)), L, (aw_u (aw_u (aw_u (aw_u (aw_u (aw_u (aw_u (aw_u (aw_u (aw_u R 0 0 (some 1)) 2 0 (some 3)) 0 1 (some 2)) 4 1 (some 5)) 4 2 (some 6)) 4 3 (some 7)) 4 5 (some 8)) 4 17 (some 9)) 4 18 (some 10)) 4 0 (some 1)), 11, true)
  refine s_AW_init_38.go [some (.ref 0)] [.ref 0] ((aw_u (aw_u (aw_u I 1 0 (3 : Int32)) 1 1 (1 : Int32)) 1 2 (0 : Int32)), L, (aw_u (aw_u (aw_u (aw_u (aw_u (aw_u (aw_u (aw_u (aw_u (aw_u (aw_u R 0 0 (some 1)) 2 0 (some 3)) 0 1 (some 2)) 4 1 (some 5)) 4 2 (some 6)) 4 3 (some 7)) 4 5 (some 8)) 4 17 (some 9)) 4 18 (some 10)) 4 0 (some 1)) 0 2 (some 4)), 11, true) rfl ?_
  have f9 := f8.r (o := 0) (k := 2) (v := some 4) (Nat.le_of_ble_eq_true rfl)
  refine z_new (idx := 32) (N := 17) k_Wk gt_Wk w_194 w_195 w_57 d_AW_init_42 rfl (aw_ltn rfl) f9 (Nat.le_of_ble_eq_true rfl) (Nat.le_of_ble_eq_true rfl) (fun f10 => ?_)
  refine s_AW_init_45.go [some (.ref 0)] [.ref 11, .ref 11, .ref 0] ((aw_u (aw_u (aw_u I 1 0 (3 : Int32)) 1 1 (1 : Int32)) 1 2 (0 : Int32)), L, (aw_u (aw_u (aw_u (aw_u (aw_u (aw_u (aw_u (aw_u (aw_u (aw_u (aw_u R 0 0 (some 1)) 2 0 (some 3)) 0 1 (some 2)) 4 1 (some 5)) 4 2 (some 6)) 4 3 (some 7)) 4 5 (some 8)) 4 17 (some 9)) 4 18 (some 10)) 4 0 (some 1)) 0 2 (some 4)), 12, true) rfl ?_
  refine z_callI (av := []) (st := [.ref 11, .ref 0]) (mc2 := 11) (ms2 := 33112) ok_Wk_init rfl rfl (Or.inr ⟨"AllWays", w_196⟩) w_197 d_AW_init_46 (aw_exn rfl) rfl rfl (Nat.le_of_ble_eq_true rfl) (Nat.le_of_ble_eq_true rfl) (Nat.le_of_ble_eq_true rfl) (ci_11 (d := d + 1) f10 (fun f11 => ?_))
  show aw_Z _ _ _ _ _ _ _ _ _ _ [.ref 11, .ref 0] ((aw_u (aw_u (aw_u I 1 0 (3 : Int32)) 1 1 (1 : Int32)) 1 2 (0 : Int32)), L, (aw_u (aw_u (aw_u (aw_u (aw_u (aw_u (aw_u (aw_u (aw_u (aw_u (aw_u (aw_u (aw_u (aw_u (aw_u (aw_u (aw_u (aw_u (aw_u (aw_u (aw_u (aw_u R 0 0 (some 1)) 2 0 (some 3)) 0 1 (some 2)) 4 1 (some 5)) 4 2 (some 6)) 4 3 (some 7)) 4 5 (some 8)) 4 17 (some 9)) 4 18 (some 10)) 4 0 (some 1)) 0 2 (some 4)) 11 3 (some 12)) 11 4 (some 13)) 11 5 (some 14)) 11 7 (some 15)) 11 8 (some 16)) 11 9 (some 17)) 11 12 (some 18)) 11 13 (some 19)) 11 14 (some 20)) 11 15 (some 21)) 11 16 (some 22)), 23, true)
  refine s_AW_init_49.go [some (.ref 0)] [.ref 0] ((aw_u (aw_u (aw_u I 1 0 (3 : Int32)) 1 1 (1 : Int32)) 1 2 (0 : Int32)), L, (aw_u (aw_u (aw_u (aw_u (aw_u (aw_u (aw_u (aw_u (aw_u (aw_u (aw_u (aw_u (aw_u (aw_u (aw_u (aw_u (aw_u (aw_u (aw_u (aw_u (aw_u (aw_u (aw_u R 0 0 (some 1)) 2 0 (some 3)) 0 1 (some 2)) 4 1 (some 5)) 4 2 (some 6)) 4 3 (some 7)) 4 5 (some 8)) 4 17 (some 9)) 4 18 (some 10)) 4 0 (some 1)) 0 2 (some 4)) 11 3 (some 12)) 11 4 (some 13)) 11 5 (some 14)) 11 7 (some 15)) 11 8 (some 16)) 11 9 (some 17)) 11 12 (some 18)) 11 13 (some 19)) 11 14 (some 20)) 11 15 (some 21)) 11 16 (some 22)) 0 3 (some 11)), 23, true) rfl ?_
  have f12 := f11.r (o := 0) (k := 3) (v := some 11) (Nat.le_of_ble_eq_true rfl)
  refine z_new (idx := 39) (N := 9) k_Pf gt_Pf w_253 w_254 w_58 d_AW_init_53 rfl (aw_ltn rfl) f12 (Nat.le_of_ble_eq_true rfl) (Nat.le_of_ble_eq_true rfl) (fun f13 => ?_)
  refine s_AW_init_56.go [some (.ref 0)] [.ref 4, .ref 1, .ref 23, .ref 23, .ref 0] ((aw_u (aw_u (aw_u I 1 0 (3 : Int32)) 1 1 (1 : Int32)) 1 2 (0 : Int32)), L, (aw_u (aw_u (aw_u (aw_u (aw_u (aw_u (aw_u (aw_u (aw_u (aw_u (aw_u (aw_u (aw_u (aw_u (aw_u (aw_u (aw_u (aw_u (aw_u (aw_u (aw_u (aw_u (aw_u R 0 0 (some 1)) 2 0 (some 3)) 0 1 (some 2)) 4 1 (some 5)) 4 2 (some 6)) 4 3 (some 7)) 4 5 (some 8)) 4 17 (some 9)) 4 18 (some 10)) 4 0 (some 1)) 0 2 (some 4)) 11 3 (some 12)) 11 4 (some 13)) 11 5 (some 14)) 11 7 (some 15)) 11 8 (some 16)) 11 9 (some 17)) 11 12 (some 18)) 11 13 (some 19)) 11 14 (some 20)) 11 15 (some 21)) 11 16 (some 22)) 0 3 (some 11)), 24, true) rfl ?_
  refine z_callI (av := [.ref 1, .ref 4]) (st := [.ref 23, .ref 0]) (mc2 := 5) (ms2 := 20210) ok_Pf_init rfl rfl (Or.inl w_255) w_256 d_AW_init_65 (aw_exn rfl) rfl rfl (Nat.le_of_ble_eq_true rfl) (Nat.le_of_ble_eq_true rfl) (Nat.le_of_ble_eq_true rfl) (ci_23 (d := d + 1) f13 (fun f14 => ?_))
  show aw_Z _ _ _ _ _ _ _ _ _ _ [.ref 23, .ref 0] ((aw_u (aw_u (aw_u I 1 0 (3 : Int32)) 1 1 (1 : Int32)) 1 2 (0 : Int32)), L, (aw_u (aw_u (aw_u (aw_u (aw_u (aw_u (aw_u (aw_u (aw_u (aw_u (aw_u (aw_u (aw_u (aw_u (aw_u (aw_u (aw_u (aw_u (aw_u (aw_u (aw_u (aw_u (aw_u (aw_u (aw_u (aw_u (aw_u (aw_u (aw_u (aw_u R 0 0 (some 1)) 2 0 (some 3)) 0 1 (some 2)) 4 1 (some 5)) 4 2 (some 6)) 4 3 (some 7)) 4 5 (some 8)) 4 17 (some 9)) 4 18 (some 10)) 4 0 (some 1)) 0 2 (some 4)) 11 3 (some 12)) 11 4 (some 13)) 11 5 (some 14)) 11 7 (some 15)) 11 8 (some 16)) 11 9 (some 17)) 11 12 (some 18)) 11 13 (some 19)) 11 14 (some 20)) 11 15 (some 21)) 11 16 (some 22)) 0 3 (some 11)) 23 2 (some 24)) 23 3 (some 25)) 23 4 (some 26)) 23 5 (some 27)) 23 7 (some 28)) 23 0 (some 1)) 23 1 (some 4)), 29, true)
  refine s_AW_init_68.go [some (.ref 0)] [.int (4 : Int32), .ref 0] ((aw_u (aw_u (aw_u I 1 0 (3 : Int32)) 1 1 (1 : Int32)) 1 2 (0 : Int32)), L, (aw_u (aw_u (aw_u (aw_u (aw_u (aw_u (aw_u (aw_u (aw_u (aw_u (aw_u (aw_u (aw_u (aw_u (aw_u (aw_u (aw_u (aw_u (aw_u (aw_u (aw_u (aw_u (aw_u (aw_u (aw_u (aw_u (aw_u (aw_u (aw_u (aw_u (aw_u R 0 0 (some 1)) 2 0 (some 3)) 0 1 (some 2)) 4 1 (some 5)) 4 2 (some 6)) 4 3 (some 7)) 4 5 (some 8)) 4 17 (some 9)) 4 18 (some 10)) 4 0 (some 1)) 0 2 (some 4)) 11 3 (some 12)) 11 4 (some 13)) 11 5 (some 14)) 11 7 (some 15)) 11 8 (some 16)) 11 9 (some 17)) 11 12 (some 18)) 11 13 (some 19)) 11 14 (some 20)) 11 15 (some 21)) 11 16 (some 22)) 0 3 (some 11)) 23 2 (some 24)) 23 3 (some 25)) 23 4 (some 26)) 23 5 (some 27)) 23 7 (some 28)) 23 0 (some 1)) 23 1 (some 4)) 0 4 (some 23)), 29, true) rfl ?_
  have f15 := f14.r (o := 0) (k := 4) (v := some 23) (Nat.le_of_ble_eq_true rfl)
  refine z_newQ (idx := 48) (N := 4) w_285 d_AW_init_73 rfl (aw_ltn rfl) (by decide +kernel) (by decide +kernel) rfl f15 (Nat.le_of_ble_eq_true rfl) (Nat.le_of_ble_eq_true rfl) (fun f16 => ?_)
  refine s_AW_init_76.go [some (.ref 0)] [.int (0 : Int32), .ref 29, .ref 29, .ref 0] ((aw_u (aw_u (aw_u I 1 0 (3 : Int32)) 1 1 (1 : Int32)) 1 2 (0 : Int32)), L, (aw_u (aw_u (aw_u (aw_u (aw_u (aw_u (aw_u (aw_u (aw_u (aw_u (aw_u (aw_u (aw_u (aw_u (aw_u (aw_u (aw_u (aw_u (aw_u (aw_u (aw_u (aw_u (aw_u (aw_u (aw_u (aw_u (aw_u (aw_u (aw_u (aw_u (aw_u R 0 0 (some 1)) 2 0 (some 3)) 0 1 (some 2)) 4 1 (some 5)) 4 2 (some 6)) 4 3 (some 7)) 4 5 (some 8)) 4 17 (some 9)) 4 18 (some 10)) 4 0 (some 1)) 0 2 (some 4)) 11 3 (some 12)) 11 4 (some 13)) 11 5 (some 14)) 11 7 (some 15)) 11 8 (some 16)) 11 9 (some 17)) 11 12 (some 18)) 11 13 (some 19)) 11 14 (some 20)) 11 15 (some 21)) 11 16 (some 22)) 0 3 (some 11)) 23 2 (some 24)) 23 3 (some 25)) 23 4 (some 26)) 23 5 (some 27)) 23 7 (some 28)) 23 0 (some 1)) 23 1 (some 4)) 0 4 (some 23)), 30, true) rfl ?_
  refine z_new (idx := 48) (N := 11) k_Cd gt_Cd w_285 w_287 w_59 d_AW_init_78 rfl (aw_ltn rfl) f16 (Nat.le_of_ble_eq_true rfl) (Nat.le_of_ble_eq_true rfl) (fun f17 => ?_)
  refine s_AW_init_81.go [some (.ref 0)] [.ref 30, .ref 30, .int (0 : Int32), .ref 29, .ref 29, .ref 0] ((aw_u (aw_u (aw_u I 1 0 (3 : Int32)) 1 1 (1 : Int32)) 1 2 (0 : Int32)), L, (aw_u (aw_u (aw_u (aw_u (aw_u (aw_u (aw_u (aw_u (aw_u (aw_u (aw_u (aw_u (aw_u (aw_u (aw_u (aw_u (aw_u (aw_u (aw_u (aw_u (aw_u (aw_u (aw_u (aw_u (aw_u (aw_u (aw_u (aw_u (aw_u (aw_u (aw_u R 0 0 (some 1)) 2 0 (some 3)) 0 1 (some 2)) 4 1 (some 5)) 4 2 (some 6)) 4 3 (some 7)) 4 5 (some 8)) 4 17 (some 9)) 4 18 (some 10)) 4 0 (some 1)) 0 2 (some 4)) 11 3 (some 12)) 11 4 (some 13)) 11 5 (some 14)) 11 7 (some 15)) 11 8 (some 16)) 11 9 (some 17)) 11 12 (some 18)) 11 13 (some 19)) 11 14 (some 20)) 11 15 (some 21)) 11 16 (some 22)) 0 3 (some 11)) 23 2 (some 24)) 23 3 (some 25)) 23 4 (some 26)) 23 5 (some 27)) 23 7 (some 28)) 23 0 (some 1)) 23 1 (some 4)) 0 4 (some 23)), 31, true) rfl ?_
  refine z_callI (av := []) (st := [.ref 30, .int (0 : Int32), .ref 29, .ref 29, .ref 0]) (mc2 := 4) (ms2 := 1240) ok_Cd_init rfl rfl (Or.inr ⟨"AllWays", w_288⟩) w_289 d_AW_init_82 (aw_exn rfl) rfl rfl (Nat.le_of_ble_eq_true rfl) (Nat.le_of_ble_eq_true rfl) (Nat.le_of_ble_eq_true rfl) (ci_30 (d := d + 1) f17 (fun f18 => ?_))
  show aw_Z _ _ _ _ _ _ _ _ _ _ [.ref 30, .int (0 : Int32), .ref 29, .ref 29, .ref 0] ((aw_u (aw_u (aw_u I 1 0 (3 : Int32)) 1 1 (1 : Int32)) 1 2 (0 : Int32)), L, (aw_u (aw_u (aw_u (aw_u (aw_u (aw_u (aw_u (aw_u (aw_u (aw_u (aw_u (aw_u (aw_u (aw_u (aw_u (aw_u (aw_u (aw_u (aw_u (aw_u (aw_u (aw_u (aw_u (aw_u (aw_u (aw_u (aw_u (aw_u (aw_u (aw_u (aw_u (aw_u (aw_u (aw_u (aw_u R 0 0 (some 1)) 2 0 (some 3)) 0 1 (some 2)) 4 1 (some 5)) 4 2 (some 6)) 4 3 (some 7)) 4 5 (some 8)) 4 17 (some 9)) 4 18 (some 10)) 4 0 (some 1)) 0 2 (some 4)) 11 3 (some 12)) 11 4 (some 13)) 11 5 (some 14)) 11 7 (some 15)) 11 8 (some 16)) 11 9 (some 17)) 11 12 (some 18)) 11 13 (some 19)) 11 14 (some 20)) 11 15 (some 21)) 11 16 (some 22)) 0 3 (some 11)) 23 2 (some 24)) 23 3 (some 25)) 23 4 (some 26)) 23 5 (some 27)) 23 7 (some 28)) 23 0 (some 1)) 23 1 (some 4)) 0 4 (some 23)) 30 0 (some 31)) 30 1 (some 32)) 30 2 (some 33)) 30 3 (some 34)), 35, true)
  refine z_aast (n := 4) (v := 30) rfl (aw_exn rfl) rfl (aw_exn rfl) (aw_lin (by decide +kernel) (by decide +kernel)) d_AW_init_85 ?_
  have f19 := f18.r (o := 29) (k := 0) (v := some 30) (Nat.le_of_ble_eq_true rfl)
  show aw_Z _ _ _ _ _ _ _ _ _ _ [.ref 29, .ref 0] ((aw_u (aw_u (aw_u I 1 0 (3 : Int32)) 1 1 (1 : Int32)) 1 2 (0 : Int32)), L, (aw_u (aw_u (aw_u (aw_u (aw_u (aw_u (aw_u (aw_u (aw_u (aw_u (aw_u (aw_u (aw_u (aw_u (aw_u (aw_u (aw_u (aw_u (aw_u (aw_u (aw_u (aw_u (aw_u (aw_u (aw_u (aw_u (aw_u (aw_u (aw_u (aw_u (aw_u (aw_u (aw_u (aw_u (aw_u (aw_u R 0 0 (some 1)) 2 0 (some 3)) 0 1 (some 2)) 4 1 (some 5)) 4 2 (some 6)) 4 3 (some 7)) 4 5 (some 8)) 4 17 (some 9)) 4 18 (some 10)) 4 0 (some 1)) 0 2 (some 4)) 11 3 (some 12)) 11 4 (some 13)) 11 5 (some 14)) 11 7 (some 15)) 11 8 (some 16)) 11 9 (some 17)) 11 12 (some 18)) 11 13 (some 19)) 11 14 (some 20)) 11 15 (some 21)) 11 16 (some 22)) 0 3 (some 11)) 23 2 (some 24)) 23 3 (some 25)) 23 4 (some 26)) 23 5 (some 27)) 23 7 (some 28)) 23 0 (some 1)) 23 1 (some 4)) 0 4 (some 23)) 30 0 (some 31)) 30 1 (some 32)) 30 2 (some 33)) 30 3 (some 34)) 29 0 (some 30)), 35, true)
  refine s_AW_init_86.go [some (.ref 0)] [.int (1 : Int32), .ref 29, .ref 29, .ref 0] ((aw_u (aw_u (aw_u I 1 0 (3 : Int32)) 1 1 (1 : Int32)) 1 2 (0 : Int32)), L, (aw_u (aw_u (aw_u (aw_u (aw_u (aw_u (aw_u (aw_u (aw_u (aw_u (aw_u (aw_u (aw_u (aw_u (aw_u (aw_u (aw_u (aw_u (aw_u (aw_u (aw_u (aw_u (aw_u (aw_u (aw_u (aw_u (aw_u (aw_u (aw_u (aw_u (aw_u (aw_u (aw_u (aw_u (aw_u (aw_u R 0 0 (some 1)) 2 0 (some 3)) 0 1 (some 2)) 4 1 (some 5)) 4 2 (some 6)) 4 3 (some 7)) 4 5 (some 8)) 4 17 (some 9)) 4 18 (some 10)) 4 0 (some 1)) 0 2 (some 4)) 11 3 (some 12)) 11 4 (some 13)) 11 5 (some 14)) 11 7 (some 15)) 11 8 (some 16)) 11 9 (some 17)) 11 12 (some 18)) 11 13 (some 19)) 11 14 (some 20)) 11 15 (some 21)) 11 16 (some 22)) 0 3 (some 11)) 23 2 (some 24)) 23 3 (some 25)) 23 4 (some 26)) 23 5 (some 27)) 23 7 (some 28)) 23 0 (some 1)) 23 1 (some 4)) 0 4 (some 23)) 30 0 (some 31)) 30 1 (some 32)) 30 2 (some 33)) 30 3 (some 34)) 29 0 (some 30)), 35, true) rfl ?_
  refine z_new (idx := 48) (N := 11) k_Cd gt_Cd w_285 w_287 w_59 d_AW_init_88 rfl (aw_ltn rfl) f19 (Nat.le_of_ble_eq_true rfl) (Nat.le_of_ble_eq_true rfl) (fun f20 => ?_)
  refine s_AW_init_91.go [some (.ref 0)] [.ref 35, .ref 35, .int (1 : Int32), .ref 29, .ref 29, .ref 0] ((aw_u (aw_u (aw_u I 1 0 (3 : Int32)) 1 1 (1 : Int32)) 1 2 (0 : Int32)), L, (aw_u (aw_u (aw_u (aw_u (aw_u (aw_u (aw_u (aw_u (aw_u (aw_u (aw_u (aw_u (aw_u (aw_u (aw_u (aw_u (aw_u (aw_u (aw_u (aw_u (aw_u (aw_u (aw_u (aw_u (aw_u (aw_u (aw_u (aw_u (aw_u (aw_u (aw_u (aw_u (aw_u (aw_u (aw_u (aw_u R 0 0 (some 1)) 2 0 (some 3)) 0 1 (some 2)) 4 1 (some 5)) 4 2 (some 6)) 4 3 (some 7)) 4 5 (some 8)) 4 17 (some 9)) 4 18 (some 10)) 4 0 (some 1)) 0 2 (some 4)) 11 3 (some 12)) 11 4 (some 13)) 11 5 (some 14)) 11 7 (some 15)) 11 8 (some 16)) 11 9 (some 17)) 11 12 (some 18)) 11 13 (some 19)) 11 14 (some 20)) 11 15 (some 21)) 11 16 (some 22)) 0 3 (some 11)) 23 2 (some 24)) 23 3 (some 25)) 23 4 (some 26)) 23 5 (some 27)) 23 7 (some 28)) 23 0 (some 1)) 23 1 (some 4)) 0 4 (some 23)) 30 0 (some 31)) 30 1 (some 32)) 30 2 (some 33)) 30 3 (some 34)) 29 0 (some 30)), 36, true) rfl ?_
  refine z_callI (av := []) (st := [.ref 35, .int (1 : Int32), .ref 29, .ref 29, .ref 0]) (mc2 := 4) (ms2 := 1240) ok_Cd_init rfl rfl (Or.inr ⟨"AllWays", w_288⟩) w_289 d_AW_init_92 (aw_exn rfl) rfl rfl (Nat.le_of_ble_eq_true rfl) (Nat.le_of_ble_eq_true rfl) (Nat.le_of_ble_eq_true rfl) (ci_35 (d := d + 1) f20 (fun f21 => ?_))
  show aw_Z _ _ _ _ _ _ _ _ _ _ [.ref 35, .int (1 : Int32), .ref 29, .ref 29, .ref 0] ((aw_u (aw_u (aw_u I 1 0 (3 : Int32)) 1 1 (1 : Int32)) 1 2 (0 : Int32)), L, (aw_u (aw_u (aw_u (aw_u (aw_u (aw_u (aw_u (aw_u (aw_u (aw_u (aw_u (aw_u (aw_u (aw_u (aw_u (aw_u (aw_u (aw_u (aw_u (aw_u (aw_u (aw_u (aw_u (aw_u (aw_u (aw_u (aw_u (aw_u (aw_u (aw_u (aw_u (aw_u (aw_u (aw_u (aw_u (aw_u (aw_u (aw_u (aw_u (aw_u R 0 0 (some 1)) 2 0 (some 3)) 0 1 (some 2)) 4 1 (some 5)) 4 2 (some 6)) 4 3 (some 7)) 4 5 (some 8)) 4 17 (some 9)) 4 18 (some 10)) 4 0 (some 1)) 0 2 (some 4)) 11 3 (some 12)) 11 4 (some 13)) 11 5 (some 14)) 11 7 (some 15)) 11 8 (some 16)) 11 9 (some 17)) 11 12 (some 18)) 11 13 (some 19)) 11 14 (some 20)) 11 15 (some 21)) 11 16 (some 22)) 0 3 (some 11)) 23 2 (some 24)) 23 3 (some 25)) 23 4 (some 26)) 23 5 (some 27)) 23 7 (some 28)) 23 0 (some 1)) 23 1 (some 4)) 0 4 (some 23)) 30 0 (some 31)) 30 1 (some 32)) 30 2 (some 33)) 30 3 (some 34)) 29 0 (some 30)) 35 0 (some 36)) 35 1 (some 37)) 35 2 (some 38)) 35 3 (some 39)), 40, true)
  refine z_aast (n := 4) (v := 35) rfl (aw_exn rfl) rfl (aw_exn rfl) (aw_lin (by decide +kernel) (by decide +kernel)) d_AW_init_95 ?_
  have f22 := f21.r (o := 29) (k := 1) (v := some 35) (Nat.le_of_ble_eq_true rfl)
  show aw_Z _ _ _ _ _ _ _ _ _ _ [.ref 29, .ref 0] ((aw_u (aw_u (aw_u I 1 0 (3 : Int32)) 1 1 (1 : Int32)) 1 2 (0 : Int32)), L, (aw_u (aw_u (aw_u (aw_u (aw_u (aw_u (aw_u (aw_u (aw_u (aw_u (aw_u (aw_u (aw_u (aw_u (aw_u (aw_u (aw_u (aw_u (aw_u (aw_u (aw_u (aw_u (aw_u (aw_u (aw_u (aw_u (aw_u (aw_u (aw_u (aw_u (aw_u (aw_u (aw_u (aw_u (aw_u (aw_u (aw_u (aw_u (aw_u (aw_u (aw_u R 0 0 (some 1)) 2 0 (some 3)) 0 1 (some 2)) 4 1 (some 5)) 4 2 (some 6)) 4 3 (some 7)) 4 5 (some 8)) 4 17 (some 9)) 4 18 (some 10)) 4 0 (some 1)) 0 2 (some 4)) 11 3 (some 12)) 11 4 (some 13)) 11 5 (some 14)) 11 7 (some 15)) 11 8 (some 16)) 11 9 (some 17)) 11 12 (some 18)) 11 13 (some 19)) 11 14 (some 20)) 11 15 (some 21)) 11 16 (some 22)) 0 3 (some 11)) 23 2 (some 24)) 23 3 (some 25)) 23 4 (some 26)) 23 5 (some 27)) 23 7 (some 28)) 23 0 (some 1)) 23 1 (some 4)) 0 4 (some 23)) 30 0 (some 31)) 30 1 (some 32)) 30 2 (some 33)) 30 3 (some 34)) 29 0 (some 30)) 35 0 (some 36)) 35 1 (some 37)) 35 2 (some 38)) 35 3 (some 39)) 29 1 (some 35)), 40, true)
  refine s_AW_init_96.go [some (.ref 0)] [.int (2 : Int32), .ref 29, .ref 29, .ref 0] ((aw_u (aw_u (aw_u I 1 0 (3 : Int32)) 1 1 (1 : Int32)) 1 2 (0 : Int32)), L, (aw_u (aw_u (aw_u (aw_u (aw_u (aw_u (aw_u (aw_u (aw_u (aw_u (aw_u (aw_u (aw_u (aw_u (aw_u (aw_u (aw_u (aw_u (aw_u (aw_u (aw_u (aw_u (aw_u (aw_u (aw_u (aw_u (aw_u (aw_u (aw_u (aw_u (aw_u (aw_u (aw_u (aw_u (aw_u (aw_u (aw_u (aw_u (aw_u (aw_u (aw_u R 0 0 (some 1)) 2 0 (some 3)) 0 1 (some 2)) 4 1 (some 5)) 4 2 (some 6)) 4 3 (some 7)) 4 5 (some 8)) 4 17 (some 9)) 4 18 (some 10)) 4 0 (some 1)) 0 2 (some 4)) 11 3 (some 12)) 11 4 (some 13)) 11 5 (some 14)) 11 7 (some 15)) 11 8 (some 16)) 11 9 (some 17)) 11 12 (some 18)) 11 13 (some 19)) 11 14 (some 20)) 11 15 (some 21)) 11 16 (some 22)) 0 3 (some 11)) 23 2 (some 24)) 23 3 (some 25)) 23 4 (some 26)) 23 5 (some 27)) 23 7 (some 28)) 23 0 (some 1)) 23 1 (some 4)) 0 4 (some 23)) 30 0 (some 31)) 30 1 (some 32)) 30 2 (some 33)) 30 3 (some 34)) 29 0 (some 30)) 35 0 (some 36)) 35 1 (some 37)) 35 2 (some 38)) 35 3 (some 39)) 29 1 (some 35)), 40, true) rfl ?_
  refine z_new (idx := 48) (N := 11) k_Cd gt_Cd w_285 w_287 w_59 d_AW_init_98 rfl (aw_ltn rfl) f22 (Nat.le_of_ble_eq_true rfl) (Nat.le_of_ble_eq_true rfl) (fun f23 => ?_)
  refine s_AW_init_101.go [some (.ref 0)] [.ref 40, .ref 40, .int (2 : Int32), .ref 29, .ref 29, .ref 0] ((aw_u (aw_u (aw_u I 1 0 (3 : Int32)) 1 1 (1 : Int32)) 1 2 (0 : Int32)), L, (aw_u (aw_u (aw_u (aw_u (aw_u (aw_u (aw_u (aw_u (aw_u (aw_u (aw_u (aw_u (aw_u (aw_u (aw_u (aw_u (aw_u (aw_u (aw_u (aw_u (aw_u (aw_u (aw_u (aw_u (aw_u (aw_u (aw_u (aw_u (aw_u (aw_u (aw_u (aw_u (aw_u (aw_u (aw_u (aw_u (aw_u (aw_u (aw_u (aw_u (aw_u R 0 0 (some 1)) 2 0 (some 3)) 0 1 (some 2)) 4 1 (some 5)) 4 2 (some 6)) 4 3 (some 7)) 4 5 (some 8)) 4 17 (some 9)) 4 18 (some 10)) 4 0 (some 1)) 0 2 (some 4)) 11 3 (some 12)) 11 4 (some 13)) 11 5 (some 14)) 11 7 (some 15)) 11 8 (some 16)) 11 9 (some 17)) 11 12 (some 18)) 11 13 (some 19)) 11 14 (some 20)) 11 15 (some 21)) 11 16 (some 22)) 0 3 (some 11)) 23 2 (some 24)) 23 3 (some 25)) 23 4 (some 26)) 23 5 (some 27)) 23 7 (some 28)) 23 0 (some 1)) 23 1 (some 4)) 0 4 (some 23)) 30 0 (some 31)) 30 1 (some 32)) 30 2 (some 33)) 30 3 (some 34)) 29 0 (some 30)) 35 0 (some 36)) 35 1 (some 37)) 35 2 (some 38)) 35 3 (some 39)) 29 1 (some 35)), 41, true) rfl ?_
  refine z_callI (av := []) (st := [.ref 40, .int (2 : Int32), .ref 29, .ref 29, .ref 0]) (mc2 := 4) (ms2 := 1240) ok_Cd_init rfl rfl (Or.inr ⟨"AllWays", w_288⟩) w_289 d_AW_init_102 (aw_exn rfl) rfl rfl (Nat.le_of_ble_eq_true rfl) (Nat.le_of_ble_eq_true rfl) (Nat.le_of_ble_eq_true rfl) (ci_40 (d := d + 1) f23 (fun f24 => ?_))
  show aw_Z _ _ _ _ _ _ _ _ _ _ [.ref 40, .int (2 : Int32), .ref 29, .ref 29, .ref 0] ((aw_u (aw_u (aw_u I 1 0 (3 : Int32)) 1 1 (1 : Int32)) 1 2 (0 : Int32)), L, (aw_u (aw_u (aw_u (aw_u (aw_u (aw_u (aw_u (aw_u (aw_u (aw_u (aw_u (aw_u (aw_u (aw_u (aw_u (aw_u (aw_u (aw_u (aw_u (aw_u (aw_u (aw_u (aw_u (aw_u (aw_u (aw_u (aw_u (aw_u (aw_u (aw_u (aw_u (aw_u (aw_u (aw_u (aw_u (aw_u (aw_u (aw_u (aw_u (aw_u (aw_u (aw_u (aw_u (aw_u (aw_u R 0 0 (some 1)) 2 0 (some 3)) 0 1 (some 2)) 4 1 (some 5)) 4 2 (some 6)) 4 3 (some 7)) 4 5 (some 8)) 4 17 (some 9)) 4 18 (some 10)) 4 0 (some 1)) 0 2 (some 4)) 11 3 (some 12)) 11 4 (some 13)) 11 5 (some 14)) 11 7 (some 15)) 11 8 (some 16)) 11 9 (some 17)) 11 12 (some 18)) 11 13 (some 19)) 11 14 (some 20)) 11 15 (some 21)) 11 16 (some 22)) 0 3 (some 11)) 23 2 (some 24)) 23 3 (some 25)) 23 4 (some 26)) 23 5 (some 27)) 23 7 (some 28)) 23 0 (some 1)) 23 1 (some 4)) 0 4 (some 23)) 30 0 (some 31)) 30 1 (some 32)) 30 2 (some 33)) 30 3 (some 34)) 29 0 (some 30)) 35 0 (some 36)) 35 1 (some 37)) 35 2 (some 38)) 35 3 (some 39)) 29 1 (some 35)) 40 0 (some 41)) 40 1 (some 42)) 40 2 (some 43)) 40 3 (some 44)), 45, true)
  refine z_aast (n := 4) (v := 40) rfl (aw_exn rfl) rfl (aw_exn rfl) (aw_lin (by decide +kernel) (by decide +kernel)) d_AW_init_105 ?_
  have f25 := f24.r (o := 29) (k := 2) (v := some 40) (Nat.le_of_ble_eq_true rfl)
  show aw_Z _ _ _ _ _ _ _ _ _ _ [.ref 29, .ref 0] ((aw_u (aw_u (aw_u I 1 0 (3 : Int32)) 1 1 (1 : Int32)) 1 2 (0 : Int32)), L, (aw_u (aw_u (aw_u (aw_u (aw_u (aw_u (aw_u (aw_u (aw_u (aw_u (aw_u (aw_u (aw_u (aw_u (aw_u (aw_u (aw_u (aw_u (aw_u (aw_u (aw_u (aw_u (aw_u (aw_u (aw_u (aw_u (aw_u (aw_u (aw_u (aw_u (aw_u (aw_u (aw_u (aw_u (aw_u (aw_u (aw_u (aw_u (aw_u (aw_u (aw_u (aw_u (aw_u (aw_u (aw_u (aw_u R 0 0 (some 1)) 2 0 (some 3)) 0 1 (some 2)) 4 1 (some 5)) 4 2 (some 6)) 4 3 (some 7)) 4 5 (some 8)) 4 17 (some 9)) 4 18 (some 10)) 4 0 (some 1)) 0 2 (some 4)) 11 3 (some 12)) 11 4 (some 13)) 11 5 (some 14)) 11 7 (some 15)) 11 8 (some 16)) 11 9 (some 17)) 11 12 (some 18)) 11 13 (some 19)) 11 14 (some 20)) 11 15 (some 21)) 11 16 (some 22)) 0 3 (some 11)) 23 2 (some 24)) 23 3 (some 25)) 23 4 (some 26)) 23 5 (some 27)) 23 7 (some 28)) 23 0 (some 1)) 23 1 (some 4)) 0 4 (some 23)) 30 0 (some 31)) 30 1 (some 32)) 30 2 (some 33)) 30 3 (some 34)) 29 0 (some 30)) 35 0 (some 36)) 35 1 (some 37)) 35 2 (some 38)) 35 3 (some 39)) 29 1 (some 35)) 40 0 (some 41)) 40 1 (some 42)) 40 2 (some 43)) 40 3 (some 44)) 29 2 (some 40)), 45, true)
  refine s_AW_init_106.go [some (.ref 0)] [.int (3 : Int32), .ref 29, .ref 29, .ref 0] ((aw_u (aw_u (aw_u I 1 0 (3 : Int32)) 1 1 (1 : Int32)) 1 2 (0 : Int32)), L, (aw_u (aw_u (aw_u (aw_u (aw_u (aw_u (aw_u (aw_u (aw_u (aw_u (aw_u (aw_u (aw_u (aw_u (aw_u (aw_u (aw_u (aw_u (aw_u (aw_u (aw_u (aw_u (aw_u (aw_u (aw_u (aw_u (aw_u (aw_u (aw_u (aw_u (aw_u (aw_u (aw_u (aw_u (aw_u (aw_u (aw_u (aw_u (aw_u (aw_u (aw_u (aw_u (aw_u (aw_u (aw_u (aw_u R 0 0 (some 1)) 2 0 (some 3)) 0 1 (some 2)) 4 1 (some 5)) 4 2 (some 6)) 4 3 (some 7)) 4 5 (some 8)) 4 17 (some 9)) 4 18 (some 10)) 4 0 (some 1)) 0 2 (some 4)) 11 3 (some 12)) 11 4 (some 13)) 11 5 (some 14)) 11 7 (some 15)) 11 8 (some 16)) 11 9 (some 17)) 11 12 (some 18)) 11 13 (some 19)) 11 14 (some 20)) 11 15 (some 21)) 11 16 (some 22)) 0 3 (some 11)) 23 2 (some 24)) 23 3 (some 25)) 23 4 (some 26)) 23 5 (some 27)) 23 7 (some 28)) 23 0 (some 1)) 23 1 (some 4)) 0 4 (some 23)) 30 0 (some 31)) 30 1 (some 32)) 30 2 (some 33)) 30 3 (some 34)) 29 0 (some 30)) 35 0 (some 36)) 35 1 (some 37)) 35 2 (some 38)) 35 3 (some 39)) 29 1 (some 35)) 40 0 (some 41)) 40 1 (some 42)) 40 2 (some 43)) 40 3 (some 44)) 29 2 (some 40)), 45, true) rfl ?_
  refine z_new (idx := 48) (N := 11) k_Cd gt_Cd w_285 w_287 w_59 d_AW_init_108 rfl (aw_ltn rfl) f25 (Nat.le_of_ble_eq_true rfl) (Nat.le_of_ble_eq_true rfl) (fun f26 => ?_)
  refine s_AW_init_111.go [some (.ref 0)] [.ref 45, .ref 45, .int (3 : Int32), .ref 29, .ref 29, .ref 0] ((aw_u (aw_u (aw_u I 1 0 (3 : Int32)) 1 1 (1 : Int32)) 1 2 (0 : Int32)), L, (aw_u (aw_u (aw_u (aw_u (aw_u (aw_u (aw_u (aw_u (aw_u (aw_u (aw_u (aw_u (aw_u (aw_u (aw_u (aw_u (aw_u (aw_u (aw_u (aw_u (aw_u (aw_u (aw_u (aw_u (aw_u (aw_u (aw_u (aw_u (aw_u (aw_u (aw_u (aw_u (aw_u (aw_u (aw_u (aw_u (aw_u (aw_u (aw_u (aw_u (aw_u (aw_u (aw_u (aw_u (aw_u (aw_u R 0 0 (some 1)) 2 0 (some 3)) 0 1 (some 2)) 4 1 (some 5)) 4 2 (some 6)) 4 3 (some 7)) 4 5 (some 8)) 4 17 (some 9)) 4 18 (some 10)) 4 0 (some 1)) 0 2 (some 4)) 11 3 (some 12)) 11 4 (some 13)) 11 5 (some 14)) 11 7 (some 15)) 11 8 (some 16)) 11 9 (some 17)) 11 12 (some 18)) 11 13 (some 19)) 11 14 (some 20)) 11 15 (some 21)) 11 16 (some 22)) 0 3 (some 11)) 23 2 (some 24)) 23 3 (some 25)) 23 4 (some 26)) 23 5 (some 27)) 23 7 (some 28)) 23 0 (some 1)) 23 1 (some 4)) 0 4 (some 23)) 30 0 (some 31)) 30 1 (some 32)) 30 2 (some 33)) 30 3 (some 34)) 29 0 (some 30)) 35 0 (some 36)) 35 1 (some 37)) 35 2 (some 38)) 35 3 (some 39)) 29 1 (some 35)) 40 0 (some 41)) 40 1 (some 42)) 40 2 (some 43)) 40 3 (some 44)) 29 2 (some 40)), 46, true) rfl ?_
  refine z_callI (av := []) (st := [.ref 45, .int (3 : Int32), .ref 29, .ref 29, .ref 0]) (mc2 := 4) (ms2 := 1240) ok_Cd_init rfl rfl (Or.inr ⟨"AllWays", w_288⟩) w_289 d_AW_init_112 (aw_exn rfl) rfl rfl (Nat.le_of_ble_eq_true rfl) (Nat.le_of_ble_eq_true rfl) (Nat.le_of_ble_eq_true rfl) (ci_45 (d := d + 1) f26 (fun f27 => ?_))
  show aw_Z _ _ _ _ _ _ _ _ _ _ [.ref 45, .int (3 : Int32), .ref 29, .ref 29, .ref 0] ((aw_u (aw_u (aw_u I 1 0 (3 : Int32)) 1 1 (1 : Int32)) 1 2 (0 : Int32)), L, (aw_u (aw_u (aw_u (aw_u (aw_u (aw_u (aw_u (aw_u (aw_u (aw_u (aw_u (aw_u (aw_u (aw_u (aw_u (aw_u (aw_u (aw_u (aw_u (aw_u (aw_u (aw_u (aw_u (aw_u (aw_u (aw_u (aw_u (aw_u (aw_u (aw_u (aw_u (aw_u (aw_u (aw_u (aw_u (aw_u (aw_u (aw_u (aw_u (aw_u (aw_u (aw_u (aw_u (aw_u (aw_u (aw_u (aw_u (aw_u (aw_u (aw_u R 0 0 (some 1)) 2 0 (some 3)) 0 1 (some 2)) 4 1 (some 5)) 4 2 (some 6)) 4 3 (some 7)) 4 5 (some 8)) 4 17 (some 9)) 4 18 (some 10)) 4 0 (some 1)) 0 2 (some 4)) 11 3 (some 12)) 11 4 (some 13)) 11 5 (some 14)) 11 7 (some 15)) 11 8 (some 16)) 11 9 (some 17)) 11 12 (some 18)) 11 13 (some 19)) 11 14 (some 20)) 11 15 (some 21)) 11 16 (some 22)) 0 3 (some 11)) 23 2 (some 24)) 23 3 (some 25)) 23 4 (some 26)) 23 5 (some 27)) 23 7 (some 28)) 23 0 (some 1)) 23 1 (some 4)) 0 4 (some 23)) 30 0 (some 31)) 30 1 (some 32)) 30 2 (some 33)) 30 3 (some 34)) 29 0 (some 30)) 35 0 (some 36)) 35 1 (some 37)) 35 2 (some 38)) 35 3 (some 39)) 29 1 (some 35)) 40 0 (some 41)) 40 1 (some 42)) 40 2 (some 43)) 40 3 (some 44)) 29 2 (some 40)) 45 0 (some 46)) 45 1 (some 47)) 45 2 (some 48)) 45 3 (some 49)), 50, true)
  refine z_aast (n := 4) (v := 45) rfl (aw_exn rfl) rfl (aw_exn rfl) (aw_lin (by decide +kernel) (by decide +kernel)) d_AW_init_115 ?_
  have f28 := f27.r (o := 29) (k := 3) (v := some 45) (Nat.le_of_ble_eq_true rfl)
  show aw_Z _ _ _ _ _ _ _ _ _ _ [.ref 29, .ref 0] ((aw_u (aw_u (aw_u I 1 0 (3 : Int32)) 1 1 (1 : Int32)) 1 2 (0 : Int32)), L, (aw_u (aw_u (aw_u (aw_u (aw_u (aw_u (aw_u (aw_u (aw_u (aw_u (aw_u (aw_u (aw_u (aw_u (aw_u (aw_u (aw_u (aw_u (aw_u (aw_u (aw_u (aw_u (aw_u (aw_u (aw_u (aw_u (aw_u (aw_u (aw_u (aw_u (aw_u (aw_u (aw_u (aw_u (aw_u (aw_u (aw_u (aw_u (aw_u (aw_u (aw_u (aw_u (aw_u (aw_u (aw_u (aw_u (aw_u (aw_u (aw_u (aw_u (aw_u R 0 0 (some 1)) 2 0 (some 3)) 0 1 (some 2)) 4 1 (some 5)) 4 2 (some 6)) 4 3 (some 7)) 4 5 (some 8)) 4 17 (some 9)) 4 18 (some 10)) 4 0 (some 1)) 0 2 (some 4)) 11 3 (some 12)) 11 4 (some 13)) 11 5 (some 14)) 11 7 (some 15)) 11 8 (some 16)) 11 9 (some 17)) 11 12 (some 18)) 11 13 (some 19)) 11 14 (some 20)) 11 15 (some 21)) 11 16 (some 22)) 0 3 (some 11)) 23 2 (some 24)) 23 3 (some 25)) 23 4 (some 26)) 23 5 (some 27)) 23 7 (some 28)) 23 0 (some 1)) 23 1 (some 4)) 0 4 (some 23)) 30 0 (some 31)) 30 1 (some 32)) 30 2 (some 33)) 30 3 (some 34)) 29 0 (some 30)) 35 0 (some 36)) 35 1 (some 37)) 35 2 (some 38)) 35 3 (some 39)) 29 1 (some 35)) 40 0 (some 41)) 40 1 (some 42)) 40 2 (some 43)) 40 3 (some 44)) 29 2 (some 40)) 45 0 (some 46)) 45 1 (some 47)) 45 2 (some 48)) 45 3 (some 49)) 29 3 (some 45)), 50, true)
  refine s_AW_init_116.go [some (.ref 0)] [.ref 0] ((aw_u (aw_u (aw_u I 1 0 (3 : Int32)) 1 1 (1 : Int32)) 1 2 (0 : Int32)), L, (aw_u (aw_u (aw_u (aw_u (aw_u (aw_u (aw_u (aw_u (aw_u (aw_u (aw_u (aw_u (aw_u (aw_u (aw_u (aw_u (aw_u (aw_u (aw_u (aw_u (aw_u (aw_u (aw_u (aw_u (aw_u (aw_u (aw_u (aw_u (aw_u (aw_u (aw_u (aw_u (aw_u (aw_u (aw_u (aw_u (aw_u (aw_u (aw_u (aw_u (aw_u (aw_u (aw_u (aw_u (aw_u (aw_u (aw_u (aw_u (aw_u (aw_u (aw_u (aw_u R 0 0 (some 1)) 2 0 (some 3)) 0 1 (some 2)) 4 1 (some 5)) 4 2 (some 6)) 4 3 (some 7)) 4 5 (some 8)) 4 17 (some 9)) 4 18 (some 10)) 4 0 (some 1)) 0 2 (some 4)) 11 3 (some 12)) 11 4 (some 13)) 11 5 (some 14)) 11 7 (some 15)) 11 8 (some 16)) 11 9 (some 17)) 11 12 (some 18)) 11 13 (some 19)) 11 14 (some 20)) 11 15 (some 21)) 11 16 (some 22)) 0 3 (some 11)) 23 2 (some 24)) 23 3 (some 25)) 23 4 (some 26)) 23 5 (some 27)) 23 7 (some 28)) 23 0 (some 1)) 23 1 (some 4)) 0 4 (some 23)) 30 0 (some 31)) 30 1 (some 32)) 30 2 (some 33)) 30 3 (some 34)) 29 0 (some 30)) 35 0 (some 36)) 35 1 (some 37)) 35 2 (some 38)) 35 3 (some 39)) 29 1 (some 35)) 40 0 (some 41)) 40 1 (some 42)) 40 2 (some 43)) 40 3 (some 44)) 29 2 (some 40)) 45 0 (some 46)) 45 1 (some 47)) 45 2 (some 48)) 45 3 (some 49)) 29 3 (some 45)) 0 5 (some 29)), 50, true) rfl ?_
  have f29 := f28.r (o := 0) (k := 5) (v := some 29) (Nat.le_of_ble_eq_true rfl)
  refine z_new (idx := 48) (N := 11) k_Cd gt_Cd w_285 w_287 w_59 d_AW_init_120 rfl (aw_ltn rfl) f29 (Nat.le_of_ble_eq_true rfl) (Nat.le_of_ble_eq_true rfl) (fun f30 => ?_)
  refine s_AW_init_123.go [some (.ref 0)] [.ref 50, .ref 50, .ref 0] ((aw_u (aw_u (aw_u I 1 0 (3 : Int32)) 1 1 (1 : Int32)) 1 2 (0 : Int32)), L, (aw_u (aw_u (aw_u (aw_u (aw_u (aw_u (aw_u (aw_u (aw_u (aw_u (aw_u (aw_u (aw_u (aw_u (aw_u (aw_u (aw_u (aw_u (aw_u (aw_u (aw_u (aw_u (aw_u (aw_u (aw_u (aw_u (aw_u (aw_u (aw_u (aw_u (aw_u (aw_u (aw_u (aw_u (aw_u (aw_u (aw_u (aw_u (aw_u (aw_u (aw_u (aw_u (aw_u (aw_u (aw_u (aw_u (aw_u (aw_u (aw_u (aw_u (aw_u (aw_u R 0 0 (some 1)) 2 0 (some 3)) 0 1 (some 2)) 4 1 (some 5)) 4 2 (some 6)) 4 3 (some 7)) 4 5 (some 8)) 4 17 (some 9)) 4 18 (some 10)) 4 0 (some 1)) 0 2 (some 4)) 11 3 (some 12)) 11 4 (some 13)) 11 5 (some 14)) 11 7 (some 15)) 11 8 (some 16)) 11 9 (some 17)) 11 12 (some 18)) 11 13 (some 19)) 11 14 (some 20)) 11 15 (some 21)) 11 16 (some 22)) 0 3 (some 11)) 23 2 (some 24)) 23 3 (some 25)) 23 4 (some 26)) 23 5 (some 27)) 23 7 (some 28)) 23 0 (some 1)) 23 1 (some 4)) 0 4 (some 23)) 30 0 (some 31)) 30 1 (some 32)) 30 2 (some 33)) 30 3 (some 34)) 29 0 (some 30)) 35 0 (some 36)) 35 1 (some 37)) 35 2 (some 38)) 35 3 (some 39)) 29 1 (some 35)) 40 0 (some 41)) 40 1 (some 42)) 40 2 (some 43)) 40 3 (some 44)) 29 2 (some 40)) 45 0 (some 46)) 45 1 (some 47)) 45 2 (some 48)) 45 3 (some 49)) 29 3 (some 45)) 0 5 (some 29)), 51, true) rfl ?_
  refine z_callI (av := []) (st := [.ref 50, .ref 0]) (mc2 := 4) (ms2 := 1240) ok_Cd_init rfl rfl (Or.inr ⟨"AllWays", w_288⟩) w_289 d_AW_init_124 (aw_exn rfl) rfl rfl (Nat.le_of_ble_eq_true rfl) (Nat.le_of_ble_eq_true rfl) (Nat.le_of_ble_eq_true rfl) (ci_50 (d := d + 1) f30 (fun f31 => ?_))
  show aw_Z _ _ _ _ _ _ _ _ _ _ [.ref 50, .ref 0] ((aw_u (aw_u (aw_u I 1 0 (3 : Int32)) 1 1 (1 : Int32)) 1 2 (0 : Int32)), L, (aw_u (aw_u (aw_u (aw_u (aw_u (aw_u (aw_u (aw_u (aw_u (aw_u (aw_u (aw_u (aw_u (aw_u (aw_u (aw_u (aw_u (aw_u (aw_u (aw_u (aw_u (aw_u (aw_u (aw_u (aw_u (aw_u (aw_u (aw_u (aw_u (aw_u (aw_u (aw_u (aw_u (aw_u (aw_u (aw_u (aw_u (aw_u (aw_u (aw_u (aw_u (aw_u (aw_u (aw_u (aw_u (aw_u (aw_u (aw_u (aw_u (aw_u (aw_u (aw_u (aw_u (aw_u (aw_u (aw_u R 0 0 (some 1)) 2 0 (some 3)) 0 1 (some 2)) 4 1 (some 5)) 4 2 (some 6)) 4 3 (some 7)) 4 5 (some 8)) 4 17 (some 9)) 4 18 (some 10)) 4 0 (some 1)) 0 2 (some 4)) 11 3 (some 12)) 11 4 (some 13)) 11 5 (some 14)) 11 7 (some 15)) 11 8 (some 16)) 11 9 (some 17)) 11 12 (some 18)) 11 13 (some 19)) 11 14 (some 20)) 11 15 (some 21)) 11 16 (some 22)) 0 3 (some 11)) 23 2 (some 24)) 23 3 (some 25)) 23 4 (some 26)) 23 5 (some 27)) 23 7 (some 28)) 23 0 (some 1)) 23 1 (some 4)) 0 4 (some 23)) 30 0 (some 31)) 30 1 (some 32)) 30 2 (some 33)) 30 3 (some 34)) 29 0 (some 30)) 35 0 (some 36)) 35 1 (some 37)) 35 2 (some 38)) 35 3 (some 39)) 29 1 (some 35)) 40 0 (some 41)) 40 1 (some 42)) 40 2 (some 43)) 40 3 (some 44)) 29 2 (some 40)) 45 0 (some 46)) 45 1 (some 47)) 45 2 (some 48)) 45 3 (some 49)) 29 3 (some 45)) 0 5 (some 29)) 50 0 (some 51)) 50 1 (some 52)) 50 2 (some 53)) 50 3 (some 54)), 55, true)
  refine s_AW_init_127.go [some (.ref 0)] [.ref 0] ((aw_u (aw_u (aw_u I 1 0 (3 : Int32)) 1 1 (1 : Int32)) 1 2 (0 : Int32)), L, (aw_u (aw_u (aw_u (aw_u (aw_u (aw_u (aw_u (aw_u (aw_u (aw_u (aw_u (aw_u (aw_u (aw_u (aw_u (aw_u (aw_u (aw_u (aw_u (aw_u (aw_u (aw_u (aw_u (aw_u (aw_u (aw_u (aw_u (aw_u (aw_u (aw_u (aw_u (aw_u (aw_u (aw_u (aw_u (aw_u (aw_u (aw_u (aw_u (aw_u (aw_u (aw_u (aw_u (aw_u (aw_u (aw_u (aw_u (aw_u (aw_u (aw_u (aw_u (aw_u (aw_u (aw_u (aw_u (aw_u (aw_u R 0 0 (some 1)) 2 0 (some 3)) 0 1 (some 2)) 4 1 (some 5)) 4 2 (some 6)) 4 3 (some 7)) 4 5 (some 8)) 4 17 (some 9)) 4 18 (some 10)) 4 0 (some 1)) 0 2 (some 4)) 11 3 (some 12)) 11 4 (some 13)) 11 5 (some 14)) 11 7 (some 15)) 11 8 (some 16)) 11 9 (some 17)) 11 12 (some 18)) 11 13 (some 19)) 11 14 (some 20)) 11 15 (some 21)) 11 16 (some 22)) 0 3 (some 11)) 23 2 (some 24)) 23 3 (some 25)) 23 4 (some 26)) 23 5 (some 27)) 23 7 (some 28)) 23 0 (some 1)) 23 1 (some 4)) 0 4 (some 23)) 30 0 (some 31)) 30 1 (some 32)) 30 2 (some 33)) 30 3 (some 34)) 29 0 (some 30)) 35 0 (some 36)) 35 1 (some 37)) 35 2 (some 38)) 35 3 (some 39)) 29 1 (some 35)) 40 0 (some 41)) 40 1 (some 42)) 40 2 (some 43)) 40 3 (some 44)) 29 2 (some 40)) 45 0 (some 46)) 45 1 (some 47)) 45 2 (some 48)) 45 3 (some 49)) 29 3 (some 45)) 0 5 (some 29)) 50 0 (some 51)) 50 1 (some 52)) 50 2 (some 53)) 50 3 (some 54)) 0 6 (some 50)), 55, true) rfl ?_
  have f32 := f31.r (o := 0) (k := 6) (v := some 50) (Nat.le_of_ble_eq_true rfl)
  refine z_new (idx := 48) (N := 11) k_Cd gt_Cd w_285 w_287 w_59 d_AW_init_131 rfl (aw_ltn rfl) f32 (Nat.le_of_ble_eq_true rfl) (Nat.le_of_ble_eq_true rfl) (fun f33 => ?_)
  refine s_AW_init_134.go [some (.ref 0)] [.ref 55, .ref 55, .ref 0] ((aw_u (aw_u (aw_u I 1 0 (3 : Int32)) 1 1 (1 : Int32)) 1 2 (0 : Int32)), L, (aw_u (aw_u (aw_u (aw_u (aw_u (aw_u (aw_u (aw_u (aw_u (aw_u (aw_u (aw_u (aw_u (aw_u (aw_u (aw_u (aw_u (aw_u (aw_u (aw_u (aw_u (aw_u (aw_u (aw_u (aw_u (aw_u (aw_u (aw_u (aw_u (aw_u (aw_u (aw_u (aw_u (aw_u (aw_u (aw_u (aw_u (aw_u (aw_u (aw_u (aw_u (aw_u (aw_u (aw_u (aw_u (aw_u (aw_u (aw_u (aw_u (aw_u (aw_u (aw_u (aw_u (aw_u (aw_u (aw_u (aw_u R 0 0 (some 1)) 2 0 (some 3)) 0 1 (some 2)) 4 1 (some 5)) 4 2 (some 6)) 4 3 (some 7)) 4 5 (some 8)) 4 17 (some 9)) 4 18 (some 10)) 4 0 (some 1)) 0 2 (some 4)) 11 3 (some 12)) 11 4 (some 13)) 11 5 (some 14)) 11 7 (some 15)) 11 8 (some 16)) 11 9 (some 17)) 11 12 (some 18)) 11 13 (some 19)) 11 14 (some 20)) 11 15 (some 21)) 11 16 (some 22)) 0 3 (some 11)) 23 2 (some 24)) 23 3 (some 25)) 23 4 (some 26)) 23 5 (some 27)) 23 7 (some 28)) 23 0 (some 1)) 23 1 (some 4)) 0 4 (some 23)) 30 0 (some 31)) 30 1 (some 32)) 30 2 (some 33)) 30 3 (some 34)) 29 0 (some 30)) 35 0 (some 36)) 35 1 (some 37)) 35 2 (some 38)) 35 3 (some 39)) 29 1 (some 35)) 40 0 (some 41)) 40 1 (some 42)) 40 2 (some 43)) 40 3 (some 44)) 29 2 (some 40)) 45 0 (some 46)) 45 1 (some 47)) 45 2 (some 48)) 45 3 (some 49)) 29 3 (some 45)) 0 5 (some 29)) 50 0 (some 51)) 50 1 (some 52)) 50 2 (some 53)) 50 3 (some 54)) 0 6 (some 50)), 56, true) rfl ?_
  refine z_callI (av := []) (st := [.ref 55, .ref 0]) (mc2 := 4) (ms2 := 1240) ok_Cd_init rfl rfl (Or.inr ⟨"AllWays", w_288⟩) w_289 d_AW_init_135 (aw_exn rfl) rfl rfl (Nat.le_of_ble_eq_true rfl) (Nat.le_of_ble_eq_true rfl) (Nat.le_of_ble_eq_true rfl) (ci_55 (d := d + 1) f33 (fun f34 => ?_))
  show aw_Z _ _ _ _ _ _ _ _ _ _ [.ref 55, .ref 0] ((aw_u (aw_u (aw_u I 1 0 (3 : Int32)) 1 1 (1 : Int32)) 1 2 (0 : Int32)), L, (aw_u (aw_u (aw_u (aw_u (aw_u (aw_u (aw_u (aw_u (aw_u (aw_u (aw_u (aw_u (aw_u (aw_u (aw_u (aw_u (aw_u (aw_u (aw_u (aw_u (aw_u (aw_u (aw_u (aw_u (aw_u (aw_u (aw_u (aw_u (aw_u (aw_u (aw_u (aw_u (aw_u (aw_u (aw_u (aw_u (aw_u (aw_u (aw_u (aw_u (aw_u (aw_u (aw_u (aw_u (aw_u (aw_u (aw_u (aw_u (aw_u (aw_u (aw_u (aw_u (aw_u (aw_u (aw_u (aw_u (aw_u (aw_u (aw_u (aw_u (aw_u R 0 0 (some 1)) 2 0 (some 3)) 0 1 (some 2)) 4 1 (some 5)) 4 2 (some 6)) 4 3 (some 7)) 4 5 (some 8)) 4 17 (some 9)) 4 18 (some 10)) 4 0 (some 1)) 0 2 (some 4)) 11 3 (some 12)) 11 4 (some 13)) 11 5 (some 14)) 11 7 (some 15)) 11 8 (some 16)) 11 9 (some 17)) 11 12 (some 18)) 11 13 (some 19)) 11 14 (some 20)) 11 15 (some 21)) 11 16 (some 22)) 0 3 (some 11)) 23 2 (some 24)) 23 3 (some 25)) 23 4 (some 26)) 23 5 (some 27)) 23 7 (some 28)) 23 0 (some 1)) 23 1 (some 4)) 0 4 (some 23)) 30 0 (some 31)) 30 1 (some 32)) 30 2 (some 33)) 30 3 (some 34)) 29 0 (some 30)) 35 0 (some 36)) 35 1 (some 37)) 35 2 (some 38)) 35 3 (some 39)) 29 1 (some 35)) 40 0 (some 41)) 40 1 (some 42)) 40 2 (some 43)) 40 3 (some 44)) 29 2 (some 40)) 45 0 (some 46)) 45 1 (some 47)) 45 2 (some 48)) 45 3 (some 49)) 29 3 (some 45)) 0 5 (some 29)) 50 0 (some 51)) 50 1 (some 52)) 50 2 (some 53)) 50 3 (some 54)) 0 6 (some 50)) 55 0 (some 56)) 55 1 (some 57)) 55 2 (some 58)) 55 3 (some 59)), 60, true)
  refine s_AW_init_138.go [some (.ref 0)] [.ref 0] ((aw_u (aw_u (aw_u I 1 0 (3 : Int32)) 1 1 (1 : Int32)) 1 2 (0 : Int32)), L, (aw_u (aw_u (aw_u (aw_u (aw_u (aw_u (aw_u (aw_u (aw_u (aw_u (aw_u (aw_u (aw_u (aw_u (aw_u (aw_u (aw_u (aw_u (aw_u (aw_u (aw_u (aw_u (aw_u (aw_u (aw_u (aw_u (aw_u (aw_u (aw_u (aw_u (aw_u (aw_u (aw_u (aw_u (aw_u (aw_u (aw_u (aw_u (aw_u (aw_u (aw_u (aw_u (aw_u (aw_u (aw_u (aw_u (aw_u (aw_u (aw_u (aw_u (aw_u (aw_u (aw_u (aw_u (aw_u (aw_u (aw_u (aw_u (aw_u (aw_u (aw_u (aw_u R 0 0 (some 1)) 2 0 (some 3)) 0 1 (some 2)) 4 1 (some 5)) 4 2 (some 6)) 4 3 (some 7)) 4 5 (some 8)) 4 17 (some 9)) 4 18 (some 10)) 4 0 (some 1)) 0 2 (some 4)) 11 3 (some 12)) 11 4 (some 13)) 11 5 (some 14)) 11 7 (some 15)) 11 8 (some 16)) 11 9 (some 17)) 11 12 (some 18)) 11 13 (some 19)) 11 14 (some 20)) 11 15 (some 21)) 11 16 (some 22)) 0 3 (some 11)) 23 2 (some 24)) 23 3 (some 25)) 23 4 (some 26)) 23 5 (some 27)) 23 7 (some 28)) 23 0 (some 1)) 23 1 (some 4)) 0 4 (some 23)) 30 0 (some 31)) 30 1 (some 32)) 30 2 (some 33)) 30 3 (some 34)) 29 0 (some 30)) 35 0 (some 36)) 35 1 (some 37)) 35 2 (some 38)) 35 3 (some 39)) 29 1 (some 35)) 40 0 (some 41)) 40 1 (some 42)) 40 2 (some 43)) 40 3 (some 44)) 29 2 (some 40)) 45 0 (some 46)) 45 1 (some 47)) 45 2 (some 48)) 45 3 (some 49)) 29 3 (some 45)) 0 5 (some 29)) 50 0 (some 51)) 50 1 (some 52)) 50 2 (some 53)) 50 3 (some 54)) 0 6 (some 50)) 55 0 (some 56)) 55 1 (some 57)) 55 2 (some 58)) 55 3 (some 59)) 0 7 (some 55)), 60, true) rfl ?_
  have f35 := f34.r (o := 0) (k := 7) (v := some 55) (Nat.le_of_ble_eq_true rfl)
  refine z_new (idx := 62) (N := 5) k_Ps gt_Ps w_334 w_335 w_60 d_AW_init_142 rfl (aw_ltn rfl) f35 (Nat.le_of_ble_eq_true rfl) (Nat.le_of_ble_eq_true rfl) (fun f36 => ?_)
  refine s_AW_init_145.go [some (.ref 0)] [.ref 55, .ref 2, .ref 60, .ref 60, .ref 0] ((aw_u (aw_u (aw_u I 1 0 (3 : Int32)) 1 1 (1 : Int32)) 1 2 (0 : Int32)), L, (aw_u (aw_u (aw_u (aw_u (aw_u (aw_u (aw_u (aw_u (aw_u (aw_u (aw_u (aw_u (aw_u (aw_u (aw_u (aw_u (aw_u (aw_u (aw_u (aw_u (aw_u (aw_u (aw_u (aw_u (aw_u (aw_u (aw_u (aw_u (aw_u (aw_u (aw_u (aw_u (aw_u (aw_u (aw_u (aw_u (aw_u (aw_u (aw_u (aw_u (aw_u (aw_u (aw_u (aw_u (aw_u (aw_u (aw_u (aw_u (aw_u (aw_u (aw_u (aw_u (aw_u (aw_u (aw_u (aw_u (aw_u (aw_u (aw_u (aw_u (aw_u (aw_u R 0 0 (some 1)) 2 0 (some 3)) 0 1 (some 2)) 4 1 (some 5)) 4 2 (some 6)) 4 3 (some 7)) 4 5 (some 8)) 4 17 (some 9)) 4 18 (some 10)) 4 0 (some 1)) 0 2 (some 4)) 11 3 (some 12)) 11 4 (some 13)) 11 5 (some 14)) 11 7 (some 15)) 11 8 (some 16)) 11 9 (some 17)) 11 12 (some 18)) 11 13 (some 19)) 11 14 (some 20)) 11 15 (some 21)) 11 16 (some 22)) 0 3 (some 11)) 23 2 (some 24)) 23 3 (some 25)) 23 4 (some 26)) 23 5 (some 27)) 23 7 (some 28)) 23 0 (some 1)) 23 1 (some 4)) 0 4 (some 23)) 30 0 (some 31)) 30 1 (some 32)) 30 2 (some 33)) 30 3 (some 34)) 29 0 (some 30)) 35 0 (some 36)) 35 1 (some 37)) 35 2 (some 38)) 35 3 (some 39)) 29 1 (some 35)) 40 0 (some 41)) 40 1 (some 42)) 40 2 (some 43)) 40 3 (some 44)) 29 2 (some 40)) 45 0 (some 46)) 45 1 (some 47)) 45 2 (some 48)) 45 3 (some 49)) 29 3 (some 45)) 0 5 (some 29)) 50 0 (some 51)) 50 1 (some 52)) 50 2 (some 53)) 50 3 (some 54)) 0 6 (some 50)) 55 0 (some 56)) 55 1 (some 57)) 55 2 (some 58)) 55 3 (some 59)) 0 7 (some 55)), 61, true) rfl ?_
  refine z_callI (av := [.ref 2, .ref 55]) (st := [.ref 60, .ref 0]) (mc2 := 5) (ms2 := 1516) ok_Ps_init rfl rfl (Or.inl w_336) w_337 d_AW_init_154 (aw_exn rfl) rfl rfl (Nat.le_of_ble_eq_true rfl) (Nat.le_of_ble_eq_true rfl) (Nat.le_of_ble_eq_true rfl) (ci_60 (d := d + 0) f36 (fun f37 => ?_))
  show aw_Z _ _ _ _ _ _ _ _ _ _ [.ref 60, .ref 0] ((aw_u (aw_u (aw_u I 1 0 (3 : Int32)) 1 1 (1 : Int32)) 1 2 (0 : Int32)), L, (aw_u (aw_u (aw_u (aw_u (aw_u (aw_u (aw_u (aw_u (aw_u (aw_u (aw_u (aw_u (aw_u (aw_u (aw_u (aw_u (aw_u (aw_u (aw_u (aw_u (aw_u (aw_u (aw_u (aw_u (aw_u (aw_u (aw_u (aw_u (aw_u (aw_u (aw_u (aw_u (aw_u (aw_u (aw_u (aw_u (aw_u (aw_u (aw_u (aw_u (aw_u (aw_u (aw_u (aw_u (aw_u (aw_u (aw_u (aw_u (aw_u (aw_u (aw_u (aw_u (aw_u (aw_u (aw_u (aw_u (aw_u (aw_u (aw_u (aw_u (aw_u (aw_u (aw_u (aw_u (aw_u (aw_u (aw_u (aw_u (aw_u R 0 0 (some 1)) 2 0 (some 3)) 0 1 (some 2)) 4 1 (some 5)) 4 2 (some 6)) 4 3 (some 7)) 4 5 (some 8)) 4 17 (some 9)) 4 18 (some 10)) 4 0 (some 1)) 0 2 (some 4)) 11 3 (some 12)) 11 4 (some 13)) 11 5 (some 14)) 11 7 (some 15)) 11 8 (some 16)) 11 9 (some 17)) 11 12 (some 18)) 11 13 (some 19)) 11 14 (some 20)) 11 15 (some 21)) 11 16 (some 22)) 0 3 (some 11)) 23 2 (some 24)) 23 3 (some 25)) 23 4 (some 26)) 23 5 (some 27)) 23 7 (some 28)) 23 0 (some 1)) 23 1 (some 4)) 0 4 (some 23)) 30 0 (some 31)) 30 1 (some 32)) 30 2 (some 33)) 30 3 (some 34)) 29 0 (some 30)) 35 0 (some 36)) 35 1 (some 37)) 35 2 (some 38)) 35 3 (some 39)) 29 1 (some 35)) 40 0 (some 41)) 40 1 (some 42)) 40 2 (some 43)) 40 3 (some 44)) 29 2 (some 40)) 45 0 (some 46)) 45 1 (some 47)) 45 2 (some 48)) 45 3 (some 49)) 29 3 (some 45)) 0 5 (some 29)) 50 0 (some 51)) 50 1 (some 52)) 50 2 (some 53)) 50 3 (some 54)) 0 6 (some 50)) 55 0 (some 56)) 55 1 (some 57)) 55 2 (some 58)) 55 3 (some 59)) 0 7 (some 55)) 60 1 (some 61)) 62 1 (some 63)) 62 2 (some 64)) 62 3 (some 65)) 62 0 (some 2)) 60 0 (some 62)) 60 2 (some 55)), 66, true)
  refine s_AW_init_157.go [some (.ref 0)] [.int (2 : Int32), .ref 0] ((aw_u (aw_u (aw_u I 1 0 (3 : Int32)) 1 1 (1 : Int32)) 1 2 (0 : Int32)), L, (aw_u (aw_u (aw_u (aw_u (aw_u (aw_u (aw_u (aw_u (aw_u (aw_u (aw_u (aw_u (aw_u (aw_u (aw_u (aw_u (aw_u (aw_u (aw_u (aw_u (aw_u (aw_u (aw_u (aw_u (aw_u (aw_u (aw_u (aw_u (aw_u (aw_u (aw_u (aw_u (aw_u (aw_u (aw_u (aw_u (aw_u (aw_u (aw_u (aw_u (aw_u (aw_u (aw_u (aw_u (aw_u (aw_u (aw_u (aw_u (aw_u (aw_u (aw_u (aw_u (aw_u (aw_u (aw_u (aw_u (aw_u (aw_u (aw_u (aw_u (aw_u (aw_u (aw_u (aw_u (aw_u (aw_u (aw_u (aw_u (aw_u (aw_u R 0 0 (some 1)) 2 0 (some 3)) 0 1 (some 2)) 4 1 (some 5)) 4 2 (some 6)) 4 3 (some 7)) 4 5 (some 8)) 4 17 (some 9)) 4 18 (some 10)) 4 0 (some 1)) 0 2 (some 4)) 11 3 (some 12)) 11 4 (some 13)) 11 5 (some 14)) 11 7 (some 15)) 11 8 (some 16)) 11 9 (some 17)) 11 12 (some 18)) 11 13 (some 19)) 11 14 (some 20)) 11 15 (some 21)) 11 16 (some 22)) 0 3 (some 11)) 23 2 (some 24)) 23 3 (some 25)) 23 4 (some 26)) 23 5 (some 27)) 23 7 (some 28)) 23 0 (some 1)) 23 1 (some 4)) 0 4 (some 23)) 30 0 (some 31)) 30 1 (some 32)) 30 2 (some 33)) 30 3 (some 34)) 29 0 (some 30)) 35 0 (some 36)) 35 1 (some 37)) 35 2 (some 38)) 35 3 (some 39)) 29 1 (some 35)) 40 0 (some 41)) 40 1 (some 42)) 40 2 (some 43)) 40 3 (some 44)) 29 2 (some 40)) 45 0 (some 46)) 45 1 (some 47)) 45 2 (some 48)) 45 3 (some 49)) 29 3 (some 45)) 0 5 (some 29)) 50 0 (some 51)) 50 1 (some 52)) 50 2 (some 53)) 50 3 (some 54)) 0 6 (some 50)) 55 0 (some 56)) 55 1 (some 57)) 55 2 (some 58)) 55 3 (some 59)) 0 7 (some 55)) 60 1 (some 61)) 62 1 (some 63)) 62 2 (some 64)) 62 3 (some 65)) 62 0 (some 2)) 60 0 (some 62)) 60 2 (some 55)) 0 8 (some 60)), 66, true) rfl ?_
  have f38 := f37.r (o := 0) (k := 8) (v := some 60) (Nat.le_of_ble_eq_true rfl)
  refine z_newI (N := 2) w_ac_int d_AW_init_162 rfl (aw_ltn rfl) (by decide +kernel) (by decide +kernel) rfl f38 (Nat.le_of_ble_eq_true rfl) (Nat.le_of_ble_eq_true rfl) (fun f39 => ?_)
  refine s_AW_init_164.go [some (.ref 0)] [.int (28 : Int32), .ref 0] ((aw_u (aw_u (aw_u (aw_u I 1 0 (3 : Int32)) 1 1 (1 : Int32)) 1 2 (0 : Int32)) 0 12 (-1 : Int32)), L, (aw_u (aw_u (aw_u (aw_u (aw_u (aw_u (aw_u (aw_u (aw_u (aw_u (aw_u (aw_u (aw_u (aw_u (aw_u (aw_u (aw_u (aw_u (aw_u (aw_u (aw_u (aw_u (aw_u (aw_u (aw_u (aw_u (aw_u (aw_u (aw_u (aw_u (aw_u (aw_u (aw_u (aw_u (aw_u (aw_u (aw_u (aw_u (aw_u (aw_u (aw_u (aw_u (aw_u (aw_u (aw_u (aw_u (aw_u (aw_u (aw_u (aw_u (aw_u (aw_u (aw_u (aw_u (aw_u (aw_u (aw_u (aw_u (aw_u (aw_u (aw_u (aw_u (aw_u (aw_u (aw_u (aw_u (aw_u (aw_u (aw_u (aw_u (aw_u R 0 0 (some 1)) 2 0 (some 3)) 0 1 (some 2)) 4 1 (some 5)) 4 2 (some 6)) 4 3 (some 7)) 4 5 (some 8)) 4 17 (some 9)) 4 18 (some 10)) 4 0 (some 1)) 0 2 (some 4)) 11 3 (some 12)) 11 4 (some 13)) 11 5 (some 14)) 11 7 (some 15)) 11 8 (some 16)) 11 9 (some 17)) 11 12 (some 18)) 11 13 (some 19)) 11 14 (some 20)) 11 15 (some 21)) 11 16 (some 22)) 0 3 (some 11)) 23 2 (some 24)) 23 3 (some 25)) 23 4 (some 26)) 23 5 (some 27)) 23 7 (some 28)) 23 0 (some 1)) 23 1 (some 4)) 0 4 (some 23)) 30 0 (some 31)) 30 1 (some 32)) 30 2 (some 33)) 30 3 (some 34)) 29 0 (some 30)) 35 0 (some 36)) 35 1 (some 37)) 35 2 (some 38)) 35 3 (some 39)) 29 1 (some 35)) 40 0 (some 41)) 40 1 (some 42)) 40 2 (some 43)) 40 3 (some 44)) 29 2 (some 40)) 45 0 (some 46)) 45 1 (some 47)) 45 2 (some 48)) 45 3 (some 49)) 29 3 (some 45)) 0 5 (some 29)) 50 0 (some 51)) 50 1 (some 52)) 50 2 (some 53)) 50 3 (some 54)) 0 6 (some 50)) 55 0 (some 56)) 55 1 (some 57)) 55 2 (some 58)) 55 3 (some 59)) 0 7 (some 55)) 60 1 (some 61)) 62 1 (some 63)) 62 2 (some 64)) 62 3 (some 65)) 62 0 (some 2)) 60 0 (some 62)) 60 2 (some 55)) 0 8 (some 60)) 0 10 (some 66)), 67, true) rfl ?_
  have f40 := f39.r (o := 0) (k := 10) (v := some 66) (Nat.le_of_ble_eq_true rfl)
  have f41 := f40.i (o := 0) (k := 12) (v := (-1 : Int32)) (Nat.le_of_ble_eq_true rfl)
  refine z_newI (N := 28) w_ac_int d_AW_init_175 rfl (aw_ltn rfl) (by decide +kernel) (by decide +kernel) rfl f41 (Nat.le_of_ble_eq_true rfl) (Nat.le_of_ble_eq_true rfl) (fun f42 => ?_)
  refine s_AW_init_177.go [some (.ref 0)] [.int (17 : Int32), .ref 0] ((aw_u (aw_u (aw_u (aw_u (aw_u I 1 0 (3 : Int32)) 1 1 (1 : Int32)) 1 2 (0 : Int32)) 0 12 (-1 : Int32)) 0 15 (-1 : Int32)), L, (aw_u (aw_u (aw_u (aw_u (aw_u (aw_u (aw_u (aw_u (aw_u (aw_u (aw_u (aw_u (aw_u (aw_u (aw_u (aw_u (aw_u (aw_u (aw_u (aw_u (aw_u (aw_u (aw_u (aw_u (aw_u (aw_u (aw_u (aw_u (aw_u (aw_u (aw_u (aw_u (aw_u (aw_u (aw_u (aw_u (aw_u (aw_u (aw_u (aw_u (aw_u (aw_u (aw_u (aw_u (aw_u (aw_u (aw_u (aw_u (aw_u (aw_u (aw_u (aw_u (aw_u (aw_u (aw_u (aw_u (aw_u (aw_u (aw_u (aw_u (aw_u (aw_u (aw_u (aw_u (aw_u (aw_u (aw_u (aw_u (aw_u (aw_u (aw_u (aw_u R 0 0 (some 1)) 2 0 (some 3)) 0 1 (some 2)) 4 1 (some 5)) 4 2 (some 6)) 4 3 (some 7)) 4 5 (some 8)) 4 17 (some 9)) 4 18 (some 10)) 4 0 (some 1)) 0 2 (some 4)) 11 3 (some 12)) 11 4 (some 13)) 11 5 (some 14)) 11 7 (some 15)) 11 8 (some 16)) 11 9 (some 17)) 11 12 (some 18)) 11 13 (some 19)) 11 14 (some 20)) 11 15 (some 21)) 11 16 (some 22)) 0 3 (some 11)) 23 2 (some 24)) 23 3 (some 25)) 23 4 (some 26)) 23 5 (some 27)) 23 7 (some 28)) 23 0 (some 1)) 23 1 (some 4)) 0 4 (some 23)) 30 0 (some 31)) 30 1 (some 32)) 30 2 (some 33)) 30 3 (some 34)) 29 0 (some 30)) 35 0 (some 36)) 35 1 (some 37)) 35 2 (some 38)) 35 3 (some 39)) 29 1 (some 35)) 40 0 (some 41)) 40 1 (some 42)) 40 2 (some 43)) 40 3 (some 44)) 29 2 (some 40)) 45 0 (some 46)) 45 1 (some 47)) 45 2 (some 48)) 45 3 (some 49)) 29 3 (some 45)) 0 5 (some 29)) 50 0 (some 51)) 50 1 (some 52)) 50 2 (some 53)) 50 3 (some 54)) 0 6 (some 50)) 55 0 (some 56)) 55 1 (some 57)) 55 2 (some 58)) 55 3 (some 59)) 0 7 (some 55)) 60 1 (some 61)) 62 1 (some 63)) 62 2 (some 64)) 62 3 (some 65)) 62 0 (some 2)) 60 0 (some 62)) 60 2 (some 55)) 0 8 (some 60)) 0 10 (some 66)) 0 13 (some 67)), 68, true) rfl ?_
  have f43 := f42.r (o := 0) (k := 13) (v := some 67) (Nat.le_of_ble_eq_true rfl)
  have f44 := f43.i (o := 0) (k := 15) (v := (-1 : Int32)) (Nat.le_of_ble_eq_true rfl)
  refine z_newI (N := 17) w_ac_int d_AW_init_188 rfl (aw_ltn rfl) (by decide +kernel) (by decide +kernel) rfl f44 (Nat.le_of_ble_eq_true rfl) (Nat.le_of_ble_eq_true rfl) (fun f45 => ?_)
  refine s_AW_init_190.go [some (.ref 0)] [] ((aw_u (aw_u (aw_u (aw_u (aw_u I 1 0 (3 : Int32)) 1 1 (1 : Int32)) 1 2 (0 : Int32)) 0 12 (-1 : Int32)) 0 15 (-1 : Int32)), L, (aw_u (aw_u (aw_u (aw_u (aw_u (aw_u (aw_u (aw_u (aw_u (aw_u (aw_u (aw_u (aw_u (aw_u (aw_u (aw_u (aw_u (aw_u (aw_u (aw_u (aw_u (aw_u (aw_u (aw_u (aw_u (aw_u (aw_u (aw_u (aw_u (aw_u (aw_u (aw_u (aw_u (aw_u (aw_u (aw_u (aw_u (aw_u (aw_u (aw_u (aw_u (aw_u (aw_u (aw_u (aw_u (aw_u (aw_u (aw_u (aw_u (aw_u (aw_u (aw_u (aw_u (aw_u (aw_u (aw_u (aw_u (aw_u (aw_u (aw_u (aw_u (aw_u (aw_u (aw_u (aw_u (aw_u (aw_u (aw_u (aw_u (aw_u (aw_u (aw_u (aw_u R 0 0 (some 1)) 2 0 (some 3)) 0 1 (some 2)) 4 1 (some 5)) 4 2 (some 6)) 4 3 (some 7)) 4 5 (some 8)) 4 17 (some 9)) 4 18 (some 10)) 4 0 (some 1)) 0 2 (some 4)) 11 3 (some 12)) 11 4 (some 13)) 11 5 (some 14)) 11 7 (some 15)) 11 8 (some 16)) 11 9 (some 17)) 11 12 (some 18)) 11 13 (some 19)) 11 14 (some 20)) 11 15 (some 21)) 11 16 (some 22)) 0 3 (some 11)) 23 2 (some 24)) 23 3 (some 25)) 23 4 (some 26)) 23 5 (some 27)) 23 7 (some 28)) 23 0 (some 1)) 23 1 (some 4)) 0 4 (some 23)) 30 0 (some 31)) 30 1 (some 32)) 30 2 (some 33)) 30 3 (some 34)) 29 0 (some 30)) 35 0 (some 36)) 35 1 (some 37)) 35 2 (some 38)) 35 3 (some 39)) 29 1 (some 35)) 40 0 (some 41)) 40 1 (some 42)) 40 2 (some 43)) 40 3 (some 44)) 29 2 (some 40)) 45 0 (some 46)) 45 1 (some 47)) 45 2 (some 48)) 45 3 (some 49)) 29 3 (some 45)) 0 5 (some 29)) 50 0 (some 51)) 50 1 (some 52)) 50 2 (some 53)) 50 3 (some 54)) 0 6 (some 50)) 55 0 (some 56)) 55 1 (some 57)) 55 2 (some 58)) 55 3 (some 59)) 0 7 (some 55)) 60 1 (some 61)) 62 1 (some 63)) 62 2 (some 64)) 62 3 (some 65)) 62 0 (some 2)) 60 0 (some 62)) 60 2 (some 55)) 0 8 (some 60)) 0 10 (some 66)) 0 13 (some 67)) 0 16 (some 68)), 69, true) rfl ?_
  have f46 := f45.r (o := 0) (k := 16) (v := some 68) (Nat.le_of_ble_eq_true rfl)
  exact z_vret d_AW_init_193 rfl (hQ f46)
