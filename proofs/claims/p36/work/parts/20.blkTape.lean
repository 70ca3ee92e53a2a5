/-! by gen_blk.py (genall.py) -/
/-! Tp_cut -/
theorem d_Tp_cut_0 : decode y_Tp_cut.2.1 0 = .ok (.iload_n 1, 1) := by decide +kernel
theorem s_Tp_cut_0 : aw_VS y_Tp_cut 0 [o_ild 1] 1 := .cons (v_iload_n (i := 1) d_Tp_cut_0 rfl) .nil
theorem d_Tp_cut_1 : decode y_Tp_cut.2.1 1 = .ok (.ifCond .lt (11), 3) := by decide +kernel
theorem d_Tp_cut_12 : decode y_Tp_cut.2.1 12 = .ok (.iconst 0, 1) := by decide +kernel
theorem s_Tp_cut_12 : aw_VS y_Tp_cut 12 [o_c (.int (0 : Int32))] 13 := .cons (v_iconst (v := (0 : Int32)) d_Tp_cut_12 (by decide +kernel)) .nil
theorem d_Tp_cut_13 : decode y_Tp_cut.2.1 13 = .ok (.ireturn, 1) := by decide +kernel
theorem d_Tp_cut_4 : decode y_Tp_cut.2.1 4 = .ok (.iload_n 1, 1) := by decide +kernel
theorem d_Tp_cut_5 : decode y_Tp_cut.2.1 5 = .ok (.aload_n 0, 1) := by decide +kernel
theorem d_Tp_cut_6 : decode y_Tp_cut.2.1 6 = .ok (.getfield 15, 3) := by decide +kernel
theorem s_Tp_cut_4 : aw_VS y_Tp_cut 4 [o_ild 1, o_ald 0, o_getI 2 1] 9 := .cons (v_iload_n (i := 1) d_Tp_cut_4 rfl) (.cons (v_aload_n (i := 0) d_Tp_cut_5 rfl) (.cons (v_getI (k := 1) k_Tp (by decide) (Or.inl rfl) (Or.inl w_106) d_Tp_cut_6) .nil))
theorem d_Tp_cut_9 : decode y_Tp_cut.2.1 9 = .ok (.if_icmp .le (5), 3) := by decide +kernel
theorem d_Tp_cut_14 : decode y_Tp_cut.2.1 14 = .ok (.aload_n 0, 1) := by decide +kernel
theorem d_Tp_cut_15 : decode y_Tp_cut.2.1 15 = .ok (.iload_n 1, 1) := by decide +kernel
theorem d_Tp_cut_16 : decode y_Tp_cut.2.1 16 = .ok (.putfield 15, 3) := by decide +kernel
theorem d_Tp_cut_19 : decode y_Tp_cut.2.1 19 = .ok (.iconst 1, 1) := by decide +kernel
theorem s_Tp_cut_14 : aw_VS y_Tp_cut 14 [o_ald 0, o_ild 1, o_putI 2 1, o_c (.int (1 : Int32))] 20 := .cons (v_aload_n (i := 0) d_Tp_cut_14 rfl) (.cons (v_iload_n (i := 1) d_Tp_cut_15 rfl) (.cons (v_putI (k := 1) k_Tp (by decide) rfl (Or.inl ⟨rfl, Or.inl w_106⟩) d_Tp_cut_16) (.cons (v_iconst (v := (1 : Int32)) d_Tp_cut_19 (by decide +kernel)) .nil)))
theorem d_Tp_cut_20 : decode y_Tp_cut.2.1 20 = .ok (.ireturn, 1) := by decide +kernel
theorem b_Tp_cut_0 {X : aw_X} {d : Nat} {Q : Option Value → aw_H → Prop} {I : Nat → Nat → Int32} {L : Nat → Nat → Int64} {D : Nat → Nat} {v1 : Int32}
    (h1 : v1 < 0 → Q (some (.int (0 : Int32))) (aw_s I L D))
    (h2 : ¬ v1 < 0 → v1 ≤ (I 2 1) → Q (some (.int (1 : Int32))) (aw_s (aw_u I 2 1 v1) L D))
    (h3 : ¬ v1 < 0 → ¬ v1 ≤ (I 2 1) → Q (some (.int (0 : Int32))) (aw_s I L D)) :
    aw_z X d y_Tp_cut Q 0 [some (.ref 2), some (.int v1)] [] (aw_s I L D) :=
  (s_Tp_cut_0.go [some (.ref 2), some (.int v1)] [.int v1] (aw_s I L D) rfl (z_if_lt (tgt := 12) d_Tp_cut_1 rfl (fun q1 => (s_Tp_cut_12.go [some (.ref 2), some (.int v1)] [.int (0 : Int32)] (aw_s I L D) rfl (z_iret d_Tp_cut_13 rfl (aw_nz (by decide +kernel)) (h1 q1)))) (fun q2 => (s_Tp_cut_4.go [some (.ref 2), some (.int v1)] [.int (I 2 1), .int v1] (aw_s I L D) rfl (z_icmp_le (tgt := 14) d_Tp_cut_9 rfl (fun q3 => (s_Tp_cut_14.go [some (.ref 2), some (.int v1)] [.int (1 : Int32)] (aw_s (aw_u I 2 1 v1) L D) rfl (z_iret d_Tp_cut_20 rfl (aw_nz (by decide +kernel)) (h2 q2 q3)))) (fun q4 => (s_Tp_cut_12.go [some (.ref 2), some (.int v1)] [.int (0 : Int32)] (aw_s I L D) rfl (z_iret d_Tp_cut_13 rfl (aw_nz (by decide +kernel)) (h3 q2 q4)))))))))
/-! Tp_byteAt -/
theorem d_Tp_byteAt_0 : decode y_Tp_byteAt.2.1 0 = .ok (.iload_n 1, 1) := by decide +kernel
theorem s_Tp_byteAt_0 : aw_VS y_Tp_byteAt 0 [o_ild 1] 1 := .cons (v_iload_n (i := 1) d_Tp_byteAt_0 rfl) .nil
theorem d_Tp_byteAt_1 : decode y_Tp_byteAt.2.1 1 = .ok (.ifCond .lt (29), 3) := by decide +kernel
theorem d_Tp_byteAt_30 : decode y_Tp_byteAt.2.1 30 = .ok (.iconst (-1), 1) := by decide +kernel
theorem s_Tp_byteAt_30 : aw_VS y_Tp_byteAt 30 [o_c (.int (-1 : Int32))] 31 := .cons (v_iconst (v := (-1 : Int32)) d_Tp_byteAt_30 (by decide +kernel)) .nil
theorem d_Tp_byteAt_31 : decode y_Tp_byteAt.2.1 31 = .ok (.ireturn, 1) := by decide +kernel
theorem d_Tp_byteAt_4 : decode y_Tp_byteAt.2.1 4 = .ok (.iload_n 1, 1) := by decide +kernel
theorem d_Tp_byteAt_5 : decode y_Tp_byteAt.2.1 5 = .ok (.aload_n 0, 1) := by decide +kernel
theorem d_Tp_byteAt_6 : decode y_Tp_byteAt.2.1 6 = .ok (.getfield 15, 3) := by decide +kernel
theorem s_Tp_byteAt_4 : aw_VS y_Tp_byteAt 4 [o_ild 1, o_ald 0, o_getI 2 1] 9 := .cons (v_iload_n (i := 1) d_Tp_byteAt_4 rfl) (.cons (v_aload_n (i := 0) d_Tp_byteAt_5 rfl) (.cons (v_getI (k := 1) k_Tp (by decide) (Or.inl rfl) (Or.inl w_106) d_Tp_byteAt_6) .nil))
theorem d_Tp_byteAt_9 : decode y_Tp_byteAt.2.1 9 = .ok (.if_icmp .ge (21), 3) := by decide +kernel
theorem d_Tp_byteAt_12 : decode y_Tp_byteAt.2.1 12 = .ok (.iload_n 1, 1) := by decide +kernel
theorem d_Tp_byteAt_13 : decode y_Tp_byteAt.2.1 13 = .ok (.aload_n 0, 1) := by decide +kernel
theorem d_Tp_byteAt_14 : decode y_Tp_byteAt.2.1 14 = .ok (.getfield 9, 3) := by decide +kernel
theorem d_Tp_byteAt_17 : decode y_Tp_byteAt.2.1 17 = .ok (.arraylength, 1) := by decide +kernel
theorem s_Tp_byteAt_12 : aw_VS y_Tp_byteAt 12 [o_ild 1, o_ald 0, o_getA 2 0, o_alen] 18 := .cons (v_iload_n (i := 1) d_Tp_byteAt_12 rfl) (.cons (v_aload_n (i := 0) d_Tp_byteAt_13 rfl) (.cons (v_getA (k := 0) k_Tp (by decide) rfl (Or.inl w_105) d_Tp_byteAt_14) (.cons (v_alen d_Tp_byteAt_17) .nil)))
theorem d_Tp_byteAt_18 : decode y_Tp_byteAt.2.1 18 = .ok (.if_icmp .ge (12), 3) := by decide +kernel
theorem d_Tp_byteAt_21 : decode y_Tp_byteAt.2.1 21 = .ok (.aload_n 0, 1) := by decide +kernel
theorem d_Tp_byteAt_22 : decode y_Tp_byteAt.2.1 22 = .ok (.getfield 9, 3) := by decide +kernel
theorem d_Tp_byteAt_25 : decode y_Tp_byteAt.2.1 25 = .ok (.iload_n 1, 1) := by decide +kernel
theorem s_Tp_byteAt_21 : aw_VS y_Tp_byteAt 21 [o_ald 0, o_getA 2 0, o_ild 1] 26 := .cons (v_aload_n (i := 0) d_Tp_byteAt_21 rfl) (.cons (v_getA (k := 0) k_Tp (by decide) rfl (Or.inl w_105) d_Tp_byteAt_22) (.cons (v_iload_n (i := 1) d_Tp_byteAt_25 rfl) .nil))
theorem d_Tp_byteAt_26 : decode y_Tp_byteAt.2.1 26 = .ok (.iaload, 1) := by decide +kernel
theorem d_Tp_byteAt_27 : decode y_Tp_byteAt.2.1 27 = .ok (.goto (4), 3) := by decide +kernel
theorem b_Tp_byteAt_0 {X : aw_X} {d : Nat} {Q : Option Value → aw_H → Prop} {I : Nat → Nat → Int32} {L : Nat → Nat → Int64} {D : Nat → Nat} {v1 : Int32}
    (h1 : v1 < 0 → Q (some (.int (-1 : Int32))) (aw_s I L D))
    (h2 : ¬ v1 < 0 → (I 2 1) ≤ v1 → Q (some (.int (-1 : Int32))) (aw_s I L D))
    (h3 : ¬ v1 < 0 → ¬ (I 2 1) ≤ v1 → (540 : Int32) ≤ v1 → Q (some (.int (-1 : Int32))) (aw_s I L D))
    (h4 : ¬ v1 < 0 → ¬ (I 2 1) ≤ v1 → ¬ (540 : Int32) ≤ v1 → vp_in v1 540)
    (h5 : ¬ v1 < 0 → ¬ (I 2 1) ≤ v1 → ¬ (540 : Int32) ≤ v1 → Q (some (.int (I 3 v1.toNatClampNeg))) (aw_s I L D)) :
    aw_z X d y_Tp_byteAt Q 0 [some (.ref 2), some (.int v1)] [] (aw_s I L D) :=
  (s_Tp_byteAt_0.go [some (.ref 2), some (.int v1)] [.int v1] (aw_s I L D) rfl (z_if_lt (tgt := 30) d_Tp_byteAt_1 rfl (fun q1 => (s_Tp_byteAt_30.go [some (.ref 2), some (.int v1)] [.int (-1 : Int32)] (aw_s I L D) rfl (z_iret d_Tp_byteAt_31 rfl rfl (h1 q1)))) (fun q2 => (s_Tp_byteAt_4.go [some (.ref 2), some (.int v1)] [.int (I 2 1), .int v1] (aw_s I L D) rfl (z_icmp_ge (tgt := 30) d_Tp_byteAt_9 rfl (fun q3 => (s_Tp_byteAt_30.go [some (.ref 2), some (.int v1)] [.int (-1 : Int32)] (aw_s I L D) rfl (z_iret d_Tp_byteAt_31 rfl rfl (h2 q2 q3)))) (fun q4 => (s_Tp_byteAt_12.go [some (.ref 2), some (.int v1)] [.int (540 : Int32), .int v1] (aw_s I L D) rfl (z_icmp_ge (tgt := 30) d_Tp_byteAt_18 rfl (fun q5 => (s_Tp_byteAt_30.go [some (.ref 2), some (.int v1)] [.int (-1 : Int32)] (aw_s I L D) rfl (z_iret d_Tp_byteAt_31 rfl rfl (h3 q2 q4 q5)))) (fun q6 => (s_Tp_byteAt_21.go [some (.ref 2), some (.int v1)] [.int v1, .ref 3] (aw_s I L D) rfl (z_iald (n := 540) rfl (aw_lt (o := 3) rfl) (h4 q2 q4 q6) d_Tp_byteAt_26 (z_goto (tgt := 31) d_Tp_byteAt_27 rfl (z_iret d_Tp_byteAt_31 rfl rfl (h5 q2 q4 q6))))))))))))))
/-! Tp_hasRoomFor -/
theorem d_Tp_hasRoomFor_0 : decode y_Tp_hasRoomFor.2.1 0 = .ok (.aload_n 0, 1) := by decide +kernel
theorem d_Tp_hasRoomFor_1 : decode y_Tp_hasRoomFor.2.1 1 = .ok (.getfield 15, 3) := by decide +kernel
theorem d_Tp_hasRoomFor_4 : decode y_Tp_hasRoomFor.2.1 4 = .ok (.iload_n 1, 1) := by decide +kernel
theorem d_Tp_hasRoomFor_5 : decode y_Tp_hasRoomFor.2.1 5 = .ok (.iadd, 1) := by decide +kernel
theorem d_Tp_hasRoomFor_6 : decode y_Tp_hasRoomFor.2.1 6 = .ok (.aload_n 0, 1) := by decide +kernel
theorem d_Tp_hasRoomFor_7 : decode y_Tp_hasRoomFor.2.1 7 = .ok (.getfield 9, 3) := by decide +kernel
theorem d_Tp_hasRoomFor_10 : decode y_Tp_hasRoomFor.2.1 10 = .ok (.arraylength, 1) := by decide +kernel
theorem s_Tp_hasRoomFor_0 : aw_VS y_Tp_hasRoomFor 0 [o_ald 0, o_getI 2 1, o_ild 1, o_i2 (fun x z => x + z), o_ald 0, o_getA 2 0, o_alen] 11 := .cons (v_aload_n (i := 0) d_Tp_hasRoomFor_0 rfl) (.cons (v_getI (k := 1) k_Tp (by decide) (Or.inl rfl) (Or.inl w_106) d_Tp_hasRoomFor_1) (.cons (v_iload_n (i := 1) d_Tp_hasRoomFor_4 rfl) (.cons (v_iadd d_Tp_hasRoomFor_5) (.cons (v_aload_n (i := 0) d_Tp_hasRoomFor_6 rfl) (.cons (v_getA (k := 0) k_Tp (by decide) rfl (Or.inl w_105) d_Tp_hasRoomFor_7) (.cons (v_alen d_Tp_hasRoomFor_10) .nil))))))
theorem d_Tp_hasRoomFor_11 : decode y_Tp_hasRoomFor.2.1 11 = .ok (.if_icmp .gt (7), 3) := by decide +kernel
theorem d_Tp_hasRoomFor_18 : decode y_Tp_hasRoomFor.2.1 18 = .ok (.iconst 0, 1) := by decide +kernel
theorem s_Tp_hasRoomFor_18 : aw_VS y_Tp_hasRoomFor 18 [o_c (.int (0 : Int32))] 19 := .cons (v_iconst (v := (0 : Int32)) d_Tp_hasRoomFor_18 (by decide +kernel)) .nil
theorem d_Tp_hasRoomFor_19 : decode y_Tp_hasRoomFor.2.1 19 = .ok (.ireturn, 1) := by decide +kernel
theorem d_Tp_hasRoomFor_14 : decode y_Tp_hasRoomFor.2.1 14 = .ok (.iconst 1, 1) := by decide +kernel
theorem s_Tp_hasRoomFor_14 : aw_VS y_Tp_hasRoomFor 14 [o_c (.int (1 : Int32))] 15 := .cons (v_iconst (v := (1 : Int32)) d_Tp_hasRoomFor_14 (by decide +kernel)) .nil
theorem d_Tp_hasRoomFor_15 : decode y_Tp_hasRoomFor.2.1 15 = .ok (.goto (4), 3) := by decide +kernel
theorem b_Tp_hasRoomFor_0 {X : aw_X} {d : Nat} {Q : Option Value → aw_H → Prop} {I : Nat → Nat → Int32} {L : Nat → Nat → Int64} {D : Nat → Nat} {v1 : Int32}
    (h1 : (540 : Int32) < ((I 2 1) + v1) → Q (some (.int (0 : Int32))) (aw_s I L D))
    (h2 : ¬ (540 : Int32) < ((I 2 1) + v1) → Q (some (.int (1 : Int32))) (aw_s I L D)) :
    aw_z X d y_Tp_hasRoomFor Q 0 [some (.ref 2), some (.int v1)] [] (aw_s I L D) :=
  (s_Tp_hasRoomFor_0.go [some (.ref 2), some (.int v1)] [.int (540 : Int32), .int ((I 2 1) + v1)] (aw_s I L D) rfl (z_icmp_gt (tgt := 18) d_Tp_hasRoomFor_11 rfl (fun q1 => (s_Tp_hasRoomFor_18.go [some (.ref 2), some (.int v1)] [.int (0 : Int32)] (aw_s I L D) rfl (z_iret d_Tp_hasRoomFor_19 rfl (aw_nz (by decide +kernel)) (h1 q1)))) (fun q2 => (s_Tp_hasRoomFor_14.go [some (.ref 2), some (.int v1)] [.int (1 : Int32)] (aw_s I L D) rfl (z_goto (tgt := 19) d_Tp_hasRoomFor_15 rfl (z_iret d_Tp_hasRoomFor_19 rfl (aw_nz (by decide +kernel)) (h2 q2)))))))
/-! Tp_append -/
theorem d_Tp_append_0 : decode y_Tp_append.2.1 0 = .ok (.bipush 24, 2) := by decide +kernel
theorem d_Tp_append_2 : decode y_Tp_append.2.1 2 = .ok (.istore_n 2, 1) := by decide +kernel
theorem s_Tp_append_0 : aw_VS y_Tp_append 0 [o_c (.int (24 : Int32)), o_ist 2] 3 := .cons (v_bipush (v := (24 : Int32)) d_Tp_append_0 (by decide +kernel)) (.cons (v_istore_n d_Tp_append_2) .nil)
theorem b_Tp_append_0 {X : aw_X} {d : Nat} {Q : Option Value → aw_H → Prop} {I : Nat → Nat → Int32} {L : Nat → Nat → Int64} {D : Nat → Nat} {v1 : Int32}
    (h1 : aw_z X d y_Tp_append Q 3 [some (.ref 2), some (.int v1), some (.int (24 : Int32))] [] (aw_s I L D)) :
    aw_z X d y_Tp_append Q 0 [some (.ref 2), some (.int v1), none] [] (aw_s I L D) :=
  (s_Tp_append_0.go [some (.ref 2), some (.int v1), some (.int (24 : Int32))] [] (aw_s I L D) rfl (h1))
theorem d_Tp_append_3 : decode y_Tp_append.2.1 3 = .ok (.iload_n 2, 1) := by decide +kernel
theorem s_Tp_append_3 : aw_VS y_Tp_append 3 [o_ild 2] 4 := .cons (v_iload_n (i := 2) d_Tp_append_3 rfl) .nil
theorem d_Tp_append_4 : decode y_Tp_append.2.1 4 = .ok (.ifCond .lt (54), 3) := by decide +kernel
theorem d_Tp_append_58 : decode y_Tp_append.2.1 58 = .ok (.return_, 1) := by decide +kernel
theorem d_Tp_append_7 : decode y_Tp_append.2.1 7 = .ok (.aload_n 0, 1) := by decide +kernel
theorem d_Tp_append_8 : decode y_Tp_append.2.1 8 = .ok (.getfield 15, 3) := by decide +kernel
theorem s_Tp_append_7 : aw_VS y_Tp_append 7 [o_ald 0, o_getI 2 1] 11 := .cons (v_aload_n (i := 0) d_Tp_append_7 rfl) (.cons (v_getI (k := 1) k_Tp (by decide) (Or.inl rfl) (Or.inl w_106) d_Tp_append_8) .nil)
theorem d_Tp_append_11 : decode y_Tp_append.2.1 11 = .ok (.ifCond .lt (41), 3) := by decide +kernel
theorem d_Tp_append_52 : decode y_Tp_append.2.1 52 = .ok (.iinc 2 (-8), 3) := by decide +kernel
theorem s_Tp_append_52 : aw_VS y_Tp_append 52 [o_inc 2 (-8 : Int32)] 55 := .cons (v_iinc (k0 := (-8 : Int32)) d_Tp_append_52 (by decide +kernel)) .nil
theorem d_Tp_append_55 : decode y_Tp_append.2.1 55 = .ok (.goto (-52), 3) := by decide +kernel
theorem d_Tp_append_14 : decode y_Tp_append.2.1 14 = .ok (.aload_n 0, 1) := by decide +kernel
theorem d_Tp_append_15 : decode y_Tp_append.2.1 15 = .ok (.getfield 15, 3) := by decide +kernel
theorem d_Tp_append_18 : decode y_Tp_append.2.1 18 = .ok (.aload_n 0, 1) := by decide +kernel
theorem d_Tp_append_19 : decode y_Tp_append.2.1 19 = .ok (.getfield 9, 3) := by decide +kernel
theorem d_Tp_append_22 : decode y_Tp_append.2.1 22 = .ok (.arraylength, 1) := by decide +kernel
theorem s_Tp_append_14 : aw_VS y_Tp_append 14 [o_ald 0, o_getI 2 1, o_ald 0, o_getA 2 0, o_alen] 23 := .cons (v_aload_n (i := 0) d_Tp_append_14 rfl) (.cons (v_getI (k := 1) k_Tp (by decide) (Or.inl rfl) (Or.inl w_106) d_Tp_append_15) (.cons (v_aload_n (i := 0) d_Tp_append_18 rfl) (.cons (v_getA (k := 0) k_Tp (by decide) rfl (Or.inl w_105) d_Tp_append_19) (.cons (v_alen d_Tp_append_22) .nil))))
theorem d_Tp_append_23 : decode y_Tp_append.2.1 23 = .ok (.if_icmp .ge (29), 3) := by decide +kernel
theorem d_Tp_append_26 : decode y_Tp_append.2.1 26 = .ok (.aload_n 0, 1) := by decide +kernel
theorem d_Tp_append_27 : decode y_Tp_append.2.1 27 = .ok (.getfield 9, 3) := by decide +kernel
theorem d_Tp_append_30 : decode y_Tp_append.2.1 30 = .ok (.aload_n 0, 1) := by decide +kernel
theorem d_Tp_append_31 : decode y_Tp_append.2.1 31 = .ok (.getfield 15, 3) := by decide +kernel
theorem d_Tp_append_34 : decode y_Tp_append.2.1 34 = .ok (.iload_n 1, 1) := by decide +kernel
theorem d_Tp_append_35 : decode y_Tp_append.2.1 35 = .ok (.iload_n 2, 1) := by decide +kernel
theorem d_Tp_append_36 : decode y_Tp_append.2.1 36 = .ok (.iushr, 1) := by decide +kernel
theorem d_Tp_append_37 : decode y_Tp_append.2.1 37 = .ok (.sipush 255, 3) := by decide +kernel
theorem d_Tp_append_40 : decode y_Tp_append.2.1 40 = .ok (.iand, 1) := by decide +kernel
theorem s_Tp_append_26 : aw_VS y_Tp_append 26 [o_ald 0, o_getA 2 0, o_ald 0, o_getI 2 1, o_ild 1, o_ild 2, o_i2 (fun x z => (x.toUInt32 >>> (z.toUInt32 &&& Int32.toUInt32 31)).toInt32), o_c (.int (255 : Int32)), o_i2 (fun x z => x &&& z)] 41 := .cons (v_aload_n (i := 0) d_Tp_append_26 rfl) (.cons (v_getA (k := 0) k_Tp (by decide) rfl (Or.inl w_105) d_Tp_append_27) (.cons (v_aload_n (i := 0) d_Tp_append_30 rfl) (.cons (v_getI (k := 1) k_Tp (by decide) (Or.inl rfl) (Or.inl w_106) d_Tp_append_31) (.cons (v_iload_n (i := 1) d_Tp_append_34 rfl) (.cons (v_iload_n (i := 2) d_Tp_append_35 rfl) (.cons (v_iushr d_Tp_append_36) (.cons (v_sipush (v := (255 : Int32)) d_Tp_append_37 (by decide +kernel)) (.cons (v_iand d_Tp_append_40) .nil))))))))
theorem d_Tp_append_41 : decode y_Tp_append.2.1 41 = .ok (.iastore, 1) := by decide +kernel
theorem d_Tp_append_42 : decode y_Tp_append.2.1 42 = .ok (.aload_n 0, 1) := by decide +kernel
theorem d_Tp_append_43 : decode y_Tp_append.2.1 43 = .ok (.dup, 1) := by decide +kernel
theorem d_Tp_append_44 : decode y_Tp_append.2.1 44 = .ok (.getfield 15, 3) := by decide +kernel
theorem d_Tp_append_47 : decode y_Tp_append.2.1 47 = .ok (.iconst 1, 1) := by decide +kernel
theorem d_Tp_append_48 : decode y_Tp_append.2.1 48 = .ok (.iadd, 1) := by decide +kernel
theorem d_Tp_append_49 : decode y_Tp_append.2.1 49 = .ok (.putfield 15, 3) := by decide +kernel
theorem s_Tp_append_42 : aw_VS y_Tp_append 42 [o_ald 0, o_dup, o_getI 2 1, o_c (.int (1 : Int32)), o_i2 (fun x z => x + z), o_putI 2 1] 52 := .cons (v_aload_n (i := 0) d_Tp_append_42 rfl) (.cons (v_dup d_Tp_append_43) (.cons (v_getI (k := 1) k_Tp (by decide) (Or.inl rfl) (Or.inl w_106) d_Tp_append_44) (.cons (v_iconst (v := (1 : Int32)) d_Tp_append_47 (by decide +kernel)) (.cons (v_iadd d_Tp_append_48) (.cons (v_putI (k := 1) k_Tp (by decide) rfl (Or.inl ⟨rfl, Or.inl w_106⟩) d_Tp_append_49) .nil)))))
theorem b_Tp_append_3 {X : aw_X} {d : Nat} {Q : Option Value → aw_H → Prop} {I : Nat → Nat → Int32} {L : Nat → Nat → Int64} {D : Nat → Nat} {v1 : Int32} {v2 : Int32}
    (h1 : v2 < 0 → Q none (aw_s I L D))
    (h2 : ¬ v2 < 0 → (I 2 1) < 0 → aw_z X d y_Tp_append Q 3 [some (.ref 2), some (.int v1), some (.int (v2 + (-8 : Int32)))] [] (aw_s I L D))
    (h3 : ¬ v2 < 0 → ¬ (I 2 1) < 0 → (540 : Int32) ≤ (I 2 1) → aw_z X d y_Tp_append Q 3 [some (.ref 2), some (.int v1), some (.int (v2 + (-8 : Int32)))] [] (aw_s I L D))
    (h4 : ¬ v2 < 0 → ¬ (I 2 1) < 0 → ¬ (540 : Int32) ≤ (I 2 1) → vp_in (I 2 1) 540)
    (h5 : ¬ v2 < 0 → ¬ (I 2 1) < 0 → ¬ (540 : Int32) ≤ (I 2 1) → aw_z X d y_Tp_append Q 3 [some (.ref 2), some (.int v1), some (.int (v2 + (-8 : Int32)))] [] (aw_s (aw_u (aw_u I 3 ((I 2 1).toNatClampNeg) (((v1.toUInt32 >>> (v2.toUInt32 &&& Int32.toUInt32 31)).toInt32) &&& (255 : Int32))) 2 1 ((I 2 1) + (1 : Int32))) L D)) :
    aw_z X d y_Tp_append Q 3 [some (.ref 2), some (.int v1), some (.int v2)] [] (aw_s I L D) :=
  (s_Tp_append_3.go [some (.ref 2), some (.int v1), some (.int v2)] [.int v2] (aw_s I L D) rfl (z_if_lt (tgt := 58) d_Tp_append_4 rfl (fun q1 => (z_vret d_Tp_append_58 rfl (h1 q1))) (fun q2 => (s_Tp_append_7.go [some (.ref 2), some (.int v1), some (.int v2)] [.int (I 2 1)] (aw_s I L D) rfl (z_if_lt (tgt := 52) d_Tp_append_11 rfl (fun q3 => (s_Tp_append_52.go [some (.ref 2), some (.int v1), some (.int (v2 + (-8 : Int32)))] [] (aw_s I L D) rfl (z_goto (tgt := 3) d_Tp_append_55 rfl (h2 q2 q3)))) (fun q4 => (s_Tp_append_14.go [some (.ref 2), some (.int v1), some (.int v2)] [.int (540 : Int32), .int (I 2 1)] (aw_s I L D) rfl (z_icmp_ge (tgt := 52) d_Tp_append_23 rfl (fun q5 => (s_Tp_append_52.go [some (.ref 2), some (.int v1), some (.int (v2 + (-8 : Int32)))] [] (aw_s I L D) rfl (z_goto (tgt := 3) d_Tp_append_55 rfl (h3 q2 q4 q5)))) (fun q6 => (s_Tp_append_26.go [some (.ref 2), some (.int v1), some (.int v2)] [.int (((v1.toUInt32 >>> (v2.toUInt32 &&& Int32.toUInt32 31)).toInt32) &&& (255 : Int32)), .int (I 2 1), .ref 3] (aw_s I L D) rfl (z_iast (n := 540) rfl (aw_lt (o := 3) rfl) (h4 q2 q4 q6) d_Tp_append_41 (s_Tp_append_42.go [some (.ref 2), some (.int v1), some (.int v2)] [] (aw_s (aw_u (aw_u I 3 ((I 2 1).toNatClampNeg) (((v1.toUInt32 >>> (v2.toUInt32 &&& Int32.toUInt32 31)).toInt32) &&& (255 : Int32))) 2 1 ((I 2 1) + (1 : Int32))) L D) rfl (s_Tp_append_52.go [some (.ref 2), some (.int v1), some (.int (v2 + (-8 : Int32)))] [] (aw_s (aw_u (aw_u I 3 ((I 2 1).toNatClampNeg) (((v1.toUInt32 >>> (v2.toUInt32 &&& Int32.toUInt32 31)).toInt32) &&& (255 : Int32))) 2 1 ((I 2 1) + (1 : Int32))) L D) rfl (z_goto (tgt := 3) d_Tp_append_55 rfl (h5 q2 q4 q6)))))))))))))))
/-! Sz_change -/
theorem d_Sz_change_0 : decode y_Sz_change.2.1 0 = .ok (.iload_n 1, 1) := by decide +kernel
theorem d_Sz_change_1 : decode y_Sz_change.2.1 1 = .ok (.iconst 2, 1) := by decide +kernel
theorem s_Sz_change_0 : aw_VS y_Sz_change 0 [o_ild 1, o_c (.int (2 : Int32))] 2 := .cons (v_iload_n (i := 1) d_Sz_change_0 rfl) (.cons (v_iconst (v := (2 : Int32)) d_Sz_change_1 (by decide +kernel)) .nil)
theorem d_Sz_change_2 : decode y_Sz_change.2.1 2 = .ok (.if_icmp .lt (32), 3) := by decide +kernel
theorem d_Sz_change_5 : decode y_Sz_change.2.1 5 = .ok (.iload_n 1, 1) := by decide +kernel
theorem d_Sz_change_6 : decode y_Sz_change.2.1 6 = .ok (.bipush 6, 2) := by decide +kernel
theorem s_Sz_change_5 : aw_VS y_Sz_change 5 [o_ild 1, o_c (.int (6 : Int32))] 8 := .cons (v_iload_n (i := 1) d_Sz_change_5 rfl) (.cons (v_bipush (v := (6 : Int32)) d_Sz_change_6 (by decide +kernel)) .nil)
theorem d_Sz_change_8 : decode y_Sz_change.2.1 8 = .ok (.if_icmp .gt (26), 3) := by decide +kernel
theorem d_Sz_change_11 : decode y_Sz_change.2.1 11 = .ok (.iload_n 2, 1) := by decide +kernel
theorem d_Sz_change_12 : decode y_Sz_change.2.1 12 = .ok (.iconst 1, 1) := by decide +kernel
theorem s_Sz_change_11 : aw_VS y_Sz_change 11 [o_ild 2, o_c (.int (1 : Int32))] 13 := .cons (v_iload_n (i := 2) d_Sz_change_11 rfl) (.cons (v_iconst (v := (1 : Int32)) d_Sz_change_12 (by decide +kernel)) .nil)
theorem d_Sz_change_13 : decode y_Sz_change.2.1 13 = .ok (.if_icmp .lt (21), 3) := by decide +kernel
theorem d_Sz_change_16 : decode y_Sz_change.2.1 16 = .ok (.iload_n 2, 1) := by decide +kernel
theorem d_Sz_change_17 : decode y_Sz_change.2.1 17 = .ok (.iconst 3, 1) := by decide +kernel
theorem s_Sz_change_16 : aw_VS y_Sz_change 16 [o_ild 2, o_c (.int (3 : Int32))] 18 := .cons (v_iload_n (i := 2) d_Sz_change_16 rfl) (.cons (v_iconst (v := (3 : Int32)) d_Sz_change_17 (by decide +kernel)) .nil)
theorem d_Sz_change_18 : decode y_Sz_change.2.1 18 = .ok (.if_icmp .gt (16), 3) := by decide +kernel
theorem d_Sz_change_21 : decode y_Sz_change.2.1 21 = .ok (.iload_n 3, 1) := by decide +kernel
theorem s_Sz_change_21 : aw_VS y_Sz_change 21 [o_ild 3] 22 := .cons (v_iload_n (i := 3) d_Sz_change_21 rfl) .nil
theorem d_Sz_change_22 : decode y_Sz_change.2.1 22 = .ok (.ifCond .lt (12), 3) := by decide +kernel
theorem d_Sz_change_25 : decode y_Sz_change.2.1 25 = .ok (.iload_n 3, 1) := by decide +kernel
theorem d_Sz_change_26 : decode y_Sz_change.2.1 26 = .ok (.iconst 2, 1) := by decide +kernel
theorem s_Sz_change_25 : aw_VS y_Sz_change 25 [o_ild 3, o_c (.int (2 : Int32))] 27 := .cons (v_iload_n (i := 3) d_Sz_change_25 rfl) (.cons (v_iconst (v := (2 : Int32)) d_Sz_change_26 (by decide +kernel)) .nil)
theorem d_Sz_change_27 : decode y_Sz_change.2.1 27 = .ok (.if_icmp .gt (7), 3) := by decide +kernel
theorem d_Sz_change_30 : decode y_Sz_change.2.1 30 = .ok (.iconst 1, 1) := by decide +kernel
theorem s_Sz_change_30 : aw_VS y_Sz_change 30 [o_c (.int (1 : Int32))] 31 := .cons (v_iconst (v := (1 : Int32)) d_Sz_change_30 (by decide +kernel)) .nil
theorem d_Sz_change_31 : decode y_Sz_change.2.1 31 = .ok (.goto (4), 3) := by decide +kernel
theorem b_Sz_change_0 {X : aw_X} {d : Nat} {Q : Option Value → aw_H → Prop} {I : Nat → Nat → Int32} {L : Nat → Nat → Int64} {D : Nat → Nat} {v1 : Int32} {v2 : Int32} {v3 : Int32}
    (h1 : v1 < (2 : Int32) → aw_z X d y_Sz_change Q 34 [some (.ref 1), some (.int v1), some (.int v2), some (.int v3), none] [] (aw_s I L D))
    (h2 : ¬ v1 < (2 : Int32) → (6 : Int32) < v1 → aw_z X d y_Sz_change Q 34 [some (.ref 1), some (.int v1), some (.int v2), some (.int v3), none] [] (aw_s I L D))
    (h3 : ¬ v1 < (2 : Int32) → ¬ (6 : Int32) < v1 → v2 < (1 : Int32) → aw_z X d y_Sz_change Q 34 [some (.ref 1), some (.int v1), some (.int v2), some (.int v3), none] [] (aw_s I L D))
    (h4 : ¬ v1 < (2 : Int32) → ¬ (6 : Int32) < v1 → ¬ v2 < (1 : Int32) → (3 : Int32) < v2 → aw_z X d y_Sz_change Q 34 [some (.ref 1), some (.int v1), some (.int v2), some (.int v3), none] [] (aw_s I L D))
    (h5 : ¬ v1 < (2 : Int32) → ¬ (6 : Int32) < v1 → ¬ v2 < (1 : Int32) → ¬ (3 : Int32) < v2 → v3 < 0 → aw_z X d y_Sz_change Q 34 [some (.ref 1), some (.int v1), some (.int v2), some (.int v3), none] [] (aw_s I L D))
    (h6 : ¬ v1 < (2 : Int32) → ¬ (6 : Int32) < v1 → ¬ v2 < (1 : Int32) → ¬ (3 : Int32) < v2 → ¬ v3 < 0 → (2 : Int32) < v3 → aw_z X d y_Sz_change Q 34 [some (.ref 1), some (.int v1), some (.int v2), some (.int v3), none] [] (aw_s I L D))
    (h7 : ¬ v1 < (2 : Int32) → ¬ (6 : Int32) < v1 → ¬ v2 < (1 : Int32) → ¬ (3 : Int32) < v2 → ¬ v3 < 0 → ¬ (2 : Int32) < v3 → aw_z X d y_Sz_change Q 35 [some (.ref 1), some (.int v1), some (.int v2), some (.int v3), none] [.int (1 : Int32)] (aw_s I L D)) :
    aw_z X d y_Sz_change Q 0 [some (.ref 1), some (.int v1), some (.int v2), some (.int v3), none] [] (aw_s I L D) :=
  (s_Sz_change_0.go [some (.ref 1), some (.int v1), some (.int v2), some (.int v3), none] [.int (2 : Int32), .int v1] (aw_s I L D) rfl (z_icmp_lt (tgt := 34) d_Sz_change_2 rfl (fun q1 => (h1 q1)) (fun q2 => (s_Sz_change_5.go [some (.ref 1), some (.int v1), some (.int v2), some (.int v3), none] [.int (6 : Int32), .int v1] (aw_s I L D) rfl (z_icmp_gt (tgt := 34) d_Sz_change_8 rfl (fun q3 => (h2 q2 q3)) (fun q4 => (s_Sz_change_11.go [some (.ref 1), some (.int v1), some (.int v2), some (.int v3), none] [.int (1 : Int32), .int v2] (aw_s I L D) rfl (z_icmp_lt (tgt := 34) d_Sz_change_13 rfl (fun q5 => (h3 q2 q4 q5)) (fun q6 => (s_Sz_change_16.go [some (.ref 1), some (.int v1), some (.int v2), some (.int v3), none] [.int (3 : Int32), .int v2] (aw_s I L D) rfl (z_icmp_gt (tgt := 34) d_Sz_change_18 rfl (fun q7 => (h4 q2 q4 q6 q7)) (fun q8 => (s_Sz_change_21.go [some (.ref 1), some (.int v1), some (.int v2), some (.int v3), none] [.int v3] (aw_s I L D) rfl (z_if_lt (tgt := 34) d_Sz_change_22 rfl (fun q9 => (h5 q2 q4 q6 q8 q9)) (fun q10 => (s_Sz_change_25.go [some (.ref 1), some (.int v1), some (.int v2), some (.int v3), none] [.int (2 : Int32), .int v3] (aw_s I L D) rfl (z_icmp_gt (tgt := 34) d_Sz_change_27 rfl (fun q11 => (h6 q2 q4 q6 q8 q10 q11)) (fun q12 => (s_Sz_change_30.go [some (.ref 1), some (.int v1), some (.int v2), some (.int v3), none] [.int (1 : Int32)] (aw_s I L D) rfl (z_goto (tgt := 35) d_Sz_change_31 rfl (h7 q2 q4 q6 q8 q10 q12)))))))))))))))))))))
theorem d_Sz_change_34 : decode y_Sz_change.2.1 34 = .ok (.iconst 0, 1) := by decide +kernel
theorem s_Sz_change_34 : aw_VS y_Sz_change 34 [o_c (.int (0 : Int32))] 35 := .cons (v_iconst (v := (0 : Int32)) d_Sz_change_34 (by decide +kernel)) .nil
theorem b_Sz_change_34 {X : aw_X} {d : Nat} {Q : Option Value → aw_H → Prop} {I : Nat → Nat → Int32} {L : Nat → Nat → Int64} {D : Nat → Nat} {v1 : Int32} {v2 : Int32} {v3 : Int32}
    (h1 : aw_z X d y_Sz_change Q 35 [some (.ref 1), some (.int v1), some (.int v2), some (.int v3), none] [.int (0 : Int32)] (aw_s I L D)) :
    aw_z X d y_Sz_change Q 34 [some (.ref 1), some (.int v1), some (.int v2), some (.int v3), none] [] (aw_s I L D) :=
  (s_Sz_change_34.go [some (.ref 1), some (.int v1), some (.int v2), some (.int v3), none] [.int (0 : Int32)] (aw_s I L D) rfl (h1))
theorem d_Sz_change_35 : decode y_Sz_change.2.1 35 = .ok (.istore 4, 2) := by decide +kernel
theorem d_Sz_change_37 : decode y_Sz_change.2.1 37 = .ok (.iload 4, 2) := by decide +kernel
theorem s_Sz_change_35 : aw_VS y_Sz_change 35 [o_ist 4, o_ild 4] 39 := .cons (v_istore d_Sz_change_35) (.cons (v_iload (i := 4) d_Sz_change_37) .nil)
theorem d_Sz_change_39 : decode y_Sz_change.2.1 39 = .ok (.ifCond .eq (13), 3) := by decide +kernel
theorem d_Sz_change_52 : decode y_Sz_change.2.1 52 = .ok (.iconst 0, 1) := by decide +kernel
theorem s_Sz_change_52 : aw_VS y_Sz_change 52 [o_c (.int (0 : Int32))] 53 := .cons (v_iconst (v := (0 : Int32)) d_Sz_change_52 (by decide +kernel)) .nil
theorem d_Sz_change_53 : decode y_Sz_change.2.1 53 = .ok (.ireturn, 1) := by decide +kernel
theorem d_Sz_change_42 : decode y_Sz_change.2.1 42 = .ok (.iload_n 1, 1) := by decide +kernel
theorem d_Sz_change_43 : decode y_Sz_change.2.1 43 = .ok (.iload_n 2, 1) := by decide +kernel
theorem d_Sz_change_44 : decode y_Sz_change.2.1 44 = .ok (.iload_n 3, 1) := by decide +kernel
theorem d_Sz_change_45 : decode y_Sz_change.2.1 45 = .ok (.iadd, 1) := by decide +kernel
theorem d_Sz_change_46 : decode y_Sz_change.2.1 46 = .ok (.imul, 1) := by decide +kernel
theorem d_Sz_change_47 : decode y_Sz_change.2.1 47 = .ok (.bipush 12, 2) := by decide +kernel
theorem s_Sz_change_42 : aw_VS y_Sz_change 42 [o_ild 1, o_ild 2, o_ild 3, o_i2 (fun x z => x + z), o_i2 (fun x z => x * z), o_c (.int (12 : Int32))] 49 := .cons (v_iload_n (i := 1) d_Sz_change_42 rfl) (.cons (v_iload_n (i := 2) d_Sz_change_43 rfl) (.cons (v_iload_n (i := 3) d_Sz_change_44 rfl) (.cons (v_iadd d_Sz_change_45) (.cons (v_imul d_Sz_change_46) (.cons (v_bipush (v := (12 : Int32)) d_Sz_change_47 (by decide +kernel)) .nil)))))
theorem d_Sz_change_49 : decode y_Sz_change.2.1 49 = .ok (.if_icmp .le (5), 3) := by decide +kernel
theorem d_Sz_change_54 : decode y_Sz_change.2.1 54 = .ok (.aload_n 0, 1) := by decide +kernel
theorem d_Sz_change_55 : decode y_Sz_change.2.1 55 = .ok (.iload_n 1, 1) := by decide +kernel
theorem d_Sz_change_56 : decode y_Sz_change.2.1 56 = .ok (.putfield 9, 3) := by decide +kernel
theorem d_Sz_change_59 : decode y_Sz_change.2.1 59 = .ok (.aload_n 0, 1) := by decide +kernel
theorem d_Sz_change_60 : decode y_Sz_change.2.1 60 = .ok (.iload_n 2, 1) := by decide +kernel
theorem d_Sz_change_61 : decode y_Sz_change.2.1 61 = .ok (.putfield 15, 3) := by decide +kernel
theorem d_Sz_change_64 : decode y_Sz_change.2.1 64 = .ok (.aload_n 0, 1) := by decide +kernel
theorem d_Sz_change_65 : decode y_Sz_change.2.1 65 = .ok (.iload_n 3, 1) := by decide +kernel
theorem d_Sz_change_66 : decode y_Sz_change.2.1 66 = .ok (.putfield 18, 3) := by decide +kernel
theorem d_Sz_change_69 : decode y_Sz_change.2.1 69 = .ok (.iconst 1, 1) := by decide +kernel
theorem s_Sz_change_54 : aw_VS y_Sz_change 54 [o_ald 0, o_ild 1, o_putI 1 0, o_ald 0, o_ild 2, o_putI 1 1, o_ald 0, o_ild 3, o_putI 1 2, o_c (.int (1 : Int32))] 70 := .cons (v_aload_n (i := 0) d_Sz_change_54 rfl) (.cons (v_iload_n (i := 1) d_Sz_change_55 rfl) (.cons (v_putI (k := 0) k_Sz (by decide) rfl (Or.inl ⟨rfl, Or.inl w_87⟩) d_Sz_change_56) (.cons (v_aload_n (i := 0) d_Sz_change_59 rfl) (.cons (v_iload_n (i := 2) d_Sz_change_60 rfl) (.cons (v_putI (k := 1) k_Sz (by decide) rfl (Or.inl ⟨rfl, Or.inl w_89⟩) d_Sz_change_61) (.cons (v_aload_n (i := 0) d_Sz_change_64 rfl) (.cons (v_iload_n (i := 3) d_Sz_change_65 rfl) (.cons (v_putI (k := 2) k_Sz (by decide) rfl (Or.inl ⟨rfl, Or.inl w_91⟩) d_Sz_change_66) (.cons (v_iconst (v := (1 : Int32)) d_Sz_change_69 (by decide +kernel)) .nil)))))))))
theorem d_Sz_change_70 : decode y_Sz_change.2.1 70 = .ok (.ireturn, 1) := by decide +kernel
theorem b_Sz_change_35 {X : aw_X} {d : Nat} {Q : Option Value → aw_H → Prop} {I : Nat → Nat → Int32} {L : Nat → Nat → Int64} {D : Nat → Nat} {v1 : Int32} {v2 : Int32} {v3 : Int32} {s0 : Int32}
    (h1 : s0 = 0 → Q (some (.int (0 : Int32))) (aw_s I L D))
    (h2 : ¬ s0 = 0 → (v1 * (v2 + v3)) ≤ (12 : Int32) → Q (some (.int (1 : Int32))) (aw_s (aw_u (aw_u (aw_u I 1 0 v1) 1 1 v2) 1 2 v3) L D))
    (h3 : ¬ s0 = 0 → ¬ (v1 * (v2 + v3)) ≤ (12 : Int32) → Q (some (.int (0 : Int32))) (aw_s I L D)) :
    aw_z X d y_Sz_change Q 35 [some (.ref 1), some (.int v1), some (.int v2), some (.int v3), none] [.int s0] (aw_s I L D) :=
  (s_Sz_change_35.go [some (.ref 1), some (.int v1), some (.int v2), some (.int v3), some (.int s0)] [.int s0] (aw_s I L D) rfl (z_if_eq (tgt := 52) d_Sz_change_39 rfl (fun q1 => (s_Sz_change_52.go [some (.ref 1), some (.int v1), some (.int v2), some (.int v3), some (.int s0)] [.int (0 : Int32)] (aw_s I L D) rfl (z_iret d_Sz_change_53 rfl (aw_nz (by decide +kernel)) (h1 q1)))) (fun q2 => (s_Sz_change_42.go [some (.ref 1), some (.int v1), some (.int v2), some (.int v3), some (.int s0)] [.int (12 : Int32), .int (v1 * (v2 + v3))] (aw_s I L D) rfl (z_icmp_le (tgt := 54) d_Sz_change_49 rfl (fun q3 => (s_Sz_change_54.go [some (.ref 1), some (.int v1), some (.int v2), some (.int v3), some (.int s0)] [.int (1 : Int32)] (aw_s (aw_u (aw_u (aw_u I 1 0 v1) 1 1 v2) 1 2 v3) L D) rfl (z_iret d_Sz_change_70 rfl (aw_nz (by decide +kernel)) (h2 q2 q3)))) (fun q4 => (s_Sz_change_52.go [some (.ref 1), some (.int v1), some (.int v2), some (.int v3), some (.int s0)] [.int (0 : Int32)] (aw_s I L D) rfl (z_iret d_Sz_change_53 rfl (aw_nz (by decide +kernel)) (h3 q2 q4)))))))))
/-! Sz_rows -/
theorem d_Sz_rows_0 : decode y_Sz_rows.2.1 0 = .ok (.iconst 1, 1) := by decide +kernel
theorem d_Sz_rows_1 : decode y_Sz_rows.2.1 1 = .ok (.aload_n 0, 1) := by decide +kernel
theorem s_Sz_rows_0 : aw_VS y_Sz_rows 0 [o_c (.int (1 : Int32)), o_ald 0] 2 := .cons (v_iconst (v := (1 : Int32)) d_Sz_rows_0 (by decide +kernel)) (.cons (v_aload_n (i := 0) d_Sz_rows_1 rfl) .nil)
theorem d_Sz_rows_2 : decode y_Sz_rows.2.1 2 = .ok (.invokevirtual 21, 3) := by decide +kernel
theorem b_Sz_rows_0 {X : aw_X} {d : Nat} {Q : Option Value → aw_H → Prop} {I : Nat → Nat → Int32} {L : Nat → Nat → Int64} {D : Nat → Nat} 
    (h1 : aw_m X d y_Sz_rowBits [.ref 1] (aw_s I L D) (fun r A => aw_z X (d + 1) y_Sz_rows Q 5 [none] (r.toList ++ [.int (1 : Int32)]) A)) :
    aw_z X (d + 1) y_Sz_rows Q 0 [some (.ref 1)] [] (aw_s I L D) :=
  (s_Sz_rows_0.go [some (.ref 1)] [.ref 1, .int (1 : Int32)] (aw_s I L D) rfl (z_callV (av := []) (st := [.int (1 : Int32)]) ok_Sz_rowBits (Or.inl w_768) w_769 w_770 k_Sz d_Sz_rows_2 rfl (aw_lt (o := 1) rfl) rfl rfl (Nat.le_of_ble_eq_true rfl) (Nat.le_refl _) (Nat.le_refl _) (aw_C.mono (h1) (fun _ _ zz => aw_Z.weak (ls' := [none]) zz (Nat.le_of_ble_eq_true rfl) ⟨Or.inl rfl, trivial⟩))))
theorem d_Sz_rows_5 : decode y_Sz_rows.2.1 5 = .ok (.ishl, 1) := by decide +kernel
theorem s_Sz_rows_5 : aw_VS y_Sz_rows 5 [o_i2 (fun x z => x <<< (z &&& 31))] 6 := .cons (v_ishl d_Sz_rows_5) .nil
theorem d_Sz_rows_6 : decode y_Sz_rows.2.1 6 = .ok (.ireturn, 1) := by decide +kernel
theorem b_Sz_rows_5 {X : aw_X} {d : Nat} {Q : Option Value → aw_H → Prop} {I : Nat → Nat → Int32} {L : Nat → Nat → Int64} {D : Nat → Nat} {s1 : Int32} {s0 : Int32}
    (h1 : Q (some (.int (s0 <<< (s1 &&& 31)))) (aw_s I L D)) :
    aw_z X (d + 1) y_Sz_rows Q 5 [none] [.int s1, .int s0] (aw_s I L D) :=
  (s_Sz_rows_5.go [none] [.int (s0 <<< (s1 &&& 31))] (aw_s I L D) rfl (z_iret d_Sz_rows_6 rfl rfl (h1)))
/-! Sz_rowBits -/
theorem d_Sz_rowBits_0 : decode y_Sz_rowBits.2.1 0 = .ok (.aload_n 0, 1) := by decide +kernel
theorem d_Sz_rowBits_1 : decode y_Sz_rowBits.2.1 1 = .ok (.getfield 9, 3) := by decide +kernel
theorem d_Sz_rowBits_4 : decode y_Sz_rowBits.2.1 4 = .ok (.aload_n 0, 1) := by decide +kernel
theorem d_Sz_rowBits_5 : decode y_Sz_rowBits.2.1 5 = .ok (.getfield 15, 3) := by decide +kernel
theorem d_Sz_rowBits_8 : decode y_Sz_rowBits.2.1 8 = .ok (.aload_n 0, 1) := by decide +kernel
theorem d_Sz_rowBits_9 : decode y_Sz_rowBits.2.1 9 = .ok (.getfield 18, 3) := by decide +kernel
theorem d_Sz_rowBits_12 : decode y_Sz_rowBits.2.1 12 = .ok (.iadd, 1) := by decide +kernel
theorem d_Sz_rowBits_13 : decode y_Sz_rowBits.2.1 13 = .ok (.imul, 1) := by decide +kernel
theorem s_Sz_rowBits_0 : aw_VS y_Sz_rowBits 0 [o_ald 0, o_getI 1 0, o_ald 0, o_getI 1 1, o_ald 0, o_getI 1 2, o_i2 (fun x z => x + z), o_i2 (fun x z => x * z)] 14 := .cons (v_aload_n (i := 0) d_Sz_rowBits_0 rfl) (.cons (v_getI (k := 0) k_Sz (by decide) (Or.inl rfl) (Or.inl w_87) d_Sz_rowBits_1) (.cons (v_aload_n (i := 0) d_Sz_rowBits_4 rfl) (.cons (v_getI (k := 1) k_Sz (by decide) (Or.inl rfl) (Or.inl w_89) d_Sz_rowBits_5) (.cons (v_aload_n (i := 0) d_Sz_rowBits_8 rfl) (.cons (v_getI (k := 2) k_Sz (by decide) (Or.inl rfl) (Or.inl w_91) d_Sz_rowBits_9) (.cons (v_iadd d_Sz_rowBits_12) (.cons (v_imul d_Sz_rowBits_13) .nil)))))))
theorem d_Sz_rowBits_14 : decode y_Sz_rowBits.2.1 14 = .ok (.ireturn, 1) := by decide +kernel
theorem b_Sz_rowBits_0 {X : aw_X} {d : Nat} {Q : Option Value → aw_H → Prop} {I : Nat → Nat → Int32} {L : Nat → Nat → Int64} {D : Nat → Nat} 
    (h1 : Q (some (.int ((I 1 0) * ((I 1 1) + (I 1 2))))) (aw_s I L D)) :
    aw_z X d y_Sz_rowBits Q 0 [some (.ref 1)] [] (aw_s I L D) :=
  (s_Sz_rowBits_0.go [some (.ref 1)] [.int ((I 1 0) * ((I 1 1) + (I 1 2)))] (aw_s I L D) rfl (z_iret d_Sz_rowBits_14 rfl rfl (h1)))
/-! Sz_greatest -/
theorem d_Sz_greatest_0 : decode y_Sz_greatest.2.1 0 = .ok (.iconst 1, 1) := by decide +kernel
theorem d_Sz_greatest_1 : decode y_Sz_greatest.2.1 1 = .ok (.aload_n 0, 1) := by decide +kernel
theorem d_Sz_greatest_2 : decode y_Sz_greatest.2.1 2 = .ok (.getfield 9, 3) := by decide +kernel
theorem d_Sz_greatest_5 : decode y_Sz_greatest.2.1 5 = .ok (.ishl, 1) := by decide +kernel
theorem d_Sz_greatest_6 : decode y_Sz_greatest.2.1 6 = .ok (.iconst 1, 1) := by decide +kernel
theorem d_Sz_greatest_7 : decode y_Sz_greatest.2.1 7 = .ok (.isub, 1) := by decide +kernel
theorem s_Sz_greatest_0 : aw_VS y_Sz_greatest 0 [o_c (.int (1 : Int32)), o_ald 0, o_getI 1 0, o_i2 (fun x z => x <<< (z &&& 31)), o_c (.int (1 : Int32)), o_i2 (fun x z => x - z)] 8 := .cons (v_iconst (v := (1 : Int32)) d_Sz_greatest_0 (by decide +kernel)) (.cons (v_aload_n (i := 0) d_Sz_greatest_1 rfl) (.cons (v_getI (k := 0) k_Sz (by decide) (Or.inl rfl) (Or.inl w_87) d_Sz_greatest_2) (.cons (v_ishl d_Sz_greatest_5) (.cons (v_iconst (v := (1 : Int32)) d_Sz_greatest_6 (by decide +kernel)) (.cons (v_isub d_Sz_greatest_7) .nil)))))
theorem d_Sz_greatest_8 : decode y_Sz_greatest.2.1 8 = .ok (.ireturn, 1) := by decide +kernel
theorem b_Sz_greatest_0 {X : aw_X} {d : Nat} {Q : Option Value → aw_H → Prop} {I : Nat → Nat → Int32} {L : Nat → Nat → Int64} {D : Nat → Nat} 
    (h1 : Q (some (.int (((1 : Int32) <<< ((I 1 0) &&& 31)) - (1 : Int32)))) (aw_s I L D)) :
    aw_z X d y_Sz_greatest Q 0 [some (.ref 1)] [] (aw_s I L D) :=
  (s_Sz_greatest_0.go [some (.ref 1)] [.int (((1 : Int32) <<< ((I 1 0) &&& 31)) - (1 : Int32))] (aw_s I L D) rfl (z_iret d_Sz_greatest_8 rfl rfl (h1)))
/-! JM_max -/
theorem d_JM_max_0 : decode y_JM_max.2.1 0 = .ok (.iload_n 0, 1) := by decide +kernel
theorem d_JM_max_1 : decode y_JM_max.2.1 1 = .ok (.iload_n 1, 1) := by decide +kernel
theorem s_JM_max_0 : aw_VS y_JM_max 0 [o_ild 0, o_ild 1] 2 := .cons (v_iload_n (i := 0) d_JM_max_0 rfl) (.cons (v_iload_n (i := 1) d_JM_max_1 rfl) .nil)
theorem d_JM_max_2 : decode y_JM_max.2.1 2 = .ok (.if_icmp .lt (7), 3) := by decide +kernel
theorem d_JM_max_9 : decode y_JM_max.2.1 9 = .ok (.iload_n 1, 1) := by decide +kernel
theorem s_JM_max_9 : aw_VS y_JM_max 9 [o_ild 1] 10 := .cons (v_iload_n (i := 1) d_JM_max_9 rfl) .nil
theorem d_JM_max_10 : decode y_JM_max.2.1 10 = .ok (.ireturn, 1) := by decide +kernel
theorem d_JM_max_5 : decode y_JM_max.2.1 5 = .ok (.iload_n 0, 1) := by decide +kernel
theorem s_JM_max_5 : aw_VS y_JM_max 5 [o_ild 0] 6 := .cons (v_iload_n (i := 0) d_JM_max_5 rfl) .nil
theorem d_JM_max_6 : decode y_JM_max.2.1 6 = .ok (.goto (4), 3) := by decide +kernel
theorem b_JM_max_0 {X : aw_X} {d : Nat} {Q : Option Value → aw_H → Prop} {I : Nat → Nat → Int32} {L : Nat → Nat → Int64} {D : Nat → Nat} {v0 : Int32} {v1 : Int32}
    (h1 : v0 < v1 → Q (some (.int v1)) (aw_s I L D))
    (h2 : ¬ v0 < v1 → Q (some (.int v0)) (aw_s I L D)) :
    aw_z X d y_JM_max Q 0 [some (.int v0), some (.int v1)] [] (aw_s I L D) :=
  (s_JM_max_0.go [some (.int v0), some (.int v1)] [.int v1, .int v0] (aw_s I L D) rfl (z_icmp_lt (tgt := 9) d_JM_max_2 rfl (fun q1 => (s_JM_max_9.go [some (.int v0), some (.int v1)] [.int v1] (aw_s I L D) rfl (z_iret d_JM_max_10 rfl rfl (h1 q1)))) (fun q2 => (s_JM_max_5.go [some (.int v0), some (.int v1)] [.int v0] (aw_s I L D) rfl (z_goto (tgt := 10) d_JM_max_6 rfl (z_iret d_JM_max_10 rfl rfl (h2 q2)))))))
/-! JM_min -/
theorem d_JM_min_0 : decode y_JM_min.2.1 0 = .ok (.iload_n 0, 1) := by decide +kernel
theorem d_JM_min_1 : decode y_JM_min.2.1 1 = .ok (.iload_n 1, 1) := by decide +kernel
theorem s_JM_min_0 : aw_VS y_JM_min 0 [o_ild 0, o_ild 1] 2 := .cons (v_iload_n (i := 0) d_JM_min_0 rfl) (.cons (v_iload_n (i := 1) d_JM_min_1 rfl) .nil)
theorem d_JM_min_2 : decode y_JM_min.2.1 2 = .ok (.if_icmp .gt (7), 3) := by decide +kernel
theorem d_JM_min_9 : decode y_JM_min.2.1 9 = .ok (.iload_n 1, 1) := by decide +kernel
theorem s_JM_min_9 : aw_VS y_JM_min 9 [o_ild 1] 10 := .cons (v_iload_n (i := 1) d_JM_min_9 rfl) .nil
theorem d_JM_min_10 : decode y_JM_min.2.1 10 = .ok (.ireturn, 1) := by decide +kernel
theorem d_JM_min_5 : decode y_JM_min.2.1 5 = .ok (.iload_n 0, 1) := by decide +kernel
theorem s_JM_min_5 : aw_VS y_JM_min 5 [o_ild 0] 6 := .cons (v_iload_n (i := 0) d_JM_min_5 rfl) .nil
theorem d_JM_min_6 : decode y_JM_min.2.1 6 = .ok (.goto (4), 3) := by decide +kernel
theorem b_JM_min_0 {X : aw_X} {d : Nat} {Q : Option Value → aw_H → Prop} {I : Nat → Nat → Int32} {L : Nat → Nat → Int64} {D : Nat → Nat} {v0 : Int32} {v1 : Int32}
    (h1 : v1 < v0 → Q (some (.int v1)) (aw_s I L D))
    (h2 : ¬ v1 < v0 → Q (some (.int v0)) (aw_s I L D)) :
    aw_z X d y_JM_min Q 0 [some (.int v0), some (.int v1)] [] (aw_s I L D) :=
  (s_JM_min_0.go [some (.int v0), some (.int v1)] [.int v1, .int v0] (aw_s I L D) rfl (z_icmp_gt (tgt := 9) d_JM_min_2 rfl (fun q1 => (s_JM_min_9.go [some (.int v0), some (.int v1)] [.int v1] (aw_s I L D) rfl (z_iret d_JM_min_10 rfl rfl (h1 q1)))) (fun q2 => (s_JM_min_5.go [some (.int v0), some (.int v1)] [.int v0] (aw_s I L D) rfl (z_goto (tgt := 10) d_JM_min_6 rfl (z_iret d_JM_min_10 rfl rfl (h2 q2)))))))
