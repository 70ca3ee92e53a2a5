/-! by gen_blk.py: Tp_hasRoomFor Tp_append Tp_cut Tp_byteAt AW_end AW_feed -/
/-! AllWays$Tape.hasRoomFor -/
theorem d_Tp_hasRoomFor_0 : decode y_Tp_hasRoomFor.2.1 0 = .ok (.aload_n 0, 1) := by decide +kernel
theorem d_Tp_hasRoomFor_1 : decode y_Tp_hasRoomFor.2.1 1 = .ok (.getfield 15, 3) := by decide +kernel
theorem d_Tp_hasRoomFor_4 : decode y_Tp_hasRoomFor.2.1 4 = .ok (.iload_n 1, 1) := by decide +kernel
theorem d_Tp_hasRoomFor_5 : decode y_Tp_hasRoomFor.2.1 5 = .ok (.iadd, 1) := by decide +kernel
theorem d_Tp_hasRoomFor_6 : decode y_Tp_hasRoomFor.2.1 6 = .ok (.aload_n 0, 1) := by decide +kernel
theorem d_Tp_hasRoomFor_7 : decode y_Tp_hasRoomFor.2.1 7 = .ok (.getfield 9, 3) := by decide +kernel
theorem d_Tp_hasRoomFor_10 : decode y_Tp_hasRoomFor.2.1 10 = .ok (.arraylength, 1) := by decide +kernel
theorem s_Tp_hasRoomFor_0 : aw_VS y_Tp_hasRoomFor 0 [o_ald 0, o_getI 2 1, o_ild 1, o_i2 (fun x z => x + z), o_ald 0, o_getA 2 0, o_alen] 11 := .cons (v_aload_n (i := 0) d_Tp_hasRoomFor_0 rfl) (.cons (v_getI (k := 1) k_Tp (by decide) (Or.inl rfl) (Or.inl w_192) d_Tp_hasRoomFor_1) (.cons (v_iload_n (i := 1) d_Tp_hasRoomFor_4 rfl) (.cons (v_iadd d_Tp_hasRoomFor_5) (.cons (v_aload_n (i := 0) d_Tp_hasRoomFor_6 rfl) (.cons (v_getA (k := 0) k_Tp (by decide) rfl (Or.inl w_191) d_Tp_hasRoomFor_7) (.cons (v_alen d_Tp_hasRoomFor_10) .nil))))))
theorem d_Tp_hasRoomFor_11 : decode y_Tp_hasRoomFor.2.1 11 = .ok (.if_icmp .gt (7), 3) := by decide +kernel
theorem d_Tp_hasRoomFor_18 : decode y_Tp_hasRoomFor.2.1 18 = .ok (.iconst 0, 1) := by decide +kernel
theorem s_Tp_hasRoomFor_18 : aw_VS y_Tp_hasRoomFor 18 [o_c (.int (0 : Int32))] 19 := .cons (v_iconst (v := (0 : Int32)) d_Tp_hasRoomFor_18 (by decide +kernel)) .nil
theorem d_Tp_hasRoomFor_19 : decode y_Tp_hasRoomFor.2.1 19 = .ok (.ireturn, 1) := by decide +kernel
theorem d_Tp_hasRoomFor_14 : decode y_Tp_hasRoomFor.2.1 14 = .ok (.iconst 1, 1) := by decide +kernel
theorem s_Tp_hasRoomFor_14 : aw_VS y_Tp_hasRoomFor 14 [o_c (.int (1 : Int32))] 15 := .cons (v_iconst (v := (1 : Int32)) d_Tp_hasRoomFor_14 (by decide +kernel)) .nil
theorem d_Tp_hasRoomFor_15 : decode y_Tp_hasRoomFor.2.1 15 = .ok (.goto (4), 3) := by decide +kernel
theorem b_Tp_hasRoomFor_0 {X : aw_X} {d : Nat} {Q : Option Value → aw_H → Prop} {I : Nat → Nat → Int32} {L : Nat → Nat → Int64} {D : Nat → Nat} {v1 : Int32}
    (h1 : (540 : Int32) < ((I 2 1) + v1) → Q (some (.int (0 : Int32))) (aw_s I L D))
    (h2 : ¬ (540 : Int32) < ((I 2 1) + v1) → Q (some (.int (1 : Int32))) (aw_s I L D)) :
    aw_z X d y_Tp_hasRoomFor Q 0 [some (.ref 2), some (.int v1)] [] (aw_s I L D) :=
  (s_Tp_hasRoomFor_0.go [some (.ref 2), some (.int v1)] [.int (540 : Int32), .int ((I 2 1) + v1)] (aw_s I L D) rfl (z_icmp_gt (tgt := 18) d_Tp_hasRoomFor_11 rfl (fun q1 => (s_Tp_hasRoomFor_18.go [some (.ref 2), some (.int v1)] [.int (0 : Int32)] (aw_s I L D) rfl (z_iret d_Tp_hasRoomFor_19 rfl (aw_nz (by decide +kernel)) (h1 q1)))) (fun q2 => (s_Tp_hasRoomFor_14.go [some (.ref 2), some (.int v1)] [.int (1 : Int32)] (aw_s I L D) rfl (z_goto (tgt := 19) d_Tp_hasRoomFor_15 rfl (z_iret d_Tp_hasRoomFor_19 rfl (aw_nz (by decide +kernel)) (h2 q2)))))))
/-! AllWays$Tape.append -/
theorem d_Tp_append_0 : decode y_Tp_append.2.1 0 = .ok (.bipush 24, 2) := by decide +kernel
theorem d_Tp_append_2 : decode y_Tp_append.2.1 2 = .ok (.istore_n 2, 1) := by decide +kernel
theorem s_Tp_append_0 : aw_VS y_Tp_append 0 [o_c (.int (24 : Int32)), o_ist 2] 3 := .cons (v_bipush (v := (24 : Int32)) d_Tp_append_0 (by decide +kernel)) (.cons (v_istore_n d_Tp_append_2) .nil)
theorem b_Tp_append_0 {X : aw_X} {d : Nat} {Q : Option Value → aw_H → Prop} {I : Nat → Nat → Int32} {L : Nat → Nat → Int64} {D : Nat → Nat} {v1 : Int32}
    (h1 : aw_z X d y_Tp_append Q 3 [some (.ref 2), some (.int v1), some (.int (24 : Int32))] [] (aw_s I L D)) :
    aw_z X d y_Tp_append Q 0 [some (.ref 2), some (.int v1), none] [] (aw_s I L D) :=
  (s_Tp_append_0.go [some (.ref 2), some (.int v1), some (.int (24 : Int32))] [] (aw_s I L D) rfl (h1))
theorem d_Tp_append_3 : decode y_Tp_append.2.1 3 = .ok (.iload_n 2, 1) := by decide +kernel
theorem s_Tp_append_3 : aw_VS y_Tp_append 3 [o_ild 2] 4 := .cons (v_iload_n (i := 2) d_Tp_append_3 rfl) .nil
theorem d_Tp_append_4 : decode y_Tp_append.2.1 4 = .ok (.ifCond .lt (54), 3) := by decide +kernel
theorem d_Tp_append_58 : decode y_Tp_append.2.1 58 = .ok (.return_, 1) := by decide +kernel
theorem d_Tp_append_7 : decode y_Tp_append.2.1 7 = .ok (.aload_n 0, 1) := by decide +kernel
theorem d_Tp_append_8 : decode y_Tp_append.2.1 8 = .ok (.getfield 15, 3) := by decide +kernel
theorem s_Tp_append_7 : aw_VS y_Tp_append 7 [o_ald 0, o_getI 2 1] 11 := .cons (v_aload_n (i := 0) d_Tp_append_7 rfl) (.cons (v_getI (k := 1) k_Tp (by decide) (Or.inl rfl) (Or.inl w_192) d_Tp_append_8) .nil)
theorem d_Tp_append_11 : decode y_Tp_append.2.1 11 = .ok (.ifCond .lt (41), 3) := by decide +kernel
theorem d_Tp_append_52 : decode y_Tp_append.2.1 52 = .ok (.iinc 2 (-8), 3) := by decide +kernel
theorem s_Tp_append_52 : aw_VS y_Tp_append 52 [o_inc 2 (-8 : Int32)] 55 := .cons (v_iinc (k0 := (-8 : Int32)) d_Tp_append_52 (by decide +kernel)) .nil
theorem d_Tp_append_55 : decode y_Tp_append.2.1 55 = .ok (.goto (-52), 3) := by decide +kernel
theorem d_Tp_append_14 : decode y_Tp_append.2.1 14 = .ok (.aload_n 0, 1) := by decide +kernel
theorem d_Tp_append_15 : decode y_Tp_append.2.1 15 = .ok (.getfield 15, 3) := by decide +kernel
theorem d_Tp_append_18 : decode y_Tp_append.2.1 18 = .ok (.aload_n 0, 1) := by decide +kernel
theorem d_Tp_append_19 : decode y_Tp_append.2.1 19 = .ok (.getfield 9, 3) := by decide +kernel
theorem d_Tp_append_22 : decode y_Tp_append.2.1 22 = .ok (.arraylength, 1) := by decide +kernel
theorem s_Tp_append_14 : aw_VS y_Tp_append 14 [o_ald 0, o_getI 2 1, o_ald 0, o_getA 2 0, o_alen] 23 := .cons (v_aload_n (i := 0) d_Tp_append_14 rfl) (.cons (v_getI (k := 1) k_Tp (by decide) (Or.inl rfl) (Or.inl w_192) d_Tp_append_15) (.cons (v_aload_n (i := 0) d_Tp_append_18 rfl) (.cons (v_getA (k := 0) k_Tp (by decide) rfl (Or.inl w_191) d_Tp_append_19) (.cons (v_alen d_Tp_append_22) .nil))))
theorem d_Tp_append_23 : decode y_Tp_append.2.1 23 = .ok (.if_icmp .ge (29), 3) := by decide +kernel
theorem d_Tp_append_26 : decode y_Tp_append.2.1 26 = .ok (.aload_n 0, 1) := by decide +kernel
theorem d_Tp_append_27 : decode y_Tp_append.2.1 27 = .ok (.getfield 9, 3) := by decide +kernel
theorem d_Tp_append_30 : decode y_Tp_append.2.1 30 = .ok (.aload_n 0, 1) := by decide +kernel
theorem d_Tp_append_31 : decode y_Tp_append.2.1 31 = .ok (.getfield 15, 3) := by decide +kernel
theorem d_Tp_append_34 : decode y_Tp_append.2.1 34 = .ok (.iload_n 1, 1) := by decide +kernel
theorem d_Tp_append_35 : decode y_Tp_append.2.1 35 = .ok (.iload_n 2, 1) := by decide +kernel
theorem d_Tp_append_36 : decode y_Tp_append.2.1 36 = .ok (.iushr, 1) := by decide +kernel
theorem d_Tp_append_37 : decode y_Tp_append.2.1 37 = .ok (.sipush 255, 3) := by decide +kernel
theorem d_Tp_append_40 : decode y_Tp_append.2.1 40 = .ok (.iand, 1) := by decide +kernel
theorem s_Tp_append_26 : aw_VS y_Tp_append 26 [o_ald 0, o_getA 2 0, o_ald 0, o_getI 2 1, o_ild 1, o_ild 2, o_i2 (fun x z => (x.toUInt32 >>> (z.toUInt32 &&& Int32.toUInt32 31)).toInt32), o_c (.int (255 : Int32)), o_i2 (fun x z => x &&& z)] 41 := .cons (v_aload_n (i := 0) d_Tp_append_26 rfl) (.cons (v_getA (k := 0) k_Tp (by decide) rfl (Or.inl w_191) d_Tp_append_27) (.cons (v_aload_n (i := 0) d_Tp_append_30 rfl) (.cons (v_getI (k := 1) k_Tp (by decide) (Or.inl rfl) (Or.inl w_192) d_Tp_append_31) (.cons (v_iload_n (i := 1) d_Tp_append_34 rfl) (.cons (v_iload_n (i := 2) d_Tp_append_35 rfl) (.cons (v_iushr d_Tp_append_36) (.cons (v_sipush (v := (255 : Int32)) d_Tp_append_37 (by decide +kernel)) (.cons (v_iand d_Tp_append_40) .nil))))))))
theorem d_Tp_append_41 : decode y_Tp_append.2.1 41 = .ok (.iastore, 1) := by decide +kernel
theorem d_Tp_append_42 : decode y_Tp_append.2.1 42 = .ok (.aload_n 0, 1) := by decide +kernel
theorem d_Tp_append_43 : decode y_Tp_append.2.1 43 = .ok (.dup, 1) := by decide +kernel
theorem d_Tp_append_44 : decode y_Tp_append.2.1 44 = .ok (.getfield 15, 3) := by decide +kernel
theorem d_Tp_append_47 : decode y_Tp_append.2.1 47 = .ok (.iconst 1, 1) := by decide +kernel
theorem d_Tp_append_48 : decode y_Tp_append.2.1 48 = .ok (.iadd, 1) := by decide +kernel
theorem d_Tp_append_49 : decode y_Tp_append.2.1 49 = .ok (.putfield 15, 3) := by decide +kernel
theorem s_Tp_append_42 : aw_VS y_Tp_append 42 [o_ald 0, o_dup, o_getI 2 1, o_c (.int (1 : Int32)), o_i2 (fun x z => x + z), o_putI 2 1] 52 := .cons (v_aload_n (i := 0) d_Tp_append_42 rfl) (.cons (v_dup d_Tp_append_43) (.cons (v_getI (k := 1) k_Tp (by decide) (Or.inl rfl) (Or.inl w_192) d_Tp_append_44) (.cons (v_iconst (v := (1 : Int32)) d_Tp_append_47 (by decide +kernel)) (.cons (v_iadd d_Tp_append_48) (.cons (v_putI (k := 1) k_Tp (by decide) rfl (Or.inl ⟨rfl, Or.inl w_192⟩) d_Tp_append_49) .nil)))))
theorem b_Tp_append_3 {X : aw_X} {d : Nat} {Q : Option Value → aw_H → Prop} {I : Nat → Nat → Int32} {L : Nat → Nat → Int64} {D : Nat → Nat} {v1 : Int32} {v2 : Int32}
    (h1 : v2 < 0 → Q none (aw_s I L D))
    (h2 : ¬ v2 < 0 → (I 2 1) < 0 → aw_z X d y_Tp_append Q 3 [some (.ref 2), some (.int v1), some (.int (v2 + (-8 : Int32)))] [] (aw_s I L D))
    (h3 : ¬ v2 < 0 → ¬ (I 2 1) < 0 → (540 : Int32) ≤ (I 2 1) → aw_z X d y_Tp_append Q 3 [some (.ref 2), some (.int v1), some (.int (v2 + (-8 : Int32)))] [] (aw_s I L D))
    (h4 : ¬ v2 < 0 → ¬ (I 2 1) < 0 → ¬ (540 : Int32) ≤ (I 2 1) → vp_in (I 2 1) 540)
    (h5 : ¬ v2 < 0 → ¬ (I 2 1) < 0 → ¬ (540 : Int32) ≤ (I 2 1) → aw_z X d y_Tp_append Q 3 [some (.ref 2), some (.int v1), some (.int (v2 + (-8 : Int32)))] [] (aw_s (aw_u (aw_u I 3 ((I 2 1).toNatClampNeg) (((v1.toUInt32 >>> (v2.toUInt32 &&& Int32.toUInt32 31)).toInt32) &&& (255 : Int32))) 2 1 ((I 2 1) + (1 : Int32))) L D)) :
    aw_z X d y_Tp_append Q 3 [some (.ref 2), some (.int v1), some (.int v2)] [] (aw_s I L D) :=
  (s_Tp_append_3.go [some (.ref 2), some (.int v1), some (.int v2)] [.int v2] (aw_s I L D) rfl (z_if_lt (tgt := 58) d_Tp_append_4 rfl (fun q1 => (z_vret d_Tp_append_58 rfl (h1 q1))) (fun q2 => (s_Tp_append_7.go [some (.ref 2), some (.int v1), some (.int v2)] [.int (I 2 1)] (aw_s I L D) rfl (z_if_lt (tgt := 52) d_Tp_append_11 rfl (fun q3 => (s_Tp_append_52.go [some (.ref 2), some (.int v1), some (.int (v2 + (-8 : Int32)))] [] (aw_s I L D) rfl (z_goto (tgt := 3) d_Tp_append_55 rfl (h2 q2 q3)))) (fun q4 => (s_Tp_append_14.go [some (.ref 2), some (.int v1), some (.int v2)] [.int (540 : Int32), .int (I 2 1)] (aw_s I L D) rfl (z_icmp_ge (tgt := 52) d_Tp_append_23 rfl (fun q5 => (s_Tp_append_52.go [some (.ref 2), some (.int v1), some (.int (v2 + (-8 : Int32)))] [] (aw_s I L D) rfl (z_goto (tgt := 3) d_Tp_append_55 rfl (h3 q2 q4 q5)))) (fun q6 => (s_Tp_append_26.go [some (.ref 2), some (.int v1), some (.int v2)] [.int (((v1.toUInt32 >>> (v2.toUInt32 &&& Int32.toUInt32 31)).toInt32) &&& (255 : Int32)), .int (I 2 1), .ref 3] (aw_s I L D) rfl (z_iast (n := 540) rfl (aw_lt (o := 3) rfl) (h4 q2 q4 q6) d_Tp_append_41 (s_Tp_append_42.go [some (.ref 2), some (.int v1), some (.int v2)] [] (aw_s (aw_u (aw_u I 3 ((I 2 1).toNatClampNeg) (((v1.toUInt32 >>> (v2.toUInt32 &&& Int32.toUInt32 31)).toInt32) &&& (255 : Int32))) 2 1 ((I 2 1) + (1 : Int32))) L D) rfl (s_Tp_append_52.go [some (.ref 2), some (.int v1), some (.int (v2 + (-8 : Int32)))] [] (aw_s (aw_u (aw_u I 3 ((I 2 1).toNatClampNeg) (((v1.toUInt32 >>> (v2.toUInt32 &&& Int32.toUInt32 31)).toInt32) &&& (255 : Int32))) 2 1 ((I 2 1) + (1 : Int32))) L D) rfl (z_goto (tgt := 3) d_Tp_append_55 rfl (h5 q2 q4 q6)))))))))))))))
/-! AllWays$Tape.cut -/
theorem d_Tp_cut_0 : decode y_Tp_cut.2.1 0 = .ok (.iload_n 1, 1) := by decide +kernel
theorem s_Tp_cut_0 : aw_VS y_Tp_cut 0 [o_ild 1] 1 := .cons (v_iload_n (i := 1) d_Tp_cut_0 rfl) .nil
theorem d_Tp_cut_1 : decode y_Tp_cut.2.1 1 = .ok (.ifCond .lt (11), 3) := by decide +kernel
theorem d_Tp_cut_12 : decode y_Tp_cut.2.1 12 = .ok (.iconst 0, 1) := by decide +kernel
theorem s_Tp_cut_12 : aw_VS y_Tp_cut 12 [o_c (.int (0 : Int32))] 13 := .cons (v_iconst (v := (0 : Int32)) d_Tp_cut_12 (by decide +kernel)) .nil
theorem d_Tp_cut_13 : decode y_Tp_cut.2.1 13 = .ok (.ireturn, 1) := by decide +kernel
theorem d_Tp_cut_4 : decode y_Tp_cut.2.1 4 = .ok (.iload_n 1, 1) := by decide +kernel
theorem d_Tp_cut_5 : decode y_Tp_cut.2.1 5 = .ok (.aload_n 0, 1) := by decide +kernel
theorem d_Tp_cut_6 : decode y_Tp_cut.2.1 6 = .ok (.getfield 15, 3) := by decide +kernel
theorem s_Tp_cut_4 : aw_VS y_Tp_cut 4 [o_ild 1, o_ald 0, o_getI 2 1] 9 := .cons (v_iload_n (i := 1) d_Tp_cut_4 rfl) (.cons (v_aload_n (i := 0) d_Tp_cut_5 rfl) (.cons (v_getI (k := 1) k_Tp (by decide) (Or.inl rfl) (Or.inl w_192) d_Tp_cut_6) .nil))
theorem d_Tp_cut_9 : decode y_Tp_cut.2.1 9 = .ok (.if_icmp .le (5), 3) := by decide +kernel
theorem d_Tp_cut_14 : decode y_Tp_cut.2.1 14 = .ok (.aload_n 0, 1) := by decide +kernel
theorem d_Tp_cut_15 : decode y_Tp_cut.2.1 15 = .ok (.iload_n 1, 1) := by decide +kernel
theorem d_Tp_cut_16 : decode y_Tp_cut.2.1 16 = .ok (.putfield 15, 3) := by decide +kernel
theorem d_Tp_cut_19 : decode y_Tp_cut.2.1 19 = .ok (.iconst 1, 1) := by decide +kernel
theorem s_Tp_cut_14 : aw_VS y_Tp_cut 14 [o_ald 0, o_ild 1, o_putI 2 1, o_c (.int (1 : Int32))] 20 := .cons (v_aload_n (i := 0) d_Tp_cut_14 rfl) (.cons (v_iload_n (i := 1) d_Tp_cut_15 rfl) (.cons (v_putI (k := 1) k_Tp (by decide) rfl (Or.inl ⟨rfl, Or.inl w_192⟩) d_Tp_cut_16) (.cons (v_iconst (v := (1 : Int32)) d_Tp_cut_19 (by decide +kernel)) .nil)))
theorem d_Tp_cut_20 : decode y_Tp_cut.2.1 20 = .ok (.ireturn, 1) := by decide +kernel
theorem b_Tp_cut_0 {X : aw_X} {d : Nat} {Q : Option Value → aw_H → Prop} {I : Nat → Nat → Int32} {L : Nat → Nat → Int64} {D : Nat → Nat} {v1 : Int32}
    (h1 : v1 < 0 → Q (some (.int (0 : Int32))) (aw_s I L D))
    (h2 : ¬ v1 < 0 → v1 ≤ (I 2 1) → Q (some (.int (1 : Int32))) (aw_s (aw_u I 2 1 v1) L D))
    (h3 : ¬ v1 < 0 → ¬ v1 ≤ (I 2 1) → Q (some (.int (0 : Int32))) (aw_s I L D)) :
    aw_z X d y_Tp_cut Q 0 [some (.ref 2), some (.int v1)] [] (aw_s I L D) :=
  (s_Tp_cut_0.go [some (.ref 2), some (.int v1)] [.int v1] (aw_s I L D) rfl (z_if_lt (tgt := 12) d_Tp_cut_1 rfl (fun q1 => (s_Tp_cut_12.go [some (.ref 2), some (.int v1)] [.int (0 : Int32)] (aw_s I L D) rfl (z_iret d_Tp_cut_13 rfl (aw_nz (by decide +kernel)) (h1 q1)))) (fun q2 => (s_Tp_cut_4.go [some (.ref 2), some (.int v1)] [.int (I 2 1), .int v1] (aw_s I L D) rfl (z_icmp_le (tgt := 14) d_Tp_cut_9 rfl (fun q3 => (s_Tp_cut_14.go [some (.ref 2), some (.int v1)] [.int (1 : Int32)] (aw_s (aw_u I 2 1 v1) L D) rfl (z_iret d_Tp_cut_20 rfl (aw_nz (by decide +kernel)) (h2 q2 q3)))) (fun q4 => (s_Tp_cut_12.go [some (.ref 2), some (.int v1)] [.int (0 : Int32)] (aw_s I L D) rfl (z_iret d_Tp_cut_13 rfl (aw_nz (by decide +kernel)) (h3 q2 q4)))))))))
/-! AllWays$Tape.byteAt -/
theorem d_Tp_byteAt_0 : decode y_Tp_byteAt.2.1 0 = .ok (.iload_n 1, 1) := by decide +kernel
theorem s_Tp_byteAt_0 : aw_VS y_Tp_byteAt 0 [o_ild 1] 1 := .cons (v_iload_n (i := 1) d_Tp_byteAt_0 rfl) .nil
theorem d_Tp_byteAt_1 : decode y_Tp_byteAt.2.1 1 = .ok (.ifCond .lt (29), 3) := by decide +kernel
theorem d_Tp_byteAt_30 : decode y_Tp_byteAt.2.1 30 = .ok (.iconst (-1), 1) := by decide +kernel
theorem s_Tp_byteAt_30 : aw_VS y_Tp_byteAt 30 [o_c (.int (-1 : Int32))] 31 := .cons (v_iconst (v := (-1 : Int32)) d_Tp_byteAt_30 (by decide +kernel)) .nil
theorem d_Tp_byteAt_31 : decode y_Tp_byteAt.2.1 31 = .ok (.ireturn, 1) := by decide +kernel
theorem d_Tp_byteAt_4 : decode y_Tp_byteAt.2.1 4 = .ok (.iload_n 1, 1) := by decide +kernel
theorem d_Tp_byteAt_5 : decode y_Tp_byteAt.2.1 5 = .ok (.aload_n 0, 1) := by decide +kernel
theorem d_Tp_byteAt_6 : decode y_Tp_byteAt.2.1 6 = .ok (.getfield 15, 3) := by decide +kernel
theorem s_Tp_byteAt_4 : aw_VS y_Tp_byteAt 4 [o_ild 1, o_ald 0, o_getI 2 1] 9 := .cons (v_iload_n (i := 1) d_Tp_byteAt_4 rfl) (.cons (v_aload_n (i := 0) d_Tp_byteAt_5 rfl) (.cons (v_getI (k := 1) k_Tp (by decide) (Or.inl rfl) (Or.inl w_192) d_Tp_byteAt_6) .nil))
theorem d_Tp_byteAt_9 : decode y_Tp_byteAt.2.1 9 = .ok (.if_icmp .ge (21), 3) := by decide +kernel
theorem d_Tp_byteAt_12 : decode y_Tp_byteAt.2.1 12 = .ok (.iload_n 1, 1) := by decide +kernel
theorem d_Tp_byteAt_13 : decode y_Tp_byteAt.2.1 13 = .ok (.aload_n 0, 1) := by decide +kernel
theorem d_Tp_byteAt_14 : decode y_Tp_byteAt.2.1 14 = .ok (.getfield 9, 3) := by decide +kernel
theorem d_Tp_byteAt_17 : decode y_Tp_byteAt.2.1 17 = .ok (.arraylength, 1) := by decide +kernel
theorem s_Tp_byteAt_12 : aw_VS y_Tp_byteAt 12 [o_ild 1, o_ald 0, o_getA 2 0, o_alen] 18 := .cons (v_iload_n (i := 1) d_Tp_byteAt_12 rfl) (.cons (v_aload_n (i := 0) d_Tp_byteAt_13 rfl) (.cons (v_getA (k := 0) k_Tp (by decide) rfl (Or.inl w_191) d_Tp_byteAt_14) (.cons (v_alen d_Tp_byteAt_17) .nil)))
theorem d_Tp_byteAt_18 : decode y_Tp_byteAt.2.1 18 = .ok (.if_icmp .ge (12), 3) := by decide +kernel
theorem d_Tp_byteAt_21 : decode y_Tp_byteAt.2.1 21 = .ok (.aload_n 0, 1) := by decide +kernel
theorem d_Tp_byteAt_22 : decode y_Tp_byteAt.2.1 22 = .ok (.getfield 9, 3) := by decide +kernel
theorem d_Tp_byteAt_25 : decode y_Tp_byteAt.2.1 25 = .ok (.iload_n 1, 1) := by decide +kernel
theorem s_Tp_byteAt_21 : aw_VS y_Tp_byteAt 21 [o_ald 0, o_getA 2 0, o_ild 1] 26 := .cons (v_aload_n (i := 0) d_Tp_byteAt_21 rfl) (.cons (v_getA (k := 0) k_Tp (by decide) rfl (Or.inl w_191) d_Tp_byteAt_22) (.cons (v_iload_n (i := 1) d_Tp_byteAt_25 rfl) .nil))
theorem d_Tp_byteAt_26 : decode y_Tp_byteAt.2.1 26 = .ok (.iaload, 1) := by decide +kernel
theorem d_Tp_byteAt_27 : decode y_Tp_byteAt.2.1 27 = .ok (.goto (4), 3) := by decide +kernel
theorem b_Tp_byteAt_0 {X : aw_X} {d : Nat} {Q : Option Value → aw_H → Prop} {I : Nat → Nat → Int32} {L : Nat → Nat → Int64} {D : Nat → Nat} {v1 : Int32}
    (h1 : v1 < 0 → Q (some (.int (-1 : Int32))) (aw_s I L D))
    (h2 : ¬ v1 < 0 → (I 2 1) ≤ v1 → Q (some (.int (-1 : Int32))) (aw_s I L D))
    (h3 : ¬ v1 < 0 → ¬ (I 2 1) ≤ v1 → (540 : Int32) ≤ v1 → Q (some (.int (-1 : Int32))) (aw_s I L D))
    (h4 : ¬ v1 < 0 → ¬ (I 2 1) ≤ v1 → ¬ (540 : Int32) ≤ v1 → vp_in v1 540)
    (h5 : ¬ v1 < 0 → ¬ (I 2 1) ≤ v1 → ¬ (540 : Int32) ≤ v1 → Q (some (.int (I 3 v1.toNatClampNeg))) (aw_s I L D)) :
    aw_z X d y_Tp_byteAt Q 0 [some (.ref 2), some (.int v1)] [] (aw_s I L D) :=
  (s_Tp_byteAt_0.go [some (.ref 2), some (.int v1)] [.int v1] (aw_s I L D) rfl (z_if_lt (tgt := 30) d_Tp_byteAt_1 rfl (fun q1 => (s_Tp_byteAt_30.go [some (.ref 2), some (.int v1)] [.int (-1 : Int32)] (aw_s I L D) rfl (z_iret d_Tp_byteAt_31 rfl rfl (h1 q1)))) (fun q2 => (s_Tp_byteAt_4.go [some (.ref 2), some (.int v1)] [.int (I 2 1), .int v1] (aw_s I L D) rfl (z_icmp_ge (tgt := 30) d_Tp_byteAt_9 rfl (fun q3 => (s_Tp_byteAt_30.go [some (.ref 2), some (.int v1)] [.int (-1 : Int32)] (aw_s I L D) rfl (z_iret d_Tp_byteAt_31 rfl rfl (h2 q2 q3)))) (fun q4 => (s_Tp_byteAt_12.go [some (.ref 2), some (.int v1)] [.int (540 : Int32), .int v1] (aw_s I L D) rfl (z_icmp_ge (tgt := 30) d_Tp_byteAt_18 rfl (fun q5 => (s_Tp_byteAt_30.go [some (.ref 2), some (.int v1)] [.int (-1 : Int32)] (aw_s I L D) rfl (z_iret d_Tp_byteAt_31 rfl rfl (h3 q2 q4 q5)))) (fun q6 => (s_Tp_byteAt_21.go [some (.ref 2), some (.int v1)] [.int v1, .ref 3] (aw_s I L D) rfl (z_iald (n := 540) rfl (aw_lt (o := 3) rfl) (h4 q2 q4 q6) d_Tp_byteAt_26 (z_goto (tgt := 31) d_Tp_byteAt_27 rfl (z_iret d_Tp_byteAt_31 rfl rfl (h5 q2 q4 q6))))))))))))))
/-! AllWays.end -/
theorem d_AW_end_0 : decode y_AW_end.2.1 0 = .ok (.aload_n 0, 1) := by decide +kernel
theorem d_AW_end_1 : decode y_AW_end.2.1 1 = .ok (.getfield 19, 3) := by decide +kernel
theorem d_AW_end_4 : decode y_AW_end.2.1 4 = .ok (.iload_n 1, 1) := by decide +kernel
theorem s_AW_end_0 : aw_VS y_AW_end 0 [o_ald 0, o_getA 0 1, o_ild 1] 5 := .cons (v_aload_n (i := 0) d_AW_end_0 rfl) (.cons (v_getA (k := 1) k_AW (by decide) rfl (Or.inl w_491) d_AW_end_1) (.cons (v_iload_n (i := 1) d_AW_end_4 rfl) .nil))
theorem d_AW_end_5 : decode y_AW_end.2.1 5 = .ok (.invokevirtual 99, 3) := by decide +kernel
theorem b_AW_end_0 {X : aw_X} {d : Nat} {Q : Option Value → aw_H → Prop} {I : Nat → Nat → Int32} {L : Nat → Nat → Int64} {D : Nat → Nat} {v1 : Int32}
    (h1 : aw_m X d y_Tp_cut [.ref 2, .int v1] (aw_s I L D) (fun r A => aw_z X (d + 1) y_AW_end Q 8 [none, none] (r.toList ++ []) A)) :
    aw_z X (d + 1) y_AW_end Q 0 [some (.ref 0), some (.int v1)] [] (aw_s I L D) :=
  (s_AW_end_0.go [some (.ref 0), some (.int v1)] [.int v1, .ref 2] (aw_s I L D) rfl (z_callV (av := [.int v1]) (st := []) ok_Tp_cut (Or.inl w_561) w_562 w_563 k_Tp d_AW_end_5 rfl (aw_lt (o := 2) rfl) rfl rfl (Nat.le_of_ble_eq_true rfl) (Nat.le_refl _) (Nat.le_refl _) (aw_C.mono (h1) (fun _ _ zz => aw_Z.weak (ls' := [none, none]) zz (Nat.le_of_ble_eq_true rfl) ⟨Or.inl rfl, ⟨Or.inl rfl, trivial⟩⟩))))
theorem d_AW_end_8 : decode y_AW_end.2.1 8 = .ok (.ireturn, 1) := by decide +kernel
theorem b_AW_end_8 {X : aw_X} {d : Nat} {Q : Option Value → aw_H → Prop} {I : Nat → Nat → Int32} {L : Nat → Nat → Int64} {D : Nat → Nat} {s0 : Int32}
    (h1 : (s0 = 0 ∨ s0 = 1))
    (h2 : Q (some (.int s0)) (aw_s I L D)) :
    aw_z X (d + 1) y_AW_end Q 8 [none, none] [.int s0] (aw_s I L D) :=
  (z_iret d_AW_end_8 rfl (aw_nz (h1)) (h2))
/-! AllWays.feed -/
theorem d_AW_feed_0 : decode y_AW_feed.2.1 0 = .ok (.aload_n 0, 1) := by decide +kernel
theorem d_AW_feed_1 : decode y_AW_feed.2.1 1 = .ok (.getfield 19, 3) := by decide +kernel
theorem d_AW_feed_4 : decode y_AW_feed.2.1 4 = .ok (.bipush 20, 2) := by decide +kernel
theorem s_AW_feed_0 : aw_VS y_AW_feed 0 [o_ald 0, o_getA 0 1, o_c (.int (20 : Int32))] 6 := .cons (v_aload_n (i := 0) d_AW_feed_0 rfl) (.cons (v_getA (k := 1) k_AW (by decide) rfl (Or.inl w_491) d_AW_feed_1) (.cons (v_bipush (v := (20 : Int32)) d_AW_feed_4 (by decide +kernel)) .nil))
theorem d_AW_feed_6 : decode y_AW_feed.2.1 6 = .ok (.invokevirtual 88, 3) := by decide +kernel
theorem b_AW_feed_0 {X : aw_X} {d : Nat} {Q : Option Value → aw_H → Prop} {I : Nat → Nat → Int32} {L : Nat → Nat → Int64} {D : Nat → Nat} {v1 : Int32} {v2 : Int32} {v3 : Int32} {v4 : Int32} {v5 : Int32}
    (h1 : aw_m X d y_Tp_hasRoomFor [.ref 2, .int (20 : Int32)] (aw_s I L D) (fun r A => aw_z X (d + 1) y_AW_feed Q 9 [some (.ref 0), some (.int v1), some (.int v2), some (.int v3), some (.int v4), some (.int v5)] (r.toList ++ []) A)) :
    aw_z X (d + 1) y_AW_feed Q 0 [some (.ref 0), some (.int v1), some (.int v2), some (.int v3), some (.int v4), some (.int v5)] [] (aw_s I L D) :=
  (s_AW_feed_0.go [some (.ref 0), some (.int v1), some (.int v2), some (.int v3), some (.int v4), some (.int v5)] [.int (20 : Int32), .ref 2] (aw_s I L D) rfl (z_callV (av := [.int (20 : Int32)]) (st := []) ok_Tp_hasRoomFor (Or.inl w_549) w_550 w_551 k_Tp d_AW_feed_6 rfl (aw_lt (o := 2) rfl) rfl rfl (Nat.le_of_ble_eq_true rfl) (Nat.le_refl _) (Nat.le_refl _) (h1)))
theorem d_AW_feed_9 : decode y_AW_feed.2.1 9 = .ok (.ifCond .ne (5), 3) := by decide +kernel
theorem d_AW_feed_14 : decode y_AW_feed.2.1 14 = .ok (.aload_n 0, 1) := by decide +kernel
theorem d_AW_feed_15 : decode y_AW_feed.2.1 15 = .ok (.getfield 19, 3) := by decide +kernel
theorem d_AW_feed_18 : decode y_AW_feed.2.1 18 = .ok (.iload_n 1, 1) := by decide +kernel
theorem s_AW_feed_14 : aw_VS y_AW_feed 14 [o_ald 0, o_getA 0 1, o_ild 1] 19 := .cons (v_aload_n (i := 0) d_AW_feed_14 rfl) (.cons (v_getA (k := 1) k_AW (by decide) rfl (Or.inl w_491) d_AW_feed_15) (.cons (v_iload_n (i := 1) d_AW_feed_18 rfl) .nil))
theorem d_AW_feed_19 : decode y_AW_feed.2.1 19 = .ok (.invokevirtual 92, 3) := by decide +kernel
theorem d_AW_feed_12 : decode y_AW_feed.2.1 12 = .ok (.iconst (-1), 1) := by decide +kernel
theorem s_AW_feed_12 : aw_VS y_AW_feed 12 [o_c (.int (-1 : Int32))] 13 := .cons (v_iconst (v := (-1 : Int32)) d_AW_feed_12 (by decide +kernel)) .nil
theorem d_AW_feed_13 : decode y_AW_feed.2.1 13 = .ok (.ireturn, 1) := by decide +kernel
theorem b_AW_feed_9 {X : aw_X} {d : Nat} {Q : Option Value → aw_H → Prop} {I : Nat → Nat → Int32} {L : Nat → Nat → Int64} {D : Nat → Nat} {v1 : Int32} {v2 : Int32} {v3 : Int32} {v4 : Int32} {v5 : Int32} {s0 : Int32}
    (h1 : ¬ s0 = 0 → aw_m X d y_Tp_append [.ref 2, .int v1] (aw_s I L D) (fun r A => aw_z X (d + 1) y_AW_feed Q 22 [some (.ref 0), none, some (.int v2), some (.int v3), some (.int v4), some (.int v5)] (r.toList ++ []) A))
    (h2 : s0 = 0 → Q (some (.int (-1 : Int32))) (aw_s I L D)) :
    aw_z X (d + 1) y_AW_feed Q 9 [some (.ref 0), some (.int v1), some (.int v2), some (.int v3), some (.int v4), some (.int v5)] [.int s0] (aw_s I L D) :=
  (z_if_ne (tgt := 14) d_AW_feed_9 rfl (fun q1 => (s_AW_feed_14.go [some (.ref 0), some (.int v1), some (.int v2), some (.int v3), some (.int v4), some (.int v5)] [.int v1, .ref 2] (aw_s I L D) rfl (z_callV (av := [.int v1]) (st := []) ok_Tp_append (Or.inl w_553) w_554 w_555 k_Tp d_AW_feed_19 rfl (aw_lt (o := 2) rfl) rfl rfl (Nat.le_of_ble_eq_true rfl) (Nat.le_refl _) (Nat.le_refl _) (aw_C.mono (h1 q1) (fun _ _ zz => aw_Z.weak (ls' := [some (.ref 0), none, some (.int v2), some (.int v3), some (.int v4), some (.int v5)]) zz (Nat.le_of_ble_eq_true rfl) ⟨Or.inr rfl, ⟨Or.inl rfl, ⟨Or.inr rfl, ⟨Or.inr rfl, ⟨Or.inr rfl, ⟨Or.inr rfl, trivial⟩⟩⟩⟩⟩⟩))))) (fun q2 => (s_AW_feed_12.go [some (.ref 0), some (.int v1), some (.int v2), some (.int v3), some (.int v4), some (.int v5)] [.int (-1 : Int32)] (aw_s I L D) rfl (z_iret d_AW_feed_13 rfl rfl (h2 q2)))))
theorem d_AW_feed_22 : decode y_AW_feed.2.1 22 = .ok (.aload_n 0, 1) := by decide +kernel
theorem d_AW_feed_23 : decode y_AW_feed.2.1 23 = .ok (.getfield 19, 3) := by decide +kernel
theorem d_AW_feed_26 : decode y_AW_feed.2.1 26 = .ok (.iload_n 2, 1) := by decide +kernel
theorem s_AW_feed_22 : aw_VS y_AW_feed 22 [o_ald 0, o_getA 0 1, o_ild 2] 27 := .cons (v_aload_n (i := 0) d_AW_feed_22 rfl) (.cons (v_getA (k := 1) k_AW (by decide) rfl (Or.inl w_491) d_AW_feed_23) (.cons (v_iload_n (i := 2) d_AW_feed_26 rfl) .nil))
theorem d_AW_feed_27 : decode y_AW_feed.2.1 27 = .ok (.invokevirtual 92, 3) := by decide +kernel
theorem b_AW_feed_22 {X : aw_X} {d : Nat} {Q : Option Value → aw_H → Prop} {I : Nat → Nat → Int32} {L : Nat → Nat → Int64} {D : Nat → Nat} {v2 : Int32} {v3 : Int32} {v4 : Int32} {v5 : Int32}
    (h1 : aw_m X d y_Tp_append [.ref 2, .int v2] (aw_s I L D) (fun r A => aw_z X (d + 1) y_AW_feed Q 30 [some (.ref 0), none, none, some (.int v3), some (.int v4), some (.int v5)] (r.toList ++ []) A)) :
    aw_z X (d + 1) y_AW_feed Q 22 [some (.ref 0), none, some (.int v2), some (.int v3), some (.int v4), some (.int v5)] [] (aw_s I L D) :=
  (s_AW_feed_22.go [some (.ref 0), none, some (.int v2), some (.int v3), some (.int v4), some (.int v5)] [.int v2, .ref 2] (aw_s I L D) rfl (z_callV (av := [.int v2]) (st := []) ok_Tp_append (Or.inl w_553) w_554 w_555 k_Tp d_AW_feed_27 rfl (aw_lt (o := 2) rfl) rfl rfl (Nat.le_of_ble_eq_true rfl) (Nat.le_refl _) (Nat.le_refl _) (aw_C.mono (h1) (fun _ _ zz => aw_Z.weak (ls' := [some (.ref 0), none, none, some (.int v3), some (.int v4), some (.int v5)]) zz (Nat.le_of_ble_eq_true rfl) ⟨Or.inr rfl, ⟨Or.inl rfl, ⟨Or.inl rfl, ⟨Or.inr rfl, ⟨Or.inr rfl, ⟨Or.inr rfl, trivial⟩⟩⟩⟩⟩⟩))))
theorem d_AW_feed_30 : decode y_AW_feed.2.1 30 = .ok (.aload_n 0, 1) := by decide +kernel
theorem d_AW_feed_31 : decode y_AW_feed.2.1 31 = .ok (.getfield 19, 3) := by decide +kernel
theorem d_AW_feed_34 : decode y_AW_feed.2.1 34 = .ok (.iload_n 3, 1) := by decide +kernel
theorem s_AW_feed_30 : aw_VS y_AW_feed 30 [o_ald 0, o_getA 0 1, o_ild 3] 35 := .cons (v_aload_n (i := 0) d_AW_feed_30 rfl) (.cons (v_getA (k := 1) k_AW (by decide) rfl (Or.inl w_491) d_AW_feed_31) (.cons (v_iload_n (i := 3) d_AW_feed_34 rfl) .nil))
theorem d_AW_feed_35 : decode y_AW_feed.2.1 35 = .ok (.invokevirtual 92, 3) := by decide +kernel
theorem b_AW_feed_30 {X : aw_X} {d : Nat} {Q : Option Value → aw_H → Prop} {I : Nat → Nat → Int32} {L : Nat → Nat → Int64} {D : Nat → Nat} {v3 : Int32} {v4 : Int32} {v5 : Int32}
    (h1 : aw_m X d y_Tp_append [.ref 2, .int v3] (aw_s I L D) (fun r A => aw_z X (d + 1) y_AW_feed Q 38 [some (.ref 0), none, none, none, some (.int v4), some (.int v5)] (r.toList ++ []) A)) :
    aw_z X (d + 1) y_AW_feed Q 30 [some (.ref 0), none, none, some (.int v3), some (.int v4), some (.int v5)] [] (aw_s I L D) :=
  (s_AW_feed_30.go [some (.ref 0), none, none, some (.int v3), some (.int v4), some (.int v5)] [.int v3, .ref 2] (aw_s I L D) rfl (z_callV (av := [.int v3]) (st := []) ok_Tp_append (Or.inl w_553) w_554 w_555 k_Tp d_AW_feed_35 rfl (aw_lt (o := 2) rfl) rfl rfl (Nat.le_of_ble_eq_true rfl) (Nat.le_refl _) (Nat.le_refl _) (aw_C.mono (h1) (fun _ _ zz => aw_Z.weak (ls' := [some (.ref 0), none, none, none, some (.int v4), some (.int v5)]) zz (Nat.le_of_ble_eq_true rfl) ⟨Or.inr rfl, ⟨Or.inl rfl, ⟨Or.inl rfl, ⟨Or.inl rfl, ⟨Or.inr rfl, ⟨Or.inr rfl, trivial⟩⟩⟩⟩⟩⟩))))
theorem d_AW_feed_38 : decode y_AW_feed.2.1 38 = .ok (.aload_n 0, 1) := by decide +kernel
theorem d_AW_feed_39 : decode y_AW_feed.2.1 39 = .ok (.getfield 19, 3) := by decide +kernel
theorem d_AW_feed_42 : decode y_AW_feed.2.1 42 = .ok (.iload 4, 2) := by decide +kernel
theorem s_AW_feed_38 : aw_VS y_AW_feed 38 [o_ald 0, o_getA 0 1, o_ild 4] 44 := .cons (v_aload_n (i := 0) d_AW_feed_38 rfl) (.cons (v_getA (k := 1) k_AW (by decide) rfl (Or.inl w_491) d_AW_feed_39) (.cons (v_iload (i := 4) d_AW_feed_42) .nil))
theorem d_AW_feed_44 : decode y_AW_feed.2.1 44 = .ok (.invokevirtual 92, 3) := by decide +kernel
theorem b_AW_feed_38 {X : aw_X} {d : Nat} {Q : Option Value → aw_H → Prop} {I : Nat → Nat → Int32} {L : Nat → Nat → Int64} {D : Nat → Nat} {v4 : Int32} {v5 : Int32}
    (h1 : aw_m X d y_Tp_append [.ref 2, .int v4] (aw_s I L D) (fun r A => aw_z X (d + 1) y_AW_feed Q 47 [some (.ref 0), none, none, none, none, some (.int v5)] (r.toList ++ []) A)) :
    aw_z X (d + 1) y_AW_feed Q 38 [some (.ref 0), none, none, none, some (.int v4), some (.int v5)] [] (aw_s I L D) :=
  (s_AW_feed_38.go [some (.ref 0), none, none, none, some (.int v4), some (.int v5)] [.int v4, .ref 2] (aw_s I L D) rfl (z_callV (av := [.int v4]) (st := []) ok_Tp_append (Or.inl w_553) w_554 w_555 k_Tp d_AW_feed_44 rfl (aw_lt (o := 2) rfl) rfl rfl (Nat.le_of_ble_eq_true rfl) (Nat.le_refl _) (Nat.le_refl _) (aw_C.mono (h1) (fun _ _ zz => aw_Z.weak (ls' := [some (.ref 0), none, none, none, none, some (.int v5)]) zz (Nat.le_of_ble_eq_true rfl) ⟨Or.inr rfl, ⟨Or.inl rfl, ⟨Or.inl rfl, ⟨Or.inl rfl, ⟨Or.inl rfl, ⟨Or.inr rfl, trivial⟩⟩⟩⟩⟩⟩))))
theorem d_AW_feed_47 : decode y_AW_feed.2.1 47 = .ok (.aload_n 0, 1) := by decide +kernel
theorem d_AW_feed_48 : decode y_AW_feed.2.1 48 = .ok (.getfield 19, 3) := by decide +kernel
theorem d_AW_feed_51 : decode y_AW_feed.2.1 51 = .ok (.iload 5, 2) := by decide +kernel
theorem s_AW_feed_47 : aw_VS y_AW_feed 47 [o_ald 0, o_getA 0 1, o_ild 5] 53 := .cons (v_aload_n (i := 0) d_AW_feed_47 rfl) (.cons (v_getA (k := 1) k_AW (by decide) rfl (Or.inl w_491) d_AW_feed_48) (.cons (v_iload (i := 5) d_AW_feed_51) .nil))
theorem d_AW_feed_53 : decode y_AW_feed.2.1 53 = .ok (.invokevirtual 92, 3) := by decide +kernel
theorem b_AW_feed_47 {X : aw_X} {d : Nat} {Q : Option Value → aw_H → Prop} {I : Nat → Nat → Int32} {L : Nat → Nat → Int64} {D : Nat → Nat} {v5 : Int32}
    (h1 : aw_m X d y_Tp_append [.ref 2, .int v5] (aw_s I L D) (fun r A => aw_z X (d + 1) y_AW_feed Q 56 [some (.ref 0), none, none, none, none, none] (r.toList ++ []) A)) :
    aw_z X (d + 1) y_AW_feed Q 47 [some (.ref 0), none, none, none, none, some (.int v5)] [] (aw_s I L D) :=
  (s_AW_feed_47.go [some (.ref 0), none, none, none, none, some (.int v5)] [.int v5, .ref 2] (aw_s I L D) rfl (z_callV (av := [.int v5]) (st := []) ok_Tp_append (Or.inl w_553) w_554 w_555 k_Tp d_AW_feed_53 rfl (aw_lt (o := 2) rfl) rfl rfl (Nat.le_of_ble_eq_true rfl) (Nat.le_refl _) (Nat.le_refl _) (aw_C.mono (h1) (fun _ _ zz => aw_Z.weak (ls' := [some (.ref 0), none, none, none, none, none]) zz (Nat.le_of_ble_eq_true rfl) ⟨Or.inr rfl, ⟨Or.inl rfl, ⟨Or.inl rfl, ⟨Or.inl rfl, ⟨Or.inl rfl, ⟨Or.inl rfl, trivial⟩⟩⟩⟩⟩⟩))))
theorem d_AW_feed_56 : decode y_AW_feed.2.1 56 = .ok (.aload_n 0, 1) := by decide +kernel
theorem d_AW_feed_57 : decode y_AW_feed.2.1 57 = .ok (.getfield 19, 3) := by decide +kernel
theorem d_AW_feed_60 : decode y_AW_feed.2.1 60 = .ok (.getfield 96, 3) := by decide +kernel
theorem s_AW_feed_56 : aw_VS y_AW_feed 56 [o_ald 0, o_getA 0 1, o_getI 2 1] 63 := .cons (v_aload_n (i := 0) d_AW_feed_56 rfl) (.cons (v_getA (k := 1) k_AW (by decide) rfl (Or.inl w_491) d_AW_feed_57) (.cons (v_getI (k := 1) k_Tp (by decide) (Or.inl rfl) (Or.inr ⟨"AllWays", w_193⟩) d_AW_feed_60) .nil))
theorem d_AW_feed_63 : decode y_AW_feed.2.1 63 = .ok (.ireturn, 1) := by decide +kernel
theorem b_AW_feed_56 {X : aw_X} {d : Nat} {Q : Option Value → aw_H → Prop} {I : Nat → Nat → Int32} {L : Nat → Nat → Int64} {D : Nat → Nat} 
    (h1 : Q (some (.int (I 2 1))) (aw_s I L D)) :
    aw_z X (d + 1) y_AW_feed Q 56 [some (.ref 0), none, none, none, none, none] [] (aw_s I L D) :=
  (s_AW_feed_56.go [some (.ref 0), none, none, none, none, none] [.int (I 2 1)] (aw_s I L D) rfl (z_iret d_AW_feed_63 rfl rfl (h1)))
