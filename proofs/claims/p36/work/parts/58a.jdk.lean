/-! PART 58a: what lies outside; the methods of the JDK on the two strings (head by gen_jdk.py) -/
theorem v_i2b {y : aw_Y} {pc : Nat} (hd : decode y.2.1 pc = .ok (.i2b, 1)) : aw_V y pc (o_i1 (fun x => x.toInt8.toInt32)) (pc + 1) := aw_i1 fun _ _ _ _ _ _ _ _ _ _ _ _ _ _ _ _ _ _ hx hb k => lv_i2b hx hb hd rfl k
def y_S_length : aw_Y := (⟨"java/lang/String", "length", "()I"⟩, prog_19_method_54_code, 1, some .int)
def y_S_coder : aw_Y := (⟨"java/lang/String", "coder", "()B"⟩, prog_19_method_152_code, 1, some .byte)
def y_S_charAt : aw_Y := (⟨"java/lang/String", "charAt", "(I)C"⟩, prog_19_method_56_code, 2, some .char)
def y_S_isLatin1 : aw_Y := (⟨"java/lang/String", "isLatin1", "()Z"⟩, prog_19_method_154_code, 1, some .boolean)
def y_S_checkIndex : aw_Y := (⟨"java/lang/String", "checkIndex", "(II)V"⟩, prog_19_method_155_code, 2, none)
def y_S_indexOf1 : aw_Y := (⟨"java/lang/String", "indexOf", "(I)I"⟩, prog_19_method_79_code, 2, some .int)
def y_S_indexOf2 : aw_Y := (⟨"java/lang/String", "indexOf", "(II)I"⟩, prog_19_method_80_code, 3, some .int)
def y_SL_charAt : aw_Y := (⟨"java/lang/StringLatin1", "charAt", "([BI)C"⟩, prog_20_method_2_code, 2, some .char)
def y_SL_indexOf : aw_Y := (⟨"java/lang/StringLatin1", "indexOf", "([BIII)I"⟩, prog_20_method_22_code, 4, some .int)
def y_SL_canEncode : aw_Y := (⟨"java/lang/StringLatin1", "canEncode", "(I)Z"⟩, prog_20_method_4_code, 1, some .boolean)
def y_SL_ixc : aw_Y := (⟨"java/lang/StringLatin1", "indexOfChar", "([BIII)I"⟩, prog_20_method_23_code, 6, some .int)
def y_PC_ci : aw_Y := (⟨"jdk/internal/util/Preconditions", "checkIndex", "(IILjava/util/function/BiFunction;)I"⟩, prog_27_method_11_code, 3, some .int)
theorem wj_520 : Cond.code y_S_length.1 prog_19_method_54_code 1 (some .int) ∈ aw_T := aw_t2 228 rfl rfl
theorem wj_518 : Cond.instanceMethod y_S_length.1 ∈ aw_T := aw_t2 226 rfl rfl
theorem wj_62 : Cond.initialized "java/lang/String" ∈ aw_T := aw_t1 10 rfl rfl
theorem ok_S_length : aw_ok y_S_length 0 := ⟨by decide +kernel, by decide +kernel, by decide +kernel, wj_520, wj_62, by decide⟩
theorem wj_519 : Cond.selects "java/lang/String" y_S_length.1 y_S_length.1 ∈ aw_T := aw_t2 227 rfl rfl
theorem se_S_length : Cond.selects y_S_length.1.cls y_S_length.1 y_S_length.1 ∈ aw_T := wj_519
theorem in_S_length : Cond.instanceMethod y_S_length.1 ∈ aw_T := wj_518
theorem wj_524 : Cond.code y_S_coder.1 prog_19_method_152_code 1 (some .byte) ∈ aw_T := aw_t2 232 rfl rfl
theorem wj_522 : Cond.instanceMethod y_S_coder.1 ∈ aw_T := aw_t2 230 rfl rfl
theorem ok_S_coder : aw_ok y_S_coder 0 := ⟨by decide +kernel, by decide +kernel, by decide +kernel, wj_524, wj_62, by decide⟩
theorem wj_523 : Cond.selects "java/lang/String" y_S_coder.1 y_S_coder.1 ∈ aw_T := aw_t2 231 rfl rfl
theorem se_S_coder : Cond.selects y_S_coder.1.cls y_S_coder.1 y_S_coder.1 ∈ aw_T := wj_523
theorem in_S_coder : Cond.instanceMethod y_S_coder.1 ∈ aw_T := wj_522
theorem wj_530 : Cond.code y_S_charAt.1 prog_19_method_56_code 2 (some .char) ∈ aw_T := aw_t2 238 rfl rfl
theorem wj_528 : Cond.instanceMethod y_S_charAt.1 ∈ aw_T := aw_t2 236 rfl rfl
theorem ok_S_charAt : aw_ok y_S_charAt 1 := ⟨by decide +kernel, by decide +kernel, by decide +kernel, wj_530, wj_62, by decide⟩
theorem wj_529 : Cond.selects "java/lang/String" y_S_charAt.1 y_S_charAt.1 ∈ aw_T := aw_t2 237 rfl rfl
theorem se_S_charAt : Cond.selects y_S_charAt.1.cls y_S_charAt.1 y_S_charAt.1 ∈ aw_T := wj_529
theorem in_S_charAt : Cond.instanceMethod y_S_charAt.1 ∈ aw_T := wj_528
theorem wj_534 : Cond.code y_S_isLatin1.1 prog_19_method_154_code 1 (some .boolean) ∈ aw_T := aw_t3 2 rfl rfl
theorem wj_532 : Cond.instanceMethod y_S_isLatin1.1 ∈ aw_T := aw_t3 0 rfl rfl
theorem ok_S_isLatin1 : aw_ok y_S_isLatin1 0 := ⟨by decide +kernel, by decide +kernel, by decide +kernel, wj_534, wj_62, by decide⟩
theorem wj_533 : Cond.selects "java/lang/String" y_S_isLatin1.1 y_S_isLatin1.1 ∈ aw_T := aw_t3 1 rfl rfl
theorem se_S_isLatin1 : Cond.selects y_S_isLatin1.1.cls y_S_isLatin1.1 y_S_isLatin1.1 ∈ aw_T := wj_533
theorem in_S_isLatin1 : Cond.instanceMethod y_S_isLatin1.1 ∈ aw_T := wj_532
theorem wj_540 : Cond.code y_S_checkIndex.1 prog_19_method_155_code 2 (none) ∈ aw_T := aw_t3 8 rfl rfl
theorem wj_539 : Cond.static y_S_checkIndex.1 ∈ aw_T := aw_t3 7 rfl rfl
theorem ok_S_checkIndex : aw_ok y_S_checkIndex 2 := ⟨by decide +kernel, by decide +kernel, by decide +kernel, wj_540, wj_62, by decide⟩
theorem in_S_checkIndex : Cond.static y_S_checkIndex.1 ∈ aw_T := wj_539
theorem wj_573 : Cond.code y_S_indexOf1.1 prog_19_method_79_code 2 (some .int) ∈ aw_T := aw_t3 41 rfl rfl
theorem wj_571 : Cond.instanceMethod y_S_indexOf1.1 ∈ aw_T := aw_t3 39 rfl rfl
theorem ok_S_indexOf1 : aw_ok y_S_indexOf1 1 := ⟨by decide +kernel, by decide +kernel, by decide +kernel, wj_573, wj_62, by decide⟩
theorem wj_572 : Cond.selects "java/lang/String" y_S_indexOf1.1 y_S_indexOf1.1 ∈ aw_T := aw_t3 40 rfl rfl
theorem se_S_indexOf1 : Cond.selects y_S_indexOf1.1.cls y_S_indexOf1.1 y_S_indexOf1.1 ∈ aw_T := wj_572
theorem in_S_indexOf1 : Cond.instanceMethod y_S_indexOf1.1 ∈ aw_T := wj_571
theorem wj_577 : Cond.code y_S_indexOf2.1 prog_19_method_80_code 3 (some .int) ∈ aw_T := aw_t3 45 rfl rfl
theorem wj_575 : Cond.instanceMethod y_S_indexOf2.1 ∈ aw_T := aw_t3 43 rfl rfl
theorem ok_S_indexOf2 : aw_ok y_S_indexOf2 2 := ⟨by decide +kernel, by decide +kernel, by decide +kernel, wj_577, wj_62, by decide⟩
theorem wj_576 : Cond.selects "java/lang/String" y_S_indexOf2.1 y_S_indexOf2.1 ∈ aw_T := aw_t3 44 rfl rfl
theorem se_S_indexOf2 : Cond.selects y_S_indexOf2.1.cls y_S_indexOf2.1 y_S_indexOf2.1 ∈ aw_T := wj_576
theorem in_S_indexOf2 : Cond.instanceMethod y_S_indexOf2.1 ∈ aw_T := wj_575
theorem wj_537 : Cond.code y_SL_charAt.1 prog_20_method_2_code 2 (some .char) ∈ aw_T := aw_t3 5 rfl rfl
theorem wj_536 : Cond.static y_SL_charAt.1 ∈ aw_T := aw_t3 4 rfl rfl
theorem wj_63 : Cond.initialized "java/lang/StringLatin1" ∈ aw_T := aw_t1 11 rfl rfl
theorem ok_SL_charAt : aw_ok y_SL_charAt 2 := ⟨by decide +kernel, by decide +kernel, by decide +kernel, wj_537, wj_63, by decide⟩
theorem in_SL_charAt : Cond.static y_SL_charAt.1 ∈ aw_T := wj_536
theorem wj_581 : Cond.code y_SL_indexOf.1 prog_20_method_22_code 4 (some .int) ∈ aw_T := aw_t3 49 rfl rfl
theorem wj_580 : Cond.static y_SL_indexOf.1 ∈ aw_T := aw_t3 48 rfl rfl
theorem ok_SL_indexOf : aw_ok y_SL_indexOf 4 := ⟨by decide +kernel, by decide +kernel, by decide +kernel, wj_581, wj_63, by decide⟩
theorem in_SL_indexOf : Cond.static y_SL_indexOf.1 ∈ aw_T := wj_580
theorem wj_584 : Cond.code y_SL_canEncode.1 prog_20_method_4_code 1 (some .boolean) ∈ aw_T := aw_t3 52 rfl rfl
theorem wj_583 : Cond.static y_SL_canEncode.1 ∈ aw_T := aw_t3 51 rfl rfl
theorem ok_SL_canEncode : aw_ok y_SL_canEncode 1 := ⟨by decide +kernel, by decide +kernel, by decide +kernel, wj_584, wj_63, by decide⟩
theorem in_SL_canEncode : Cond.static y_SL_canEncode.1 ∈ aw_T := wj_583
theorem wj_593 : Cond.code y_SL_ixc.1 prog_20_method_23_code 6 (some .int) ∈ aw_T := aw_t3 61 rfl rfl
theorem wj_592 : Cond.static y_SL_ixc.1 ∈ aw_T := aw_t3 60 rfl rfl
theorem ok_SL_ixc : aw_ok y_SL_ixc 4 := ⟨by decide +kernel, by decide +kernel, by decide +kernel, wj_593, wj_63, by decide⟩
theorem in_SL_ixc : Cond.static y_SL_ixc.1 ∈ aw_T := wj_592
theorem wj_545 : Cond.code y_PC_ci.1 prog_27_method_11_code 3 (some .int) ∈ aw_T := aw_t3 13 rfl rfl
theorem wj_544 : Cond.static y_PC_ci.1 ∈ aw_T := aw_t3 12 rfl rfl
theorem wj_64 : Cond.initialized "jdk/internal/util/Preconditions" ∈ aw_T := aw_t1 12 rfl rfl
theorem ok_PC_ci : aw_ok y_PC_ci 3 := ⟨by decide +kernel, by decide +kernel, by decide +kernel, wj_545, wj_64, by decide⟩
theorem in_PC_ci : Cond.static y_PC_ci.1 ∈ aw_T := wj_544
theorem wj_517 : Cond.methodLink "AllWays$Tokens" 101 y_S_length.1 ∈ aw_T := aw_t2 225 rfl rfl
theorem ml_Tk_101 : Cond.methodLink "AllWays$Tokens" 101 y_S_length.1 ∈ aw_T := wj_517
theorem wj_521 : Cond.methodLink "java/lang/String" 335 y_S_coder.1 ∈ aw_T := aw_t2 229 rfl rfl
theorem ml_S_335 : Cond.methodLink "java/lang/String" 335 y_S_coder.1 ∈ aw_T := wj_521
theorem wj_527 : Cond.methodLink "AllWays$Tokens" 105 y_S_charAt.1 ∈ aw_T := aw_t2 235 rfl rfl
theorem ml_Tk_105 : Cond.methodLink "AllWays$Tokens" 105 y_S_charAt.1 ∈ aw_T := wj_527
theorem wj_531 : Cond.methodLink "java/lang/String" 492 y_S_isLatin1.1 ∈ aw_T := aw_t2 239 rfl rfl
theorem ml_S_492 : Cond.methodLink "java/lang/String" 492 y_S_isLatin1.1 ∈ aw_T := wj_531
theorem wj_535 : Cond.methodLink "java/lang/String" 495 y_SL_charAt.1 ∈ aw_T := aw_t3 3 rfl rfl
theorem ml_S_495 : Cond.methodLink "java/lang/String" 495 y_SL_charAt.1 ∈ aw_T := wj_535
theorem wj_538 : Cond.methodLink "java/lang/StringLatin1" 9 y_S_checkIndex.1 ∈ aw_T := aw_t3 6 rfl rfl
theorem ml_SL_9 : Cond.methodLink "java/lang/StringLatin1" 9 y_S_checkIndex.1 ∈ aw_T := wj_538
theorem wj_543 : Cond.methodLink "java/lang/String" 1059 y_PC_ci.1 ∈ aw_T := aw_t3 11 rfl rfl
theorem ml_S_1059 : Cond.methodLink "java/lang/String" 1059 y_PC_ci.1 ∈ aw_T := wj_543
theorem wj_570 : Cond.methodLink "AllWays$Tokens" 80 y_S_indexOf1.1 ∈ aw_T := aw_t3 38 rfl rfl
theorem ml_Tk_80 : Cond.methodLink "AllWays$Tokens" 80 y_S_indexOf1.1 ∈ aw_T := wj_570
theorem wj_574 : Cond.methodLink "java/lang/String" 633 y_S_indexOf2.1 ∈ aw_T := aw_t3 42 rfl rfl
theorem ml_S_633 : Cond.methodLink "java/lang/String" 633 y_S_indexOf2.1 ∈ aw_T := wj_574
theorem wj_578 : Cond.methodLink "java/lang/String" 505 y_S_length.1 ∈ aw_T := aw_t3 46 rfl rfl
theorem ml_S_505 : Cond.methodLink "java/lang/String" 505 y_S_length.1 ∈ aw_T := wj_578
theorem wj_579 : Cond.methodLink "java/lang/String" 637 y_SL_indexOf.1 ∈ aw_T := aw_t3 47 rfl rfl
theorem ml_S_637 : Cond.methodLink "java/lang/String" 637 y_SL_indexOf.1 ∈ aw_T := wj_579
theorem wj_582 : Cond.methodLink "java/lang/StringLatin1" 88 y_SL_canEncode.1 ∈ aw_T := aw_t3 50 rfl rfl
theorem ml_SL_88 : Cond.methodLink "java/lang/StringLatin1" 88 y_SL_canEncode.1 ∈ aw_T := wj_582
theorem wj_591 : Cond.methodLink "java/lang/StringLatin1" 95 y_SL_ixc.1 ∈ aw_T := aw_t3 59 rfl rfl
theorem ml_SL_95 : Cond.methodLink "java/lang/StringLatin1" 95 y_SL_ixc.1 ∈ aw_T := wj_591
theorem wj_585 : Cond.methodLink "java/lang/StringLatin1" 92 y_JM_max.1 ∈ aw_T := aw_t3 53 rfl rfl
theorem ml_SL_92 : Cond.methodLink "java/lang/StringLatin1" 92 y_JM_max.1 ∈ aw_T := wj_585
theorem wj_588 : Cond.methodLink "java/lang/StringLatin1" 38 y_JM_min.1 ∈ aw_T := aw_t3 56 rfl rfl
theorem ml_SL_38 : Cond.methodLink "java/lang/StringLatin1" 38 y_JM_min.1 ∈ aw_T := wj_588
theorem wj_525 : Cond.fieldLink "java/lang/String" 38 "java/lang/String" "COMPACT_STRINGS" "Z" ∈ aw_T := aw_t2 233 rfl rfl
-- COMPACT_STRINGS: wj_525
theorem wj_541 : Cond.fieldLink "java/lang/String" 1053 "jdk/internal/util/Preconditions" "SIOOBE_FORMATTER" "Ljava/util/function/BiFunction;" ∈ aw_T := aw_t3 9 rfl rfl
-- SIOOBE_FORMATTER: wj_541
theorem wj_1123 : Cond.fieldLink "java/lang/String" 9 "java/lang/String" "value" "[B" ∈ aw_T := aw_t5 111 rfl rfl
-- value: wj_1123
theorem wj_1124 : Cond.fieldLink "java/lang/String" 15 "java/lang/String" "coder" "B" ∈ aw_T := aw_t5 112 rfl rfl
-- coder: wj_1124
theorem d_S_length_0 : decode y_S_length.2.1 0 = .ok (.aload_n 0, 1) := by decide +kernel
theorem d_S_length_1 : decode y_S_length.2.1 1 = .ok (.getfield 9, 3) := by decide +kernel
theorem s_S_length_0 : aw_VS y_S_length 0 [o_ald 0] 1 := .cons (v_aload_n (i := 0) d_S_length_0 rfl) .nil
theorem d_S_length_4 : decode y_S_length.2.1 4 = .ok (.arraylength, 1) := by decide +kernel
theorem d_S_length_5 : decode y_S_length.2.1 5 = .ok (.aload_n 0, 1) := by decide +kernel
theorem d_S_length_6 : decode y_S_length.2.1 6 = .ok (.invokevirtual 335, 3) := by decide +kernel
theorem s_S_length_5 : aw_VS y_S_length 5 [o_ald 0] 6 := .cons (v_aload_n (i := 0) d_S_length_5 rfl) .nil
theorem d_S_length_9 : decode y_S_length.2.1 9 = .ok (.ishr, 1) := by decide +kernel
theorem d_S_length_10 : decode y_S_length.2.1 10 = .ok (.ireturn, 1) := by decide +kernel
theorem s_S_length_9 : aw_VS y_S_length 9 [o_i2 (fun x z => x >>> (z &&& 31))] 10 := .cons (v_ishr d_S_length_9) .nil
theorem d_S_coder_0 : decode y_S_coder.2.1 0 = .ok (.getstatic 38, 3) := by decide +kernel
theorem d_S_coder_3 : decode y_S_coder.2.1 3 = .ok (.ifCond .eq (10), 3) := by decide +kernel
theorem d_S_coder_6 : decode y_S_coder.2.1 6 = .ok (.aload_n 0, 1) := by decide +kernel
theorem d_S_coder_7 : decode y_S_coder.2.1 7 = .ok (.getfield 15, 3) := by decide +kernel
theorem s_S_coder_6 : aw_VS y_S_coder 6 [o_ald 0] 7 := .cons (v_aload_n (i := 0) d_S_coder_6 rfl) .nil
theorem d_S_coder_10 : decode y_S_coder.2.1 10 = .ok (.goto (4), 3) := by decide +kernel
theorem d_S_coder_13 : decode y_S_coder.2.1 13 = .ok (.iconst 1, 1) := by decide +kernel
theorem s_S_coder_13 : aw_VS y_S_coder 13 [o_c (.int (1 : Int32))] 14 := .cons (v_iconst (v := (1 : Int32)) d_S_coder_13 (by decide +kernel)) .nil
theorem d_S_coder_14 : decode y_S_coder.2.1 14 = .ok (.ireturn, 1) := by decide +kernel
theorem d_S_charAt_0 : decode y_S_charAt.2.1 0 = .ok (.aload_n 0, 1) := by decide +kernel
theorem d_S_charAt_1 : decode y_S_charAt.2.1 1 = .ok (.invokevirtual 492, 3) := by decide +kernel
theorem s_S_charAt_0 : aw_VS y_S_charAt 0 [o_ald 0] 1 := .cons (v_aload_n (i := 0) d_S_charAt_0 rfl) .nil
theorem d_S_charAt_4 : decode y_S_charAt.2.1 4 = .ok (.ifCond .eq (12), 3) := by decide +kernel
theorem d_S_charAt_7 : decode y_S_charAt.2.1 7 = .ok (.aload_n 0, 1) := by decide +kernel
theorem d_S_charAt_8 : decode y_S_charAt.2.1 8 = .ok (.getfield 9, 3) := by decide +kernel
theorem s_S_charAt_7 : aw_VS y_S_charAt 7 [o_ald 0] 8 := .cons (v_aload_n (i := 0) d_S_charAt_7 rfl) .nil
theorem d_S_charAt_11 : decode y_S_charAt.2.1 11 = .ok (.iload_n 1, 1) := by decide +kernel
theorem d_S_charAt_12 : decode y_S_charAt.2.1 12 = .ok (.invokestatic 495, 3) := by decide +kernel
theorem s_S_charAt_11 : aw_VS y_S_charAt 11 [o_ild 1] 12 := .cons (v_iload_n (i := 1) d_S_charAt_11 rfl) .nil
theorem d_S_charAt_15 : decode y_S_charAt.2.1 15 = .ok (.ireturn, 1) := by decide +kernel
theorem d_S_charAt_16 : decode y_S_charAt.2.1 16 = .ok (.aload_n 0, 1) := by decide +kernel
theorem d_S_charAt_17 : decode y_S_charAt.2.1 17 = .ok (.getfield 9, 3) := by decide +kernel
theorem s_S_charAt_16 : aw_VS y_S_charAt 16 [o_ald 0] 17 := .cons (v_aload_n (i := 0) d_S_charAt_16 rfl) .nil
theorem d_S_charAt_20 : decode y_S_charAt.2.1 20 = .ok (.iload_n 1, 1) := by decide +kernel
theorem d_S_charAt_21 : decode y_S_charAt.2.1 21 = .ok (.invokestatic 498, 3) := by decide +kernel
theorem s_S_charAt_20 : aw_VS y_S_charAt 20 [o_ild 1] 21 := .cons (v_iload_n (i := 1) d_S_charAt_20 rfl) .nil
theorem d_S_charAt_24 : decode y_S_charAt.2.1 24 = .ok (.ireturn, 1) := by decide +kernel
theorem d_S_isLatin1_0 : decode y_S_isLatin1.2.1 0 = .ok (.getstatic 38, 3) := by decide +kernel
theorem d_S_isLatin1_3 : decode y_S_isLatin1.2.1 3 = .ok (.ifCond .eq (14), 3) := by decide +kernel
theorem d_S_isLatin1_6 : decode y_S_isLatin1.2.1 6 = .ok (.aload_n 0, 1) := by decide +kernel
theorem d_S_isLatin1_7 : decode y_S_isLatin1.2.1 7 = .ok (.getfield 15, 3) := by decide +kernel
theorem s_S_isLatin1_6 : aw_VS y_S_isLatin1 6 [o_ald 0] 7 := .cons (v_aload_n (i := 0) d_S_isLatin1_6 rfl) .nil
theorem d_S_isLatin1_10 : decode y_S_isLatin1.2.1 10 = .ok (.ifCond .ne (7), 3) := by decide +kernel
theorem d_S_isLatin1_13 : decode y_S_isLatin1.2.1 13 = .ok (.iconst 1, 1) := by decide +kernel
theorem d_S_isLatin1_14 : decode y_S_isLatin1.2.1 14 = .ok (.goto (4), 3) := by decide +kernel
theorem s_S_isLatin1_13 : aw_VS y_S_isLatin1 13 [o_c (.int (1 : Int32))] 14 := .cons (v_iconst (v := (1 : Int32)) d_S_isLatin1_13 (by decide +kernel)) .nil
theorem d_S_isLatin1_17 : decode y_S_isLatin1.2.1 17 = .ok (.iconst 0, 1) := by decide +kernel
theorem s_S_isLatin1_17 : aw_VS y_S_isLatin1 17 [o_c (.int (0 : Int32))] 18 := .cons (v_iconst (v := (0 : Int32)) d_S_isLatin1_17 (by decide +kernel)) .nil
theorem d_S_isLatin1_18 : decode y_S_isLatin1.2.1 18 = .ok (.ireturn, 1) := by decide +kernel
theorem d_S_checkIndex_0 : decode y_S_checkIndex.2.1 0 = .ok (.iload_n 0, 1) := by decide +kernel
theorem d_S_checkIndex_1 : decode y_S_checkIndex.2.1 1 = .ok (.iload_n 1, 1) := by decide +kernel
theorem d_S_checkIndex_2 : decode y_S_checkIndex.2.1 2 = .ok (.getstatic 1053, 3) := by decide +kernel
theorem s_S_checkIndex_0 : aw_VS y_S_checkIndex 0 [o_ild 0, o_ild 1] 2 := .cons (v_iload_n (i := 0) d_S_checkIndex_0 rfl) (.cons (v_iload_n (i := 1) d_S_checkIndex_1 rfl) .nil)
theorem d_S_checkIndex_5 : decode y_S_checkIndex.2.1 5 = .ok (.invokestatic 1059, 3) := by decide +kernel
theorem d_S_checkIndex_8 : decode y_S_checkIndex.2.1 8 = .ok (.pop, 1) := by decide +kernel
theorem d_S_checkIndex_9 : decode y_S_checkIndex.2.1 9 = .ok (.return_, 1) := by decide +kernel
theorem s_S_checkIndex_8 : aw_VS y_S_checkIndex 8 [o_pop] 9 := .cons (v_pop d_S_checkIndex_8) .nil
theorem d_S_indexOf1_0 : decode y_S_indexOf1.2.1 0 = .ok (.aload_n 0, 1) := by decide +kernel
theorem d_S_indexOf1_1 : decode y_S_indexOf1.2.1 1 = .ok (.iload_n 1, 1) := by decide +kernel
theorem d_S_indexOf1_2 : decode y_S_indexOf1.2.1 2 = .ok (.iconst 0, 1) := by decide +kernel
theorem d_S_indexOf1_3 : decode y_S_indexOf1.2.1 3 = .ok (.invokevirtual 633, 3) := by decide +kernel
theorem s_S_indexOf1_0 : aw_VS y_S_indexOf1 0 [o_ald 0, o_ild 1, o_c (.int (0 : Int32))] 3 := .cons (v_aload_n (i := 0) d_S_indexOf1_0 rfl) (.cons (v_iload_n (i := 1) d_S_indexOf1_1 rfl) (.cons (v_iconst (v := (0 : Int32)) d_S_indexOf1_2 (by decide +kernel)) .nil))
theorem d_S_indexOf1_6 : decode y_S_indexOf1.2.1 6 = .ok (.ireturn, 1) := by decide +kernel
theorem d_S_indexOf2_0 : decode y_S_indexOf2.2.1 0 = .ok (.aload_n 0, 1) := by decide +kernel
theorem d_S_indexOf2_1 : decode y_S_indexOf2.2.1 1 = .ok (.invokevirtual 492, 3) := by decide +kernel
theorem s_S_indexOf2_0 : aw_VS y_S_indexOf2 0 [o_ald 0] 1 := .cons (v_aload_n (i := 0) d_S_indexOf2_0 rfl) .nil
theorem d_S_indexOf2_4 : decode y_S_indexOf2.2.1 4 = .ok (.ifCond .eq (19), 3) := by decide +kernel
theorem d_S_indexOf2_7 : decode y_S_indexOf2.2.1 7 = .ok (.aload_n 0, 1) := by decide +kernel
theorem d_S_indexOf2_8 : decode y_S_indexOf2.2.1 8 = .ok (.getfield 9, 3) := by decide +kernel
theorem s_S_indexOf2_7 : aw_VS y_S_indexOf2 7 [o_ald 0] 8 := .cons (v_aload_n (i := 0) d_S_indexOf2_7 rfl) .nil
theorem d_S_indexOf2_11 : decode y_S_indexOf2.2.1 11 = .ok (.iload_n 1, 1) := by decide +kernel
theorem d_S_indexOf2_12 : decode y_S_indexOf2.2.1 12 = .ok (.iload_n 2, 1) := by decide +kernel
theorem d_S_indexOf2_13 : decode y_S_indexOf2.2.1 13 = .ok (.aload_n 0, 1) := by decide +kernel
theorem d_S_indexOf2_14 : decode y_S_indexOf2.2.1 14 = .ok (.invokevirtual 505, 3) := by decide +kernel
theorem s_S_indexOf2_11 : aw_VS y_S_indexOf2 11 [o_ild 1, o_ild 2, o_ald 0] 14 := .cons (v_iload_n (i := 1) d_S_indexOf2_11 rfl) (.cons (v_iload_n (i := 2) d_S_indexOf2_12 rfl) (.cons (v_aload_n (i := 0) d_S_indexOf2_13 rfl) .nil))
theorem d_S_indexOf2_17 : decode y_S_indexOf2.2.1 17 = .ok (.invokestatic 637, 3) := by decide +kernel
theorem d_S_indexOf2_20 : decode y_S_indexOf2.2.1 20 = .ok (.goto (16), 3) := by decide +kernel
theorem d_S_indexOf2_23 : decode y_S_indexOf2.2.1 23 = .ok (.aload_n 0, 1) := by decide +kernel
theorem d_S_indexOf2_24 : decode y_S_indexOf2.2.1 24 = .ok (.getfield 9, 3) := by decide +kernel
theorem s_S_indexOf2_23 : aw_VS y_S_indexOf2 23 [o_ald 0] 24 := .cons (v_aload_n (i := 0) d_S_indexOf2_23 rfl) .nil
theorem d_S_indexOf2_27 : decode y_S_indexOf2.2.1 27 = .ok (.iload_n 1, 1) := by decide +kernel
theorem d_S_indexOf2_28 : decode y_S_indexOf2.2.1 28 = .ok (.iload_n 2, 1) := by decide +kernel
theorem d_S_indexOf2_29 : decode y_S_indexOf2.2.1 29 = .ok (.aload_n 0, 1) := by decide +kernel
theorem d_S_indexOf2_30 : decode y_S_indexOf2.2.1 30 = .ok (.invokevirtual 505, 3) := by decide +kernel
theorem s_S_indexOf2_27 : aw_VS y_S_indexOf2 27 [o_ild 1, o_ild 2, o_ald 0] 30 := .cons (v_iload_n (i := 1) d_S_indexOf2_27 rfl) (.cons (v_iload_n (i := 2) d_S_indexOf2_28 rfl) (.cons (v_aload_n (i := 0) d_S_indexOf2_29 rfl) .nil))
theorem d_S_indexOf2_33 : decode y_S_indexOf2.2.1 33 = .ok (.invokestatic 640, 3) := by decide +kernel
theorem d_S_indexOf2_36 : decode y_S_indexOf2.2.1 36 = .ok (.ireturn, 1) := by decide +kernel
theorem d_SL_charAt_0 : decode y_SL_charAt.2.1 0 = .ok (.iload_n 1, 1) := by decide +kernel
theorem d_SL_charAt_1 : decode y_SL_charAt.2.1 1 = .ok (.aload_n 0, 1) := by decide +kernel
theorem d_SL_charAt_2 : decode y_SL_charAt.2.1 2 = .ok (.arraylength, 1) := by decide +kernel
theorem s_SL_charAt_0 : aw_VS y_SL_charAt 0 [o_ild 1, o_ald 0] 2 := .cons (v_iload_n (i := 1) d_SL_charAt_0 rfl) (.cons (v_aload_n (i := 0) d_SL_charAt_1 rfl) .nil)
theorem d_SL_charAt_3 : decode y_SL_charAt.2.1 3 = .ok (.invokestatic 9, 3) := by decide +kernel
theorem d_SL_charAt_6 : decode y_SL_charAt.2.1 6 = .ok (.aload_n 0, 1) := by decide +kernel
theorem d_SL_charAt_7 : decode y_SL_charAt.2.1 7 = .ok (.iload_n 1, 1) := by decide +kernel
theorem d_SL_charAt_8 : decode y_SL_charAt.2.1 8 = .ok (.baload, 1) := by decide +kernel
theorem s_SL_charAt_6 : aw_VS y_SL_charAt 6 [o_ald 0, o_ild 1] 8 := .cons (v_aload_n (i := 0) d_SL_charAt_6 rfl) (.cons (v_iload_n (i := 1) d_SL_charAt_7 rfl) .nil)
theorem d_SL_charAt_9 : decode y_SL_charAt.2.1 9 = .ok (.sipush 255, 3) := by decide +kernel
theorem d_SL_charAt_12 : decode y_SL_charAt.2.1 12 = .ok (.iand, 1) := by decide +kernel
theorem d_SL_charAt_13 : decode y_SL_charAt.2.1 13 = .ok (.i2c, 1) := by decide +kernel
theorem d_SL_charAt_14 : decode y_SL_charAt.2.1 14 = .ok (.ireturn, 1) := by decide +kernel
theorem s_SL_charAt_9 : aw_VS y_SL_charAt 9 [o_c (.int (255 : Int32)), o_i2 (fun x z => x &&& z), o_i1 (fun x => (x.toUInt32 % 65536).toInt32)] 14 := .cons (v_sipush (v := (255 : Int32)) d_SL_charAt_9 (by decide +kernel)) (.cons (v_iand d_SL_charAt_12) (.cons (v_i2c d_SL_charAt_13) .nil))
theorem d_SL_indexOf_0 : decode y_SL_indexOf.2.1 0 = .ok (.iload_n 1, 1) := by decide +kernel
theorem d_SL_indexOf_1 : decode y_SL_indexOf.2.1 1 = .ok (.invokestatic 88, 3) := by decide +kernel
theorem s_SL_indexOf_0 : aw_VS y_SL_indexOf 0 [o_ild 1] 1 := .cons (v_iload_n (i := 1) d_SL_indexOf_0 rfl) .nil
theorem d_SL_indexOf_4 : decode y_SL_indexOf.2.1 4 = .ok (.ifCond .ne (5), 3) := by decide +kernel
theorem d_SL_indexOf_7 : decode y_SL_indexOf.2.1 7 = .ok (.iconst (-1), 1) := by decide +kernel
theorem d_SL_indexOf_8 : decode y_SL_indexOf.2.1 8 = .ok (.ireturn, 1) := by decide +kernel
theorem s_SL_indexOf_7 : aw_VS y_SL_indexOf 7 [o_c (.int (-1 : Int32))] 8 := .cons (v_iconst (v := (-1 : Int32)) d_SL_indexOf_7 (by decide +kernel)) .nil
theorem d_SL_indexOf_9 : decode y_SL_indexOf.2.1 9 = .ok (.iload_n 2, 1) := by decide +kernel
theorem d_SL_indexOf_10 : decode y_SL_indexOf.2.1 10 = .ok (.iconst 0, 1) := by decide +kernel
theorem d_SL_indexOf_11 : decode y_SL_indexOf.2.1 11 = .ok (.invokestatic 92, 3) := by decide +kernel
theorem s_SL_indexOf_9 : aw_VS y_SL_indexOf 9 [o_ild 2, o_c (.int (0 : Int32))] 11 := .cons (v_iload_n (i := 2) d_SL_indexOf_9 rfl) (.cons (v_iconst (v := (0 : Int32)) d_SL_indexOf_10 (by decide +kernel)) .nil)
theorem d_SL_indexOf_14 : decode y_SL_indexOf.2.1 14 = .ok (.istore_n 2, 1) := by decide +kernel
theorem d_SL_indexOf_15 : decode y_SL_indexOf.2.1 15 = .ok (.iload_n 3, 1) := by decide +kernel
theorem d_SL_indexOf_16 : decode y_SL_indexOf.2.1 16 = .ok (.aload_n 0, 1) := by decide +kernel
theorem d_SL_indexOf_17 : decode y_SL_indexOf.2.1 17 = .ok (.arraylength, 1) := by decide +kernel
theorem s_SL_indexOf_14 : aw_VS y_SL_indexOf 14 [o_ist 2, o_ild 3, o_ald 0] 17 := .cons (v_istore_n d_SL_indexOf_14) (.cons (v_iload_n (i := 3) d_SL_indexOf_15 rfl) (.cons (v_aload_n (i := 0) d_SL_indexOf_16 rfl) .nil))
theorem d_SL_indexOf_18 : decode y_SL_indexOf.2.1 18 = .ok (.invokestatic 38, 3) := by decide +kernel
theorem d_SL_indexOf_21 : decode y_SL_indexOf.2.1 21 = .ok (.istore_n 3, 1) := by decide +kernel
theorem d_SL_indexOf_22 : decode y_SL_indexOf.2.1 22 = .ok (.iload_n 2, 1) := by decide +kernel
theorem d_SL_indexOf_23 : decode y_SL_indexOf.2.1 23 = .ok (.iload_n 3, 1) := by decide +kernel
theorem d_SL_indexOf_24 : decode y_SL_indexOf.2.1 24 = .ok (.if_icmp .lt (5), 3) := by decide +kernel
theorem s_SL_indexOf_21 : aw_VS y_SL_indexOf 21 [o_ist 3, o_ild 2, o_ild 3] 24 := .cons (v_istore_n d_SL_indexOf_21) (.cons (v_iload_n (i := 2) d_SL_indexOf_22 rfl) (.cons (v_iload_n (i := 3) d_SL_indexOf_23 rfl) .nil))
theorem d_SL_indexOf_27 : decode y_SL_indexOf.2.1 27 = .ok (.iconst (-1), 1) := by decide +kernel
theorem d_SL_indexOf_28 : decode y_SL_indexOf.2.1 28 = .ok (.ireturn, 1) := by decide +kernel
theorem s_SL_indexOf_27 : aw_VS y_SL_indexOf 27 [o_c (.int (-1 : Int32))] 28 := .cons (v_iconst (v := (-1 : Int32)) d_SL_indexOf_27 (by decide +kernel)) .nil
theorem d_SL_indexOf_29 : decode y_SL_indexOf.2.1 29 = .ok (.aload_n 0, 1) := by decide +kernel
theorem d_SL_indexOf_30 : decode y_SL_indexOf.2.1 30 = .ok (.iload_n 1, 1) := by decide +kernel
theorem d_SL_indexOf_31 : decode y_SL_indexOf.2.1 31 = .ok (.iload_n 2, 1) := by decide +kernel
theorem d_SL_indexOf_32 : decode y_SL_indexOf.2.1 32 = .ok (.iload_n 3, 1) := by decide +kernel
theorem d_SL_indexOf_33 : decode y_SL_indexOf.2.1 33 = .ok (.invokestatic 95, 3) := by decide +kernel
theorem s_SL_indexOf_29 : aw_VS y_SL_indexOf 29 [o_ald 0, o_ild 1, o_ild 2, o_ild 3] 33 := .cons (v_aload_n (i := 0) d_SL_indexOf_29 rfl) (.cons (v_iload_n (i := 1) d_SL_indexOf_30 rfl) (.cons (v_iload_n (i := 2) d_SL_indexOf_31 rfl) (.cons (v_iload_n (i := 3) d_SL_indexOf_32 rfl) .nil)))
theorem d_SL_indexOf_36 : decode y_SL_indexOf.2.1 36 = .ok (.ireturn, 1) := by decide +kernel
theorem d_SL_canEncode_0 : decode y_SL_canEncode.2.1 0 = .ok (.iload_n 0, 1) := by decide +kernel
theorem d_SL_canEncode_1 : decode y_SL_canEncode.2.1 1 = .ok (.ifCond .lt (14), 3) := by decide +kernel
theorem s_SL_canEncode_0 : aw_VS y_SL_canEncode 0 [o_ild 0] 1 := .cons (v_iload_n (i := 0) d_SL_canEncode_0 rfl) .nil
theorem d_SL_canEncode_4 : decode y_SL_canEncode.2.1 4 = .ok (.iload_n 0, 1) := by decide +kernel
theorem d_SL_canEncode_5 : decode y_SL_canEncode.2.1 5 = .ok (.sipush 255, 3) := by decide +kernel
theorem d_SL_canEncode_8 : decode y_SL_canEncode.2.1 8 = .ok (.if_icmp .gt (7), 3) := by decide +kernel
theorem s_SL_canEncode_4 : aw_VS y_SL_canEncode 4 [o_ild 0, o_c (.int (255 : Int32))] 8 := .cons (v_iload_n (i := 0) d_SL_canEncode_4 rfl) (.cons (v_sipush (v := (255 : Int32)) d_SL_canEncode_5 (by decide +kernel)) .nil)
theorem d_SL_canEncode_11 : decode y_SL_canEncode.2.1 11 = .ok (.iconst 1, 1) := by decide +kernel
theorem d_SL_canEncode_12 : decode y_SL_canEncode.2.1 12 = .ok (.goto (4), 3) := by decide +kernel
theorem s_SL_canEncode_11 : aw_VS y_SL_canEncode 11 [o_c (.int (1 : Int32))] 12 := .cons (v_iconst (v := (1 : Int32)) d_SL_canEncode_11 (by decide +kernel)) .nil
theorem d_SL_canEncode_15 : decode y_SL_canEncode.2.1 15 = .ok (.iconst 0, 1) := by decide +kernel
theorem s_SL_canEncode_15 : aw_VS y_SL_canEncode 15 [o_c (.int (0 : Int32))] 16 := .cons (v_iconst (v := (0 : Int32)) d_SL_canEncode_15 (by decide +kernel)) .nil
theorem d_SL_canEncode_16 : decode y_SL_canEncode.2.1 16 = .ok (.ireturn, 1) := by decide +kernel
theorem d_SL_ixc_0 : decode y_SL_ixc.2.1 0 = .ok (.iload_n 1, 1) := by decide +kernel
theorem d_SL_ixc_1 : decode y_SL_ixc.2.1 1 = .ok (.i2b, 1) := by decide +kernel
theorem d_SL_ixc_2 : decode y_SL_ixc.2.1 2 = .ok (.istore 4, 2) := by decide +kernel
theorem d_SL_ixc_4 : decode y_SL_ixc.2.1 4 = .ok (.iload_n 2, 1) := by decide +kernel
theorem d_SL_ixc_5 : decode y_SL_ixc.2.1 5 = .ok (.istore 5, 2) := by decide +kernel
theorem s_SL_ixc_0 : aw_VS y_SL_ixc 0 [o_ild 1, o_i1 (fun x => x.toInt8.toInt32), o_ist 4, o_ild 2, o_ist 5] 7 := .cons (v_iload_n (i := 1) d_SL_ixc_0 rfl) (.cons (v_i2b d_SL_ixc_1) (.cons (v_istore d_SL_ixc_2) (.cons (v_iload_n (i := 2) d_SL_ixc_4 rfl) (.cons (v_istore d_SL_ixc_5) .nil))))
theorem d_SL_ixc_7 : decode y_SL_ixc.2.1 7 = .ok (.iload 5, 2) := by decide +kernel
theorem d_SL_ixc_9 : decode y_SL_ixc.2.1 9 = .ok (.iload_n 3, 1) := by decide +kernel
theorem d_SL_ixc_10 : decode y_SL_ixc.2.1 10 = .ok (.if_icmp .ge (21), 3) := by decide +kernel
theorem s_SL_ixc_7 : aw_VS y_SL_ixc 7 [o_ild 5, o_ild 3] 10 := .cons (v_iload (i := 5) d_SL_ixc_7) (.cons (v_iload_n (i := 3) d_SL_ixc_9 rfl) .nil)
theorem d_SL_ixc_13 : decode y_SL_ixc.2.1 13 = .ok (.aload_n 0, 1) := by decide +kernel
theorem d_SL_ixc_14 : decode y_SL_ixc.2.1 14 = .ok (.iload 5, 2) := by decide +kernel
theorem d_SL_ixc_16 : decode y_SL_ixc.2.1 16 = .ok (.baload, 1) := by decide +kernel
theorem s_SL_ixc_13 : aw_VS y_SL_ixc 13 [o_ald 0, o_ild 5] 16 := .cons (v_aload_n (i := 0) d_SL_ixc_13 rfl) (.cons (v_iload (i := 5) d_SL_ixc_14) .nil)
theorem d_SL_ixc_17 : decode y_SL_ixc.2.1 17 = .ok (.iload 4, 2) := by decide +kernel
theorem d_SL_ixc_19 : decode y_SL_ixc.2.1 19 = .ok (.if_icmp .ne (6), 3) := by decide +kernel
theorem s_SL_ixc_17 : aw_VS y_SL_ixc 17 [o_ild 4] 19 := .cons (v_iload (i := 4) d_SL_ixc_17) .nil
theorem d_SL_ixc_22 : decode y_SL_ixc.2.1 22 = .ok (.iload 5, 2) := by decide +kernel
theorem d_SL_ixc_24 : decode y_SL_ixc.2.1 24 = .ok (.ireturn, 1) := by decide +kernel
theorem s_SL_ixc_22 : aw_VS y_SL_ixc 22 [o_ild 5] 24 := .cons (v_iload (i := 5) d_SL_ixc_22) .nil
theorem d_SL_ixc_25 : decode y_SL_ixc.2.1 25 = .ok (.iinc 5 (1), 3) := by decide +kernel
theorem d_SL_ixc_28 : decode y_SL_ixc.2.1 28 = .ok (.goto (-21), 3) := by decide +kernel
theorem s_SL_ixc_25 : aw_VS y_SL_ixc 25 [o_inc 5 (1 : Int32)] 28 := .cons (v_iinc (k0 := (1 : Int32)) d_SL_ixc_25 (by decide +kernel)) .nil
theorem d_SL_ixc_31 : decode y_SL_ixc.2.1 31 = .ok (.iconst (-1), 1) := by decide +kernel
theorem d_SL_ixc_32 : decode y_SL_ixc.2.1 32 = .ok (.ireturn, 1) := by decide +kernel
theorem s_SL_ixc_31 : aw_VS y_SL_ixc 31 [o_c (.int (-1 : Int32))] 32 := .cons (v_iconst (v := (-1 : Int32)) d_SL_ixc_31 (by decide +kernel)) .nil
theorem d_PC_ci_0 : decode y_PC_ci.2.1 0 = .ok (.iload_n 0, 1) := by decide +kernel
theorem d_PC_ci_1 : decode y_PC_ci.2.1 1 = .ok (.ifCond .lt (8), 3) := by decide +kernel
theorem s_PC_ci_0 : aw_VS y_PC_ci 0 [o_ild 0] 1 := .cons (v_iload_n (i := 0) d_PC_ci_0 rfl) .nil
theorem d_PC_ci_4 : decode y_PC_ci.2.1 4 = .ok (.iload_n 0, 1) := by decide +kernel
theorem d_PC_ci_5 : decode y_PC_ci.2.1 5 = .ok (.iload_n 1, 1) := by decide +kernel
theorem d_PC_ci_6 : decode y_PC_ci.2.1 6 = .ok (.if_icmp .lt (10), 3) := by decide +kernel
theorem s_PC_ci_4 : aw_VS y_PC_ci 4 [o_ild 0, o_ild 1] 6 := .cons (v_iload_n (i := 0) d_PC_ci_4 rfl) (.cons (v_iload_n (i := 1) d_PC_ci_5 rfl) .nil)
theorem d_PC_ci_9 : decode y_PC_ci.2.1 9 = .ok (.aload_n 2, 1) := by decide +kernel
theorem d_PC_ci_10 : decode y_PC_ci.2.1 10 = .ok (.iload_n 0, 1) := by decide +kernel
theorem d_PC_ci_11 : decode y_PC_ci.2.1 11 = .ok (.iload_n 1, 1) := by decide +kernel
theorem d_PC_ci_12 : decode y_PC_ci.2.1 12 = .ok (.invokestatic 95, 3) := by decide +kernel
theorem s_PC_ci_9 : aw_VS y_PC_ci 9 [o_ald 2, o_ild 0, o_ild 1] 12 := .cons (v_aload_n (i := 2) d_PC_ci_9 rfl) (.cons (v_iload_n (i := 0) d_PC_ci_10 rfl) (.cons (v_iload_n (i := 1) d_PC_ci_11 rfl) .nil))
theorem d_PC_ci_15 : decode y_PC_ci.2.1 15 = .ok (.athrow, 1) := by decide +kernel
theorem d_PC_ci_16 : decode y_PC_ci.2.1 16 = .ok (.iload_n 0, 1) := by decide +kernel
theorem d_PC_ci_17 : decode y_PC_ci.2.1 17 = .ok (.ireturn, 1) := by decide +kernel
theorem s_PC_ci_16 : aw_VS y_PC_ci 16 [o_ild 0] 17 := .cons (v_iload_n (i := 0) d_PC_ci_16 rfl) .nil
abbrev y_VT : aw_Y := y_AW_valueAt_aII
theorem d_VT_0 : decode y_VT.2.1 0 = .ok (.iload_n 1, 1) := by decide +kernel
theorem d_VT_1 : decode y_VT.2.1 1 = .ok (.ifCond .lt (15), 3) := by decide +kernel
theorem s_VT_0 : aw_VS y_VT 0 [o_ild 1] 1 := .cons (v_iload_n (i := 1) d_VT_0 rfl) .nil
theorem d_VT_4 : decode y_VT.2.1 4 = .ok (.iload_n 1, 1) := by decide +kernel
theorem d_VT_5 : decode y_VT.2.1 5 = .ok (.aload_n 0, 1) := by decide +kernel
theorem d_VT_6 : decode y_VT.2.1 6 = .ok (.arraylength, 1) := by decide +kernel
theorem s_VT_4 : aw_VS y_VT 4 [o_ild 1, o_ald 0] 6 := .cons (v_iload_n (i := 1) d_VT_4 rfl) (.cons (v_aload_n (i := 0) d_VT_5 rfl) .nil)
theorem d_VT_7 : decode y_VT.2.1 7 = .ok (.if_icmp .ge (9), 3) := by decide +kernel
theorem d_VT_10 : decode y_VT.2.1 10 = .ok (.aload_n 0, 1) := by decide +kernel
theorem d_VT_11 : decode y_VT.2.1 11 = .ok (.iload_n 1, 1) := by decide +kernel
theorem d_VT_12 : decode y_VT.2.1 12 = .ok (.iaload, 1) := by decide +kernel
theorem s_VT_10 : aw_VS y_VT 10 [o_ald 0, o_ild 1] 12 := .cons (v_aload_n (i := 0) d_VT_10 rfl) (.cons (v_iload_n (i := 1) d_VT_11 rfl) .nil)
theorem d_VT_13 : decode y_VT.2.1 13 = .ok (.goto (4), 3) := by decide +kernel
theorem d_VT_16 : decode y_VT.2.1 16 = .ok (.iconst 0, 1) := by decide +kernel
theorem s_VT_16 : aw_VS y_VT 16 [o_c (.int (0 : Int32))] 17 := .cons (v_iconst (v := (0 : Int32)) d_VT_16 (by decide +kernel)) .nil
theorem d_VT_17 : decode y_VT.2.1 17 = .ok (.ireturn, 1) := by decide +kernel
theorem d_Tk_isWord_0 : decode y_Tk_isWord.2.1 0 = .ok (.iconst 0, 1) := by decide +kernel
theorem d_Tk_isWord_1 : decode y_Tk_isWord.2.1 1 = .ok (.istore_n 3, 1) := by decide +kernel
theorem s_Tk_isWord_0 : aw_VS y_Tk_isWord 0 [o_c (.int (0 : Int32)), o_ist 3] 2 := .cons (v_iconst (v := (0 : Int32)) d_Tk_isWord_0 (by decide +kernel)) (.cons (v_istore_n d_Tk_isWord_1) .nil)
theorem d_Tk_isWord_2 : decode y_Tk_isWord.2.1 2 = .ok (.iload_n 3, 1) := by decide +kernel
theorem d_Tk_isWord_3 : decode y_Tk_isWord.2.1 3 = .ok (.iconst 5, 1) := by decide +kernel
theorem d_Tk_isWord_4 : decode y_Tk_isWord.2.1 4 = .ok (.if_icmp .ge (68), 3) := by decide +kernel
theorem s_Tk_isWord_2 : aw_VS y_Tk_isWord 2 [o_ild 3, o_c (.int (5 : Int32))] 4 := .cons (v_iload_n (i := 3) d_Tk_isWord_2 rfl) (.cons (v_iconst (v := (5 : Int32)) d_Tk_isWord_3 (by decide +kernel)) .nil)
theorem d_Tk_isWord_7 : decode y_Tk_isWord.2.1 7 = .ok (.iload_n 3, 1) := by decide +kernel
theorem d_Tk_isWord_8 : decode y_Tk_isWord.2.1 8 = .ok (.iload_n 1, 1) := by decide +kernel
theorem d_Tk_isWord_9 : decode y_Tk_isWord.2.1 9 = .ok (.if_icmp .ge (19), 3) := by decide +kernel
theorem s_Tk_isWord_7 : aw_VS y_Tk_isWord 7 [o_ild 3, o_ild 1] 9 := .cons (v_iload_n (i := 3) d_Tk_isWord_7 rfl) (.cons (v_iload_n (i := 1) d_Tk_isWord_8 rfl) .nil)
theorem d_Tk_isWord_12 : decode y_Tk_isWord.2.1 12 = .ok (.aload_n 0, 1) := by decide +kernel
theorem d_Tk_isWord_13 : decode y_Tk_isWord.2.1 13 = .ok (.getfield 21, 3) := by decide +kernel
theorem d_Tk_isWord_16 : decode y_Tk_isWord.2.1 16 = .ok (.aload_n 0, 1) := by decide +kernel
theorem d_Tk_isWord_17 : decode y_Tk_isWord.2.1 17 = .ok (.getfield 35, 3) := by decide +kernel
theorem d_Tk_isWord_20 : decode y_Tk_isWord.2.1 20 = .ok (.iload_n 3, 1) := by decide +kernel
theorem d_Tk_isWord_21 : decode y_Tk_isWord.2.1 21 = .ok (.iadd, 1) := by decide +kernel
theorem d_Tk_isWord_22 : decode y_Tk_isWord.2.1 22 = .ok (.invokevirtual 55, 3) := by decide +kernel
theorem s_Tk_isWord_12 : aw_VS y_Tk_isWord 12 [o_ald 0, o_getA 8 0, o_ald 0, o_getI 8 7, o_ild 3, o_i2 (fun x z => x + z)] 22 := .cons (v_aload_n (i := 0) d_Tk_isWord_12 rfl) (.cons (v_getA (k := 0) k_Tk (by decide) rfl (Or.inl w_346) d_Tk_isWord_13) (.cons (v_aload_n (i := 0) d_Tk_isWord_16 rfl) (.cons (v_getI (k := 7) k_Tk (by decide) (Or.inl rfl) (Or.inl w_354) d_Tk_isWord_17) (.cons (v_iload_n (i := 3) d_Tk_isWord_20 rfl) (.cons (v_iadd d_Tk_isWord_21) .nil)))))
theorem d_Tk_isWord_25 : decode y_Tk_isWord.2.1 25 = .ok (.goto (5), 3) := by decide +kernel
theorem d_Tk_isWord_28 : decode y_Tk_isWord.2.1 28 = .ok (.bipush 32, 2) := by decide +kernel
theorem s_Tk_isWord_28 : aw_VS y_Tk_isWord 28 [o_c (.int (32 : Int32))] 30 := .cons (v_bipush (v := (32 : Int32)) d_Tk_isWord_28 (by decide +kernel)) .nil
theorem d_Tk_isWord_30 : decode y_Tk_isWord.2.1 30 = .ok (.istore 4, 2) := by decide +kernel
theorem d_Tk_isWord_32 : decode y_Tk_isWord.2.1 32 = .ok (.iload_n 2, 1) := by decide +kernel
theorem d_Tk_isWord_33 : decode y_Tk_isWord.2.1 33 = .ok (.iload_n 3, 1) := by decide +kernel
theorem d_Tk_isWord_34 : decode y_Tk_isWord.2.1 34 = .ok (.iadd, 1) := by decide +kernel
theorem d_Tk_isWord_35 : decode y_Tk_isWord.2.1 35 = .ok (.istore 5, 2) := by decide +kernel
theorem d_Tk_isWord_37 : decode y_Tk_isWord.2.1 37 = .ok (.iload 5, 2) := by decide +kernel
theorem d_Tk_isWord_39 : decode y_Tk_isWord.2.1 39 = .ok (.ifCond .lt (25), 3) := by decide +kernel
theorem s_Tk_isWord_30 : aw_VS y_Tk_isWord 30 [o_ist 4, o_ild 2, o_ild 3, o_i2 (fun x z => x + z), o_ist 5, o_ild 5] 39 := .cons (v_istore d_Tk_isWord_30) (.cons (v_iload_n (i := 2) d_Tk_isWord_32 rfl) (.cons (v_iload_n (i := 3) d_Tk_isWord_33 rfl) (.cons (v_iadd d_Tk_isWord_34) (.cons (v_istore d_Tk_isWord_35) (.cons (v_iload (i := 5) d_Tk_isWord_37) .nil)))))
theorem d_Tk_isWord_42 : decode y_Tk_isWord.2.1 42 = .ok (.iload 5, 2) := by decide +kernel
theorem d_Tk_isWord_44 : decode y_Tk_isWord.2.1 44 = .ok (.ldc 99, 2) := by decide +kernel
theorem s_Tk_isWord_42 : aw_VS y_Tk_isWord 42 [o_ild 5] 44 := .cons (v_iload (i := 5) d_Tk_isWord_42) .nil
theorem d_Tk_isWord_46 : decode y_Tk_isWord.2.1 46 = .ok (.invokevirtual 101, 3) := by decide +kernel
theorem d_Tk_isWord_49 : decode y_Tk_isWord.2.1 49 = .ok (.if_icmp .ge (15), 3) := by decide +kernel
theorem d_Tk_isWord_52 : decode y_Tk_isWord.2.1 52 = .ok (.ldc 99, 2) := by decide +kernel
theorem d_Tk_isWord_54 : decode y_Tk_isWord.2.1 54 = .ok (.iload 5, 2) := by decide +kernel
theorem d_Tk_isWord_56 : decode y_Tk_isWord.2.1 56 = .ok (.invokevirtual 105, 3) := by decide +kernel
theorem s_Tk_isWord_54 : aw_VS y_Tk_isWord 54 [o_ild 5] 56 := .cons (v_iload (i := 5) d_Tk_isWord_54) .nil
theorem d_Tk_isWord_59 : decode y_Tk_isWord.2.1 59 = .ok (.iload 4, 2) := by decide +kernel
theorem d_Tk_isWord_61 : decode y_Tk_isWord.2.1 61 = .ok (.if_icmp .eq (5), 3) := by decide +kernel
theorem s_Tk_isWord_59 : aw_VS y_Tk_isWord 59 [o_ild 4] 61 := .cons (v_iload (i := 4) d_Tk_isWord_59) .nil
theorem d_Tk_isWord_64 : decode y_Tk_isWord.2.1 64 = .ok (.iconst 0, 1) := by decide +kernel
theorem d_Tk_isWord_65 : decode y_Tk_isWord.2.1 65 = .ok (.ireturn, 1) := by decide +kernel
theorem s_Tk_isWord_64 : aw_VS y_Tk_isWord 64 [o_c (.int (0 : Int32))] 65 := .cons (v_iconst (v := (0 : Int32)) d_Tk_isWord_64 (by decide +kernel)) .nil
theorem d_Tk_isWord_66 : decode y_Tk_isWord.2.1 66 = .ok (.iinc 3 (1), 3) := by decide +kernel
theorem d_Tk_isWord_69 : decode y_Tk_isWord.2.1 69 = .ok (.goto (-67), 3) := by decide +kernel
theorem s_Tk_isWord_66 : aw_VS y_Tk_isWord 66 [o_inc 3 (1 : Int32)] 69 := .cons (v_iinc (k0 := (1 : Int32)) d_Tk_isWord_66 (by decide +kernel)) .nil
theorem d_Tk_isWord_72 : decode y_Tk_isWord.2.1 72 = .ok (.iconst 1, 1) := by decide +kernel
theorem d_Tk_isWord_73 : decode y_Tk_isWord.2.1 73 = .ok (.ireturn, 1) := by decide +kernel
theorem s_Tk_isWord_72 : aw_VS y_Tk_isWord 72 [o_c (.int (1 : Int32))] 73 := .cons (v_iconst (v := (1 : Int32)) d_Tk_isWord_72 (by decide +kernel)) .nil
theorem d_Tk_readSign_0 : decode y_Tk_readSign.2.1 0 = .ok (.aload_n 0, 1) := by decide +kernel
theorem d_Tk_readSign_1 : decode y_Tk_readSign.2.1 1 = .ok (.getfield 21, 3) := by decide +kernel
theorem d_Tk_readSign_4 : decode y_Tk_readSign.2.1 4 = .ok (.aload_n 0, 1) := by decide +kernel
theorem d_Tk_readSign_5 : decode y_Tk_readSign.2.1 5 = .ok (.getfield 25, 3) := by decide +kernel
theorem d_Tk_readSign_8 : decode y_Tk_readSign.2.1 8 = .ok (.invokevirtual 55, 3) := by decide +kernel
theorem s_Tk_readSign_0 : aw_VS y_Tk_readSign 0 [o_ald 0, o_getA 8 0, o_ald 0, o_getI 8 4] 8 := .cons (v_aload_n (i := 0) d_Tk_readSign_0 rfl) (.cons (v_getA (k := 0) k_Tk (by decide) rfl (Or.inl w_346) d_Tk_readSign_1) (.cons (v_aload_n (i := 0) d_Tk_readSign_4 rfl) (.cons (v_getI (k := 4) k_Tk (by decide) (Or.inl rfl) (Or.inl w_350) d_Tk_readSign_5) .nil)))
theorem d_Tk_readSign_11 : decode y_Tk_readSign.2.1 11 = .ok (.istore_n 1, 1) := by decide +kernel
theorem d_Tk_readSign_12 : decode y_Tk_readSign.2.1 12 = .ok (.aload_n 0, 1) := by decide +kernel
theorem d_Tk_readSign_13 : decode y_Tk_readSign.2.1 13 = .ok (.iload_n 1, 1) := by decide +kernel
theorem d_Tk_readSign_14 : decode y_Tk_readSign.2.1 14 = .ok (.bipush 32, 2) := by decide +kernel
theorem d_Tk_readSign_16 : decode y_Tk_readSign.2.1 16 = .ok (.if_icmp .le (23), 3) := by decide +kernel
theorem s_Tk_readSign_11 : aw_VS y_Tk_readSign 11 [o_ist 1, o_ald 0, o_ild 1, o_c (.int (32 : Int32))] 16 := .cons (v_istore_n d_Tk_readSign_11) (.cons (v_aload_n (i := 0) d_Tk_readSign_12 rfl) (.cons (v_iload_n (i := 1) d_Tk_readSign_13 rfl) (.cons (v_bipush (v := (32 : Int32)) d_Tk_readSign_14 (by decide +kernel)) .nil)))
theorem d_Tk_readSign_19 : decode y_Tk_readSign.2.1 19 = .ok (.iload_n 1, 1) := by decide +kernel
theorem d_Tk_readSign_20 : decode y_Tk_readSign.2.1 20 = .ok (.bipush 127, 2) := by decide +kernel
theorem d_Tk_readSign_22 : decode y_Tk_readSign.2.1 22 = .ok (.if_icmp .ge (17), 3) := by decide +kernel
theorem s_Tk_readSign_19 : aw_VS y_Tk_readSign 19 [o_ild 1, o_c (.int (127 : Int32))] 22 := .cons (v_iload_n (i := 1) d_Tk_readSign_19 rfl) (.cons (v_bipush (v := (127 : Int32)) d_Tk_readSign_20 (by decide +kernel)) .nil)
theorem d_Tk_readSign_25 : decode y_Tk_readSign.2.1 25 = .ok (.ldc 78, 2) := by decide +kernel
theorem d_Tk_readSign_27 : decode y_Tk_readSign.2.1 27 = .ok (.iload_n 1, 1) := by decide +kernel
theorem d_Tk_readSign_28 : decode y_Tk_readSign.2.1 28 = .ok (.i2c, 1) := by decide +kernel
theorem d_Tk_readSign_29 : decode y_Tk_readSign.2.1 29 = .ok (.invokevirtual 80, 3) := by decide +kernel
theorem s_Tk_readSign_27 : aw_VS y_Tk_readSign 27 [o_ild 1, o_i1 (fun x => (x.toUInt32 % 65536).toInt32)] 29 := .cons (v_iload_n (i := 1) d_Tk_readSign_27 rfl) (.cons (v_i2c d_Tk_readSign_28) .nil)
theorem d_Tk_readSign_32 : decode y_Tk_readSign.2.1 32 = .ok (.ifCond .lt (7), 3) := by decide +kernel
theorem d_Tk_readSign_35 : decode y_Tk_readSign.2.1 35 = .ok (.iload_n 1, 1) := by decide +kernel
theorem d_Tk_readSign_36 : decode y_Tk_readSign.2.1 36 = .ok (.goto (4), 3) := by decide +kernel
theorem s_Tk_readSign_35 : aw_VS y_Tk_readSign 35 [o_ild 1] 36 := .cons (v_iload_n (i := 1) d_Tk_readSign_35 rfl) .nil
theorem d_Tk_readSign_39 : decode y_Tk_readSign.2.1 39 = .ok (.iconst 0, 1) := by decide +kernel
theorem s_Tk_readSign_39 : aw_VS y_Tk_readSign 39 [o_c (.int (0 : Int32))] 40 := .cons (v_iconst (v := (0 : Int32)) d_Tk_readSign_39 (by decide +kernel)) .nil
theorem d_Tk_readSign_40 : decode y_Tk_readSign.2.1 40 = .ok (.putfield 29, 3) := by decide +kernel
theorem d_Tk_readSign_43 : decode y_Tk_readSign.2.1 43 = .ok (.aload_n 0, 1) := by decide +kernel
theorem d_Tk_readSign_44 : decode y_Tk_readSign.2.1 44 = .ok (.dup, 1) := by decide +kernel
theorem d_Tk_readSign_45 : decode y_Tk_readSign.2.1 45 = .ok (.getfield 25, 3) := by decide +kernel
theorem d_Tk_readSign_48 : decode y_Tk_readSign.2.1 48 = .ok (.iconst 1, 1) := by decide +kernel
theorem d_Tk_readSign_49 : decode y_Tk_readSign.2.1 49 = .ok (.iadd, 1) := by decide +kernel
theorem d_Tk_readSign_50 : decode y_Tk_readSign.2.1 50 = .ok (.putfield 25, 3) := by decide +kernel
theorem d_Tk_readSign_53 : decode y_Tk_readSign.2.1 53 = .ok (.return_, 1) := by decide +kernel
theorem s_Tk_readSign_40 : aw_VS y_Tk_readSign 40 [o_putI 8 6, o_ald 0, o_dup, o_getI 8 4, o_c (.int (1 : Int32)), o_i2 (fun x z => x + z), o_putI 8 4] 53 := .cons (v_putI (k := 6) k_Tk (by decide) rfl (Or.inl ⟨rfl, Or.inl w_352⟩) d_Tk_readSign_40) (.cons (v_aload_n (i := 0) d_Tk_readSign_43 rfl) (.cons (v_dup d_Tk_readSign_44) (.cons (v_getI (k := 4) k_Tk (by decide) (Or.inl rfl) (Or.inl w_350) d_Tk_readSign_45) (.cons (v_iconst (v := (1 : Int32)) d_Tk_readSign_48 (by decide +kernel)) (.cons (v_iadd d_Tk_readSign_49) (.cons (v_putI (k := 4) k_Tk (by decide) rfl (Or.inl ⟨rfl, Or.inl w_350⟩) d_Tk_readSign_50) .nil))))))
theorem aw_tvo {X : aw_X} {a : Nat} (h : aw_K ≤ a) : aw_tv X (.ref a) = .ref (X.2.2.2.2 a) := by
  have : ¬ a < aw_K := by omega
  simp [aw_tv, aw_ad, this]
theorem aw_Kle {a : Nat} (h : Nat.ble aw_K a = true) : aw_K ≤ a := Nat.le_of_ble_eq_true h
theorem aw_K2 (i : Nat) : aw_K ≤ 1002 + i ∧ aw_K ≤ 1012 + i := ⟨Nat.le_trans (aw_Kle (a := 1002) rfl) (Nat.le_add_right _ _), Nat.le_trans (aw_Kle (a := 1012) rfl) (Nat.le_add_right _ _)⟩
def sLn (i : Nat) : Nat := ([60, 15] : List Nat).getD i 0
def sBy (i : Nat) : List Int32 := ([(List.map (fun c => Int32.ofNat c.toNat) "proc call cell if   else whilemust let  ask  end  or   and  ".toList), (List.map (fun c => Int32.ofNat c.toNat) ";{}()[]+-*/=<>#".toList)] : List (List Int32)).getD i []
section OUTR
variable {y : aw_Y} {pc : Nat} {X : aw_X} {d mc ms : Nat} {Q : Option Value → aw_H → Prop} {kc ks : Nat} {ls : aw_L} {st : List Value} {A : aw_H} {i idx : Nat}
theorem z_sval (hi : i < 2) (hl : Cond.fieldLink y.1.cls idx "java/lang/String" "value" "[B" ∈ aw_T) (hd : decode y.2.1 pc = .ok (.getfield idx, 3)) (kk : aw_Z X d mc ms y Q kc ks (pc + 3) ls (.ref (1012 + i) :: st) A) : aw_Z X d mc ms y Q kc ks pc ls (.ref (1002 + i) :: st) A := by
  intro p e s m args below meth c F H locs r hR hS hL h1 h2
  have k1 := kk p e s m args below meth c F H locs r hR hS hL h1 h2
  obtain ⟨-, -, -, -, -, e6, -⟩ := F.2.2.2.2.2.2.2.2.1.2.2
  rw [List.map_cons, aw_tvo (aw_K2 i).1]
  rw [List.map_cons, aw_tvo (aw_K2 i).2] at k1
  exact vk_getf F.1 F.2.1 (e6.1 i hi).2.2.1 hS F.2.2.2.2.2.1 (F.2.2.2.2.1 _ hl) (fun _ h => h) hd k1
theorem z_scod (hi : i < 2) (hl : Cond.fieldLink y.1.cls idx "java/lang/String" "coder" "B" ∈ aw_T) (hd : decode y.2.1 pc = .ok (.getfield idx, 3)) (kk : aw_Z X d mc ms y Q kc ks (pc + 3) ls (.int 0 :: st) A) : aw_Z X d mc ms y Q kc ks pc ls (.ref (1002 + i) :: st) A := by
  intro p e s m args below meth c F H locs r hR hS hL h1 h2
  have k1 := kk p e s m args below meth c F H locs r hR hS hL h1 h2
  obtain ⟨-, -, -, -, -, e6, -⟩ := F.2.2.2.2.2.2.2.2.1.2.2
  rw [List.map_cons, aw_tvo (aw_K2 i).1]
  exact vk_getf F.1 F.2.1 (e6.1 i hi).2.1 hS F.2.2.2.2.2.1 (F.2.2.2.2.1 _ hl) (fun _ h => h) hd k1
theorem z_blen (hi : i < 2) (hd : decode y.2.1 pc = .ok (.arraylength, 1)) (kk : aw_Z X d mc ms y Q kc ks (pc + 1) ls (.int (nI (sLn i)) :: st) A) : aw_Z X d mc ms y Q kc ks pc ls (.ref (1012 + i) :: st) A := by
  intro p e s m args below meth c F H locs r hR hS hL h1 h2
  have k1 := kk p e s m args below meth c F H locs r hR hS hL h1 h2
  obtain ⟨-, -, -, -, -, e6, -⟩ := F.2.2.2.2.2.2.2.2.1.2.2
  rw [List.map_cons, aw_tvo (aw_K2 i).2]
  exact va_tlen F.1 F.2.1 (e6.1 i hi).2.2.2 hS rfl hd k1
theorem z_bald {j : Int32} (hi : i < 2) (hj : vp_in j (sLn i)) (hd : decode y.2.1 pc = .ok (.baload, 1)) (kk : aw_Z X d mc ms y Q kc ks (pc + 1) ls (.int ((sBy i).getD j.toNatClampNeg 0) :: st) A) : aw_Z X d mc ms y Q kc ks pc ls (.int j :: .ref (1012 + i) :: st) A := by
  intro p e s m args below meth c F H locs r hR hS hL h1 h2
  have k1 := kk p e s m args below meth c F H locs r hR hS hL h1 h2
  obtain ⟨-, -, -, -, -, e6, -⟩ := F.2.2.2.2.2.2.2.2.1.2.2
  rw [List.map_cons, List.map_cons, aw_tvo (aw_K2 i).2]
  exact va_tb F.1 F.2.1 (e6.1 i hi).2.2.2 hS hj rfl hd k1
theorem z_cs (hl : Cond.fieldLink y.1.cls idx "java/lang/String" "COMPACT_STRINGS" "Z" ∈ aw_T) (hd : decode y.2.1 pc = .ok (.getstatic idx, 3)) (kk : aw_Z X d mc ms y Q kc ks (pc + 3) ls (.int 1 :: st) A) : aw_Z X d mc ms y Q kc ks pc ls st A := by
  intro p e s m args below meth c F H locs r hR hS hL h1 h2
  have k1 := kk p e s m args below meth c F H locs r hR hS hL h1 h2
  obtain ⟨-, -, -, -, -, -, e7, -⟩ := F.2.2.2.2.2.2.2.2.1.2.2
  exact va_gets F.1 F.2.1 e7 hS F.2.2.2.2.2.1 (F.2.2.2.2.1 _ hl) (fun _ h => h) hd k1
theorem z_si (hl : Cond.fieldLink y.1.cls idx "jdk/internal/util/Preconditions" "SIOOBE_FORMATTER" "Ljava/util/function/BiFunction;" ∈ aw_T) (hd : decode y.2.1 pc = .ok (.getstatic idx, 3)) (k0 : aw_Z X d mc ms y Q kc ks (pc + 3) ls (.null :: st) A) (kr : aw_Z X d mc ms y Q kc ks (pc + 3) ls (.ref 1006 :: st) A) : aw_Z X d mc ms y Q kc ks pc ls st A := by
  intro p e s m args below meth c F H locs r hR hS hL h1 h2
  obtain ⟨-, -, -, -, -, -, -, -, e8, -⟩ := F.2.2.2.2.2.2.2.2.1.2.2
  rcases e8 with e8 | e8
  · exact va_gets F.1 F.2.1 e8 hS F.2.2.2.2.2.1 (F.2.2.2.2.1 _ hl) (fun _ h => h) hd (k0 p e s m args below meth c F H locs r hR hS hL h1 h2)
  · have k1 := kr p e s m args below meth c F H locs r hR hS hL h1 h2
    rw [List.map_cons, aw_tvo (aw_Kle (a := 1006) rfl)] at k1
    exact va_gets F.1 F.2.1 e8 hS F.2.2.2.2.2.1 (F.2.2.2.2.1 _ hl) (fun _ h => h) hd k1
theorem z_slen (hd : decode y.2.1 pc = .ok (.arraylength, 1)) (kk : aw_Z X d mc ms y Q kc ks (pc + 1) ls (.int (nI (aw_xl X)) :: st) A) : aw_Z X d mc ms y Q kc ks pc ls (.ref 1005 :: st) A := by
  intro p e s m args below meth c F H locs r hR hS hL h1 h2
  have k1 := kk p e s m args below meth c F H locs r hR hS hL h1 h2
  obtain ⟨-, -, -, -, -, -, -, e8, -⟩ := F.2.2.2.2.2.2.2.2.1.2.2
  rw [List.map_cons, aw_tvo (aw_Kle (a := 1005) rfl)]
  exact va_tlen F.1 F.2.1 e8 hS rfl hd k1
theorem z_sald {j : Int32} (hj : vp_in j (aw_xl X)) (hd : decode y.2.1 pc = .ok (.iaload, 1)) (kk : aw_Z X d mc ms y Q kc ks (pc + 1) ls (.int (aw_xs X j.toNatClampNeg) :: st) A) : aw_Z X d mc ms y Q kc ks pc ls (.int j :: .ref 1005 :: st) A := by
  intro p e s m args below meth c F H locs r hR hS hL h1 h2
  have k1 := kk p e s m args below meth c F H locs r hR hS hL h1 h2
  obtain ⟨-, -, -, -, -, -, -, e8, -⟩ := F.2.2.2.2.2.2.2.2.1.2.2
  rw [List.map_cons, List.map_cons, aw_tvo (aw_Kle (a := 1005) rfl)]
  exact va_ti F.1 F.2.1 e8 hS hj rfl hd k1
theorem z_ldcs {tx : String} {a : Nat} (he : ∀ (U : State) (H : Heap), aw_Ex X U H → vk_R y.1.cls idx tx (X.2.2.2.2 a) U) (ha : aw_K ≤ a) (hd : decode y.2.1 pc = .ok (.ldc idx, 2)) (kk : aw_Z X d mc ms y Q kc ks (pc + 2) ls (.ref a :: st) A) : aw_Z X d mc ms y Q kc ks pc ls st A := by
  intro p e s m args below meth c F H locs r hR hS hL h1 h2
  have k1 := kk p e s m args below meth c F H locs r hR hS hL h1 h2
  rw [List.map_cons, aw_tvo ha] at k1
  exact va_ldcS F.1 F.2.1 F.2.2.2.2.2.1 (he _ _ F.2.2.2.2.2.2.2.2.1.2.2) hd k1
theorem z_callT {y2 : aw_Y} {n : Nat} {av : List Value} {S : List Value} (hi : i < 2) (hcls : y2.1.cls = "java/lang/String") (ok : aw_ok y2 n) (hl : Cond.methodLink y.1.cls idx y2.1 ∈ aw_T) (hin : Cond.instanceMethod y2.1 ∈ aw_T) (hse : Cond.selects y2.1.cls y2.1 y2.1 ∈ aw_T) (hd : decode y.2.1 pc = .ok (.invokevirtual idx, 3))
    (hS0 : S = av.reverse ++ .ref (1002 + i) :: st) (hlen : av.length = n) (hcat : (st.map fun v => v.category).sum ≤ 8) (hm1 : kc ≤ mc) (hm2 : ks ≤ ms)
    (hc : aw_C X d 0 0 y2 (.ref (1002 + i) :: av) A (fun r A' => aw_Z X (d + 1) mc ms y Q kc ks (pc + 3) ls (r.toList ++ st) A')) : aw_Z X (d + 1) mc ms y Q kc ks pc ls S A := by
  subst hS0
  intro p e s m args below meth c F H locs r hR hS hL h1 h2
  have ha : aw_tv X (.ref (1002 + i)) = .ref (X.2.2.2.2 (1002 + i)) := aw_tvo (aw_K2 i).1
  obtain ⟨-, -, -, -, -, e6, -⟩ := F.2.2.2.2.2.2.2.2.1.2.2
  have hrecv := vk_recv e6 hi hS
  rw [← hcls] at hrecv
  have hpre := aw_callPre (av := .ref (1002 + i) :: av) F hR hS
  rw [List.map_cons, ha] at hpre
  have hPV : PreV s H y2.1.cls (X.2.2.2.2 (1002 + i)) (aw_Pc X (.ref (1002 + i) :: av) A) (av.map (aw_tv X)) := ⟨aw_blind, hrecv, hpre⟩
  have hgood := pay_in F.2.2.2.2.1 (aw_goodIn ok)
  have hcw : Cond.code y2.1 y2.2.1 y2.2.2.1 y2.2.2.2 ∈ aw_ws y2 := List.mem_cons_self
  have hpl : ∀ sig, parseMethodDescriptor y2.1.desc = some sig → n = sig.parameters.length := fun sig h => by
    have h2 := ok.2.2.1; rw [h] at h2; exact (Option.some.inj h2).symm
  have hstk : (av.reverse ++ Value.ref (1002 + i) :: st).map (aw_tv X) = (av.map (aw_tv X)).reverse ++ .ref (X.2.2.2.2 (1002 + i)) :: st.map (aw_tv X) := by rw [List.map_append, List.map_reverse, List.map_cons, ha]
  rw [hstk]
  have hroom : 2 * (F0 m pc r ((av.map (aw_tv X)).reverse ++ .ref (X.2.2.2.2 (1002 + i)) :: st.map (aw_tv X))).monitorRoom + ((st.map (aw_tv X)).map fun v => v.category).sum ≤ 8 := by
    rw [aw_cat_map]; exact lv_room hcat
  have fin : va_Run p X.1 e (aw_rm (d + 1) mc ms) s m args below meth c H locs kc ks 0 0 (F0 m pc r ((av.map (aw_tv X)).reverse ++ .ref (X.2.2.2.2 (1002 + i)) :: st.map (aw_tv X))) (st.map (aw_tv X)) (aw_Qc X (fun r A' => aw_Z X (d + 1) mc ms y Q kc ks (pc + 3) ls (r.toList ++ st) A') (Value.ref (X.2.2.2.2 (1002 + i)) :: av.map (aw_tv X)).toArray) (aw_fr X) :=
    va_runV (nL := y.2.2.1) ⟨F.1, F.2.1, F.2.2.1, F.2.2.2.2.2.1, F.2.2.2.2.1⟩ hc ⟨⟨rfl, rfl, Nat.le_refl _, aw_rm_step ok.2.2.2.2.2, hgood, hcw, F.2.2.2.2.1 _ ok.2.2.2.1, F.2.2.2.2.1 _ ok.2.2.2.2.1, ⟨ok.1, ok.2.1⟩, hpl, F.2.2.2.2.1 _ hl⟩, F.2.2.2.2.1 _ hin, F.2.2.2.2.1 _ hse⟩ hPV rfl (by rw [List.length_map]; exact hlen) hL.1 rfl hroom hd ⟨hm1, hm2⟩
  refine aw_behind fin hS fun rv A' H1 locs1 hq hR1 hS1 => ?_
  have := hq p e s m args below meth c F H1 locs1 r hR1 hS1 hL hm1 hm2
  rw [List.map_append] at this
  cases rv <;> exact this
theorem z_callTS {y2 : aw_Y} {n : Nat} {av : List Value} {S : List Value} (ok : aw_ok y2 n) (hl : Cond.methodLink y.1.cls idx y2.1 ∈ aw_T) (hi : Cond.static y2.1 ∈ aw_T) (hd : decode y.2.1 pc = .ok (.invokestatic idx, 3))
    (hS0 : S = av.reverse ++ st) (hlen : av.length = n) (hcat : (st.map fun v => v.category).sum ≤ 8) (hm1 : kc ≤ mc) (hm2 : ks ≤ ms)
    (hc : aw_C X d 0 0 y2 av A (fun r A' => aw_Z X (d + 1) mc ms y Q kc ks (pc + 3) ls (r.toList ++ st) A')) : aw_Z X (d + 1) mc ms y Q kc ks pc ls S A :=
  z_callS ok (Or.inl hl) hi hd hS0 hlen hcat hm1 hm2 hc
theorem z_max0 {a b : Int32} (hw : Cond.methodLink y.1.cls idx y_JM_max.1 ∈ aw_T) (hd : decode y.2.1 pc = .ok (.invokestatic idx, 3))
    (kk : aw_Z X (d + 1) mc ms y Q kc ks (pc + 3) ls [.int (if a < b then b else a)] A) : aw_Z X (d + 1) mc ms y Q kc ks pc ls [.int b, .int a] A := by
  intro p e s m args below meth c F H locs r hR hS hL h1 h2
  exact va_mmax (rest := []) F.1 F.2.1 (by rw [F.2.2.1, hL.1]) F.2.2.2.2.2.1 (F.2.2.2.2.1 _ hw) (F.2.2.2.2.1 _ w_586) (F.2.2.2.2.1 _ w_66) (F.2.2.2.2.1 _ w_587) (by show 1 ≤ d + 1; omega) (Nat.le_trans (show 0 + 13 ≤ 40 * (d + 1) by omega) aw_rm_l) h1 h2 hd (kk p e s m args below meth c F H locs r hR hS hL h1 h2)
theorem z_min0 {a b : Int32} (hw : Cond.methodLink y.1.cls idx y_JM_min.1 ∈ aw_T) (hd : decode y.2.1 pc = .ok (.invokestatic idx, 3))
    (kk : aw_Z X (d + 1) mc ms y Q kc ks (pc + 3) ls [.int (if b < a then b else a)] A) : aw_Z X (d + 1) mc ms y Q kc ks pc ls [.int b, .int a] A := by
  intro p e s m args below meth c F H locs r hR hS hL h1 h2
  exact va_mmin (rest := []) F.1 F.2.1 (by rw [F.2.2.1, hL.1]) F.2.2.2.2.2.1 (F.2.2.2.2.1 _ hw) (F.2.2.2.2.1 _ w_589) (F.2.2.2.2.1 _ w_66) (F.2.2.2.2.1 _ w_590) (by show 1 ≤ d + 1; omega) (Nat.le_trans (show 0 + 13 ≤ 40 * (d + 1) by omega) aw_rm_l) h1 h2 hd (kk p e s m args below meth c F H locs r hR hS hL h1 h2)
end OUTR
section JDK
variable {X : aw_X} {d : Nat} {Q : Option Value → aw_H → Prop} {A : aw_H} {i : Nat}
theorem c_S_coder (hi : i < 2) (hQ : Q (some (.int 0)) A) : aw_C X d 0 0 y_S_coder [.ref (1002 + i)] A Q := by
  refine aw_C.of rfl (Nat.le_of_ble_eq_true rfl) (z_cs wj_525 d_S_coder_0 (z_if_eq (tgt := 13) d_S_coder_3 rfl (fun q => absurd q (by decide)) (fun _ => ?_)))
  exact s_S_coder_6.go [some (.ref (1002 + i))] [.ref (1002 + i)] A rfl (z_scod hi wj_1124 d_S_coder_7 (z_goto (tgt := 14) d_S_coder_10 rfl (z_iret d_S_coder_14 rfl rfl hQ)))
theorem c_S_isLatin1 (hi : i < 2) (hQ : Q (some (.int 1)) A) : aw_C X d 0 0 y_S_isLatin1 [.ref (1002 + i)] A Q := by
  refine aw_C.of rfl (Nat.le_of_ble_eq_true rfl) (z_cs wj_525 d_S_isLatin1_0 (z_if_eq (tgt := 17) d_S_isLatin1_3 rfl (fun q => absurd q (by decide)) (fun _ => ?_)))
  exact s_S_isLatin1_6.go [some (.ref (1002 + i))] [.ref (1002 + i)] A rfl (z_scod hi wj_1124 d_S_isLatin1_7 (z_if_ne (tgt := 17) d_S_isLatin1_10 rfl (fun q => absurd rfl q) (fun _ => s_S_isLatin1_13.go [some (.ref (1002 + i))] [.int 1] A rfl (z_goto (tgt := 18) d_S_isLatin1_14 rfl (z_iret d_S_isLatin1_18 rfl rfl hQ)))))
theorem sLn_lt (i : Nat) : sLn i < 2 ^ 31 := by
  unfold sLn
  match i with
  | 0 => decide
  | 1 => decide
  | i + 2 => show 0 < 2 ^ 31; decide
theorem c_S_length (hi : i < 2) (hQ : Q (some (.int (nI (sLn i)))) A) : aw_C X (d + 1) 0 0 y_S_length [.ref (1002 + i)] A Q := by
  refine aw_C.of rfl (Nat.le_of_ble_eq_true rfl) (s_S_length_0.go [some (.ref (1002 + i))] [.ref (1002 + i)] A rfl (z_sval hi wj_1123 d_S_length_1 (z_blen hi d_S_length_4 (s_S_length_5.go [some (.ref (1002 + i))] [.ref (1002 + i), .int (nI (sLn i))] A rfl ?_))))
  refine z_callT (av := []) (st := [.int (nI (sLn i))]) hi rfl ok_S_coder ml_S_335 in_S_coder se_S_coder d_S_length_6 rfl rfl (Nat.le_of_ble_eq_true rfl) (Nat.le_refl _) (Nat.le_refl _) (c_S_coder hi ?_)
  refine s_S_length_9.go [some (.ref (1002 + i))] [.int (nI (sLn i) >>> ((0 : Int32) &&& 31))] A rfl ?_
  have e : nI (sLn i) >>> ((0 : Int32) &&& 31) = nI (sLn i) := by
    match i, hi with
    | 0, _ => decide
    | 1, _ => decide
  rw [e]
  exact z_iret d_S_length_10 rfl rfl hQ
theorem c_PC_ci {n j : Nat} {v : Value} (hj : j < n) (hn : n < 2 ^ 31) (hv : v = .null ∨ v = .ref 1006) (hQ : Q (some (.int (nI j))) A) : aw_C X d 0 0 y_PC_ci [.int (nI j), .int (nI n), v] A Q := by
  have h1 : ¬ nI j < 0 := nI_pos (by omega)
  have h2 : nI j < nI n := nI_lt hj hn
  rcases hv with rfl | rfl
  · refine aw_C.of rfl (Nat.le_of_ble_eq_true rfl) (s_PC_ci_0.go [some (.int (nI j)), some (.int (nI n)), some .null] [.int (nI j)] A rfl (z_if_lt (tgt := 9) d_PC_ci_1 rfl (fun q => absurd q h1) (fun _ => s_PC_ci_4.go [some (.int (nI j)), some (.int (nI n)), some .null] [.int (nI n), .int (nI j)] A rfl (z_icmp_lt (tgt := 16) d_PC_ci_6 rfl (fun _ => ?_) (fun q => absurd h2 q)))))
    exact s_PC_ci_16.go [some (.int (nI j)), some (.int (nI n)), some .null] [.int (nI j)] A rfl (z_iret d_PC_ci_17 rfl rfl hQ)
  · refine aw_C.of rfl (Nat.le_of_ble_eq_true rfl) (s_PC_ci_0.go [some (.int (nI j)), some (.int (nI n)), some (.ref 1006)] [.int (nI j)] A rfl (z_if_lt (tgt := 9) d_PC_ci_1 rfl (fun q => absurd q h1) (fun _ => s_PC_ci_4.go [some (.int (nI j)), some (.int (nI n)), some (.ref 1006)] [.int (nI n), .int (nI j)] A rfl (z_icmp_lt (tgt := 16) d_PC_ci_6 rfl (fun _ => ?_) (fun q => absurd h2 q)))))
    exact s_PC_ci_16.go [some (.int (nI j)), some (.int (nI n)), some (.ref 1006)] [.int (nI j)] A rfl (z_iret d_PC_ci_17 rfl rfl hQ)
theorem c_S_checkIndex {n j : Nat} (hj : j < n) (hn : n < 2 ^ 31) (hQ : Q none A) : aw_C X (d + 1) 0 0 y_S_checkIndex [.int (nI j), .int (nI n)] A Q := by
  have go : ∀ v : Value, v = .null ∨ v = .ref 1006 → aw_Z X (d + 1) 0 0 y_S_checkIndex Q 0 0 5 [some (.int (nI j)), some (.int (nI n))] [v, .int (nI n), .int (nI j)] A := fun v hv =>
    z_callTS (av := [.int (nI j), .int (nI n), v]) (st := []) ok_PC_ci ml_S_1059 in_PC_ci d_S_checkIndex_5 rfl rfl (Nat.le_of_ble_eq_true rfl) (Nat.le_refl _) (Nat.le_refl _) (c_PC_ci hj hn hv (s_S_checkIndex_8.go [some (.int (nI j)), some (.int (nI n))] [] A rfl (z_vret d_S_checkIndex_9 rfl hQ)))
  exact aw_C.of rfl (Nat.le_of_ble_eq_true rfl) (s_S_checkIndex_0.go [some (.int (nI j)), some (.int (nI n))] [.int (nI n), .int (nI j)] A rfl (z_si wj_541 d_S_checkIndex_2 (go _ (Or.inl rfl)) (go _ (Or.inr rfl))))
def sCh (i j : Nat) : Int32 := (((sBy i).getD j 0 &&& 255).toUInt32 % 65536).toInt32
theorem sCh_ok : ∀ i, i < 2 → ∀ j, j < 60 → narrow .char (.int (sCh i j)) = .int (sCh i j) := by decide +kernel
theorem c_SL_charAt {j : Nat} (hi : i < 2) (hj : j < sLn i) (hQ : Q (some (.int (sCh i j))) A) : aw_C X (d + 2) 0 0 y_SL_charAt [.ref (1012 + i), .int (nI j)] A Q := by
  have hn := sLn_lt i
  have h60 : j < 60 := by
    match i, hi with
    | 0, _ => exact hj
    | 1, _ => exact Nat.lt_trans hj (by decide)
  refine aw_C.of rfl (Nat.le_of_ble_eq_true rfl) (s_SL_charAt_0.go [some (.ref (1012 + i)), some (.int (nI j))] [.ref (1012 + i), .int (nI j)] A rfl (z_blen hi d_SL_charAt_2 ?_))
  refine z_callTS (av := [.int (nI j), .int (nI (sLn i))]) (st := []) ok_S_checkIndex ml_SL_9 in_S_checkIndex d_SL_charAt_3 rfl rfl (Nat.le_of_ble_eq_true rfl) (Nat.le_refl _) (Nat.le_refl _) (c_S_checkIndex (d := d) hj hn ?_)
  refine s_SL_charAt_6.go [some (.ref (1012 + i)), some (.int (nI j))] [.int (nI j), .ref (1012 + i)] A rfl (z_bald hi (vp_in_nI hj hn) d_SL_charAt_8 ?_)
  rw [nI_clamp (by omega)]
  exact s_SL_charAt_9.go [some (.ref (1012 + i)), some (.int (nI j))] [.int (sCh i j)] A rfl (z_iret d_SL_charAt_14 rfl (sCh_ok i hi j h60) hQ)
theorem c_S_charAt {j : Nat} (hi : i < 2) (hj : j < sLn i) (hQ : Q (some (.int (sCh i j))) A) : aw_C X (d + 3) 0 0 y_S_charAt [.ref (1002 + i), .int (nI j)] A Q := by
  have h60 : j < 60 := by
    match i, hi with
    | 0, _ => exact hj
    | 1, _ => exact Nat.lt_trans hj (by decide)
  refine aw_C.of rfl (Nat.le_of_ble_eq_true rfl) (s_S_charAt_0.go [some (.ref (1002 + i)), some (.int (nI j))] [.ref (1002 + i)] A rfl ?_)
  refine z_callT (av := []) (st := []) hi rfl ok_S_isLatin1 ml_S_492 in_S_isLatin1 se_S_isLatin1 d_S_charAt_1 rfl rfl (Nat.le_of_ble_eq_true rfl) (Nat.le_refl _) (Nat.le_refl _) (c_S_isLatin1 hi (z_if_eq (tgt := 16) d_S_charAt_4 rfl (fun q => absurd q (by decide)) (fun _ => ?_)))
  refine s_S_charAt_7.go [some (.ref (1002 + i)), some (.int (nI j))] [.ref (1002 + i)] A rfl (z_sval hi wj_1123 d_S_charAt_8 (s_S_charAt_11.go [some (.ref (1002 + i)), some (.int (nI j))] [.int (nI j), .ref (1012 + i)] A rfl ?_))
  exact z_callTS (av := [.ref (1012 + i), .int (nI j)]) (st := []) ok_SL_charAt ml_S_495 in_SL_charAt d_S_charAt_12 rfl rfl (Nat.le_of_ble_eq_true rfl) (Nat.le_refl _) (Nat.le_refl _) (c_SL_charAt (d := d) hi hj (z_iret d_S_charAt_15 rfl (sCh_ok i hi j h60) hQ))
theorem c_SL_canEncode {n : Nat} (hn : n ≤ 255) (hQ : Q (some (.int 1)) A) : aw_C X d 0 0 y_SL_canEncode [.int (nI n)] A Q := by
  have h1 : ¬ nI n < 0 := nI_pos (by omega)
  have h2 : ¬ (255 : Int32) < nI n := by rw [show (255 : Int32) = nI 255 from rfl, nI_ltI (by decide) (by omega)]; omega
  exact aw_C.of rfl (Nat.le_of_ble_eq_true rfl) (s_SL_canEncode_0.go [some (.int (nI n))] [.int (nI n)] A rfl (z_if_lt (tgt := 15) d_SL_canEncode_1 rfl (fun q => absurd q h1) (fun _ => s_SL_canEncode_4.go [some (.int (nI n))] [.int 255, .int (nI n)] A rfl (z_icmp_gt (tgt := 15) d_SL_canEncode_8 rfl (fun q => absurd q h2) (fun _ => s_SL_canEncode_11.go [some (.int (nI n))] [.int 1] A rfl (z_goto (tgt := 16) d_SL_canEncode_12 rfl (z_iret d_SL_canEncode_16 rfl rfl hQ)))))))
/-- where a byte stands in the second string -/
def sIx (c : Int32) : Nat → Nat → Int32
  | 0, _ => -1
  | m + 1, k => if (sBy 1).getD k 0 = c then nI k else sIx c m (k + 1)
theorem l_SL_ixc {n : Nat} : ∀ (m k : Nat), k + m = 15 → Q (some (.int (sIx (nI n).toInt8.toInt32 m k))) A → aw_Z X d 0 0 y_SL_ixc Q 0 0 7 [some (.ref 1013), some (.int (nI n)), some (.int 0), some (.int 15), some (.int (nI n).toInt8.toInt32), some (.int (nI k))] [] A := by
  intro m
  induction m with
  | zero =>
    intro k e hQ
    have : k = 15 := by omega
    subst this
    exact s_SL_ixc_7.go [some (.ref 1013), some (.int (nI n)), some (.int 0), some (.int 15), some (.int (nI n).toInt8.toInt32), some (.int (nI 15))] [.int 15, .int (nI 15)] A rfl (z_icmp_ge (tgt := 31) d_SL_ixc_10 rfl (fun _ => s_SL_ixc_31.go [some (.ref 1013), some (.int (nI n)), some (.int 0), some (.int 15), some (.int (nI n).toInt8.toInt32), some (.int (nI 15))] [.int (-1)] A rfl (z_iret d_SL_ixc_32 rfl rfl hQ)) (fun q => absurd (by decide) q))
  | succ m ih =>
    intro k e hQ
    have c1 : ¬ (15 : Int32) ≤ nI k := by rw [show (15 : Int32) = nI 15 from rfl, nI_leI (by decide) (by omega)]; omega
    have vk : vp_in (nI k) (sLn 1) := vp_in_nI (show k < 15 by omega) (by decide)
    rw [sIx] at hQ
    refine s_SL_ixc_7.go [some (.ref 1013), some (.int (nI n)), some (.int 0), some (.int 15), some (.int (nI n).toInt8.toInt32), some (.int (nI k))] [.int 15, .int (nI k)] A rfl (z_icmp_ge (tgt := 31) d_SL_ixc_10 rfl (fun q => absurd q c1) (fun _ => ?_))
    refine s_SL_ixc_13.go [some (.ref 1013), some (.int (nI n)), some (.int 0), some (.int 15), some (.int (nI n).toInt8.toInt32), some (.int (nI k))] [.int (nI k), .ref 1013] A rfl (z_bald (i := 1) (by decide) vk d_SL_ixc_16 ?_)
    rw [nI_clamp (by omega)]
    refine s_SL_ixc_17.go [some (.ref 1013), some (.int (nI n)), some (.int 0), some (.int 15), some (.int (nI n).toInt8.toInt32), some (.int (nI k))] [.int (nI n).toInt8.toInt32, .int ((sBy 1).getD k 0)] A rfl (z_icmp_ne (tgt := 25) d_SL_ixc_19 rfl (fun q => ?_) (fun q => ?_))
    · rw [if_neg q] at hQ
      refine s_SL_ixc_25.go [some (.ref 1013), some (.int (nI n)), some (.int 0), some (.int 15), some (.int (nI n).toInt8.toInt32), some (.int (nI k + 1))] [] A rfl (z_goto (tgt := 7) d_SL_ixc_28 rfl ?_)
      rw [nI_1]
      exact ih (k + 1) (by omega) hQ
    · rw [if_pos q] at hQ
      exact s_SL_ixc_22.go [some (.ref 1013), some (.int (nI n)), some (.int 0), some (.int 15), some (.int (nI n).toInt8.toInt32), some (.int (nI k))] [.int (nI k)] A rfl (z_iret d_SL_ixc_24 rfl rfl hQ)
theorem c_SL_ixc {n : Nat} (hQ : Q (some (.int (sIx (nI n).toInt8.toInt32 15 0))) A) : aw_C X d 0 0 y_SL_ixc [.ref 1013, .int (nI n), .int 0, .int 15] A Q :=
  aw_C.of rfl (Nat.le_of_ble_eq_true rfl) (s_SL_ixc_0.go [some (.ref 1013), some (.int (nI n)), some (.int 0), some (.int 15), some (.int (nI n).toInt8.toInt32), some (.int (nI 0))] [] A rfl (l_SL_ixc 15 0 rfl hQ))
theorem c_SL_indexOf {n : Nat} (hn : n ≤ 255) (hQ : Q (some (.int (sIx (nI n).toInt8.toInt32 15 0))) A) : aw_C X (d + 1) 0 0 y_SL_indexOf [.ref 1013, .int (nI n), .int 0, .int 15] A Q := by
  refine aw_C.of rfl (Nat.le_of_ble_eq_true rfl) (s_SL_indexOf_0.go [some (.ref 1013), some (.int (nI n)), some (.int 0), some (.int 15)] [.int (nI n)] A rfl ?_)
  refine z_callTS (av := [.int (nI n)]) (st := []) ok_SL_canEncode ml_SL_88 in_SL_canEncode d_SL_indexOf_1 rfl rfl (Nat.le_of_ble_eq_true rfl) (Nat.le_refl _) (Nat.le_refl _) (c_SL_canEncode hn (z_if_ne (tgt := 9) d_SL_indexOf_4 rfl (fun _ => ?_) (fun q => absurd q (by decide))))
  refine s_SL_indexOf_9.go [some (.ref 1013), some (.int (nI n)), some (.int 0), some (.int 15)] [.int 0, .int 0] A rfl (z_max0 ml_SL_92 d_SL_indexOf_11 ?_)
  refine s_SL_indexOf_14.go [some (.ref 1013), some (.int (nI n)), some (.int 0), some (.int 15)] [.ref 1013, .int 15] A rfl (z_blen (i := 1) (by decide) d_SL_indexOf_17 (z_min0 ml_SL_38 d_SL_indexOf_18 ?_))
  refine s_SL_indexOf_21.go [some (.ref 1013), some (.int (nI n)), some (.int 0), some (.int 15)] [.int 15, .int 0] A rfl (z_icmp_lt (tgt := 29) d_SL_indexOf_24 rfl (fun _ => ?_) (fun q => absurd (by decide) q))
  refine s_SL_indexOf_29.go [some (.ref 1013), some (.int (nI n)), some (.int 0), some (.int 15)] [.int 15, .int 0, .int (nI n), .ref 1013] A rfl ?_
  exact z_callTS (av := [.ref 1013, .int (nI n), .int 0, .int 15]) (st := []) ok_SL_ixc ml_SL_95 in_SL_ixc d_SL_indexOf_33 rfl rfl (Nat.le_of_ble_eq_true rfl) (Nat.le_refl _) (Nat.le_refl _) (c_SL_ixc (z_iret d_SL_indexOf_36 rfl rfl hQ))
theorem c_S_indexOf2 {n : Nat} (hn : n ≤ 255) (hQ : Q (some (.int (sIx (nI n).toInt8.toInt32 15 0))) A) : aw_C X (d + 2) 0 0 y_S_indexOf2 [.ref 1003, .int (nI n), .int 0] A Q := by
  refine aw_C.of rfl (Nat.le_of_ble_eq_true rfl) (s_S_indexOf2_0.go [some (.ref 1003), some (.int (nI n)), some (.int 0)] [.ref 1003] A rfl ?_)
  refine z_callT (i := 1) (av := []) (st := []) (by decide) rfl ok_S_isLatin1 ml_S_492 in_S_isLatin1 se_S_isLatin1 d_S_indexOf2_1 rfl rfl (Nat.le_of_ble_eq_true rfl) (Nat.le_refl _) (Nat.le_refl _) (c_S_isLatin1 (by decide) (z_if_eq (tgt := 23) d_S_indexOf2_4 rfl (fun q => absurd q (by decide)) (fun _ => ?_)))
  refine s_S_indexOf2_7.go [some (.ref 1003), some (.int (nI n)), some (.int 0)] [.ref 1003] A rfl (z_sval (i := 1) (by decide) wj_1123 d_S_indexOf2_8 ?_)
  refine s_S_indexOf2_11.go [some (.ref 1003), some (.int (nI n)), some (.int 0)] [.ref 1003, .int 0, .int (nI n), .ref 1013] A rfl ?_
  refine z_callT (i := 1) (av := []) (st := [.int 0, .int (nI n), .ref 1013]) (by decide) rfl ok_S_length ml_S_505 in_S_length se_S_length d_S_indexOf2_14 rfl rfl (Nat.le_of_ble_eq_true rfl) (Nat.le_refl _) (Nat.le_refl _) (c_S_length (d := d) (by decide) ?_)
  exact z_callTS (av := [.ref 1013, .int (nI n), .int 0, .int 15]) (st := []) ok_SL_indexOf ml_S_637 in_SL_indexOf d_S_indexOf2_17 rfl rfl (Nat.le_of_ble_eq_true rfl) (Nat.le_refl _) (Nat.le_refl _) (c_SL_indexOf (d := d) hn (z_goto (tgt := 36) d_S_indexOf2_20 rfl (z_iret d_S_indexOf2_36 rfl rfl hQ)))
theorem c_S_indexOf1 {n : Nat} (hn : n ≤ 255) (hQ : Q (some (.int (sIx (nI n).toInt8.toInt32 15 0))) A) : aw_C X (d + 3) 0 0 y_S_indexOf1 [.ref 1003, .int (nI n)] A Q := by
  refine aw_C.of rfl (Nat.le_of_ble_eq_true rfl) (s_S_indexOf1_0.go [some (.ref 1003), some (.int (nI n))] [.int 0, .int (nI n), .ref 1003] A rfl ?_)
  exact z_callT (i := 1) (av := [.int (nI n), .int 0]) (st := []) (by decide) rfl ok_S_indexOf2 ml_S_633 in_S_indexOf2 se_S_indexOf2 d_S_indexOf1_3 rfl rfl (Nat.le_of_ble_eq_true rfl) (Nat.le_refl _) (Nat.le_refl _) (c_S_indexOf2 (d := d) hn (z_iret d_S_indexOf1_6 rfl rfl hQ))
end JDK
