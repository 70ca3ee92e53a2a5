/-! by gen_blk.py (genall.py) -/
/-! M_partBits -/
theorem d_M_partBits_0 : decode y_M_partBits.2.1 0 = .ok (.aload_n 0, 1) := by decide +kernel
theorem d_M_partBits_1 : decode y_M_partBits.2.1 1 = .ok (.getfield 53, 3) := by decide +kernel
theorem d_M_partBits_4 : decode y_M_partBits.2.1 4 = .ok (.aload_n 0, 1) := by decide +kernel
theorem d_M_partBits_5 : decode y_M_partBits.2.1 5 = .ok (.getfield 57, 3) := by decide +kernel
theorem d_M_partBits_8 : decode y_M_partBits.2.1 8 = .ok (.aload_n 0, 1) := by decide +kernel
theorem d_M_partBits_9 : decode y_M_partBits.2.1 9 = .ok (.getfield 360, 3) := by decide +kernel
theorem d_M_partBits_12 : decode y_M_partBits.2.1 12 = .ok (.iadd, 1) := by decide +kernel
theorem d_M_partBits_13 : decode y_M_partBits.2.1 13 = .ok (.imul, 1) := by decide +kernel
theorem s_M_partBits_0 : aw_VS y_M_partBits 0 [o_ald 0, o_getI 9 33, o_ald 0, o_getI 9 34, o_ald 0, o_getI 9 35, o_i2 (fun x z => x + z), o_i2 (fun x z => x * z)] 14 := .cons (v_aload_n (i := 0) d_M_partBits_0 rfl) (.cons (v_getI (k := 33) k_M (by decide) (Or.inl rfl) (Or.inl w_1494) d_M_partBits_1) (.cons (v_aload_n (i := 0) d_M_partBits_4 rfl) (.cons (v_getI (k := 34) k_M (by decide) (Or.inl rfl) (Or.inl w_1495) d_M_partBits_5) (.cons (v_aload_n (i := 0) d_M_partBits_8 rfl) (.cons (v_getI (k := 35) k_M (by decide) (Or.inl rfl) (Or.inl w_1496) d_M_partBits_9) (.cons (v_iadd d_M_partBits_12) (.cons (v_imul d_M_partBits_13) .nil)))))))
theorem d_M_partBits_14 : decode y_M_partBits.2.1 14 = .ok (.ireturn, 1) := by decide +kernel
theorem b_M_partBits_0 {X : aw_X} {d : Nat} {Q : Option Value → aw_H → Prop} {I : Nat → Nat → Int32} {L : Nat → Nat → Int64} {D : Nat → Nat} 
    (h1 : Q (some (.int ((I 69 33) * ((I 69 34) + (I 69 35))))) (aw_s I L D)) :
    aw_z X d y_M_partBits Q 0 [some (.ref 69)] [] (aw_s I L D) :=
  (s_M_partBits_0.go [some (.ref 69)] [.int ((I 69 33) * ((I 69 34) + (I 69 35)))] (aw_s I L D) rfl (z_iret d_M_partBits_14 rfl rfl (h1)))
/-! M_failing -/
theorem d_M_failing_0 : decode y_M_failing.2.1 0 = .ok (.aload_n 0, 1) := by decide +kernel
theorem d_M_failing_1 : decode y_M_failing.2.1 1 = .ok (.iload_n 1, 1) := by decide +kernel
theorem s_M_failing_0 : aw_VS y_M_failing 0 [o_ald 0, o_ild 1] 2 := .cons (v_aload_n (i := 0) d_M_failing_0 rfl) (.cons (v_iload_n (i := 1) d_M_failing_1 rfl) .nil)
theorem d_M_failing_2 : decode y_M_failing.2.1 2 = .ok (.invokevirtual 378, 3) := by decide +kernel
theorem b_M_failing_0 {X : aw_X} {d : Nat} {Q : Option Value → aw_H → Prop} {I : Nat → Nat → Int32} {L : Nat → Nat → Int64} {D : Nat → Nat} {v1 : Int32}
    (h1 : aw_m X d y_M_layRow [.ref 69, .int v1] (aw_s I L D) (fun r A => aw_z X (d + 1) y_M_failing Q 5 [some (.ref 69), none, none, none] (r.toList ++ []) A)) :
    aw_z X (d + 1) y_M_failing Q 0 [some (.ref 69), some (.int v1), none, none] [] (aw_s I L D) :=
  (s_M_failing_0.go [some (.ref 69), some (.int v1), none, none] [.int v1, .ref 69] (aw_s I L D) rfl (z_callV (av := [.int v1]) (st := []) ok_M_layRow (Or.inl w_1927) w_1929 w_108 k_M d_M_failing_2 rfl (aw_lt (o := 69) rfl) rfl rfl (Nat.le_of_ble_eq_true rfl) (Nat.le_refl _) (Nat.le_refl _) (aw_C.mono (h1) (fun _ _ zz => aw_Z.weak (ls' := [some (.ref 69), none, none, none]) zz (Nat.le_of_ble_eq_true rfl) ⟨Or.inr rfl, ⟨Or.inl rfl, ⟨Or.inl rfl, ⟨Or.inl rfl, trivial⟩⟩⟩⟩))))
theorem d_M_failing_5 : decode y_M_failing.2.1 5 = .ok (.iconst 0, 1) := by decide +kernel
theorem d_M_failing_6 : decode y_M_failing.2.1 6 = .ok (.istore_n 2, 1) := by decide +kernel
theorem d_M_failing_7 : decode y_M_failing.2.1 7 = .ok (.iconst 0, 1) := by decide +kernel
theorem d_M_failing_8 : decode y_M_failing.2.1 8 = .ok (.istore_n 3, 1) := by decide +kernel
theorem s_M_failing_5 : aw_VS y_M_failing 5 [o_c (.int (0 : Int32)), o_ist 2, o_c (.int (0 : Int32)), o_ist 3] 9 := .cons (v_iconst (v := (0 : Int32)) d_M_failing_5 (by decide +kernel)) (.cons (v_istore_n d_M_failing_6) (.cons (v_iconst (v := (0 : Int32)) d_M_failing_7 (by decide +kernel)) (.cons (v_istore_n d_M_failing_8) .nil)))
theorem b_M_failing_5 {X : aw_X} {d : Nat} {Q : Option Value → aw_H → Prop} {I : Nat → Nat → Int32} {L : Nat → Nat → Int64} {D : Nat → Nat} 
    (h1 : aw_z X (d + 1) y_M_failing Q 9 [some (.ref 69), none, some (.int (0 : Int32)), some (.int (0 : Int32))] [] (aw_s I L D)) :
    aw_z X (d + 1) y_M_failing Q 5 [some (.ref 69), none, none, none] [] (aw_s I L D) :=
  (s_M_failing_5.go [some (.ref 69), none, some (.int (0 : Int32)), some (.int (0 : Int32))] [] (aw_s I L D) rfl (h1))
theorem d_M_failing_9 : decode y_M_failing.2.1 9 = .ok (.iload_n 3, 1) := by decide +kernel
theorem d_M_failing_10 : decode y_M_failing.2.1 10 = .ok (.aload_n 0, 1) := by decide +kernel
theorem d_M_failing_11 : decode y_M_failing.2.1 11 = .ok (.getfield 482, 3) := by decide +kernel
theorem s_M_failing_9 : aw_VS y_M_failing 9 [o_ild 3, o_ald 0, o_getI 9 75] 14 := .cons (v_iload_n (i := 3) d_M_failing_9 rfl) (.cons (v_aload_n (i := 0) d_M_failing_10 rfl) (.cons (v_getI (k := 75) k_M (by decide) (Or.inl rfl) (Or.inl w_1536) d_M_failing_11) .nil))
theorem d_M_failing_14 : decode y_M_failing.2.1 14 = .ok (.if_icmp .ge (23), 3) := by decide +kernel
theorem d_M_failing_37 : decode y_M_failing.2.1 37 = .ok (.iload_n 2, 1) := by decide +kernel
theorem s_M_failing_37 : aw_VS y_M_failing 37 [o_ild 2] 38 := .cons (v_iload_n (i := 2) d_M_failing_37 rfl) .nil
theorem d_M_failing_38 : decode y_M_failing.2.1 38 = .ok (.ireturn, 1) := by decide +kernel
theorem d_M_failing_17 : decode y_M_failing.2.1 17 = .ok (.aload_n 0, 1) := by decide +kernel
theorem d_M_failing_18 : decode y_M_failing.2.1 18 = .ok (.iload_n 3, 1) := by decide +kernel
theorem s_M_failing_17 : aw_VS y_M_failing 17 [o_ald 0, o_ild 3] 19 := .cons (v_aload_n (i := 0) d_M_failing_17 rfl) (.cons (v_iload_n (i := 3) d_M_failing_18 rfl) .nil)
theorem d_M_failing_19 : decode y_M_failing.2.1 19 = .ok (.invokevirtual 485, 3) := by decide +kernel
theorem b_M_failing_9 {X : aw_X} {d : Nat} {Q : Option Value → aw_H → Prop} {I : Nat → Nat → Int32} {L : Nat → Nat → Int64} {D : Nat → Nat} {v2 : Int32} {v3 : Int32}
    (h1 : (I 69 75) ≤ v3 → Q (some (.int v2)) (aw_s I L D))
    (h2 : ¬ (I 69 75) ≤ v3 → aw_m X d y_M_holdsTest [.ref 69, .int v3] (aw_s I L D) (fun r A => aw_z X (d + 1) y_M_failing Q 22 [some (.ref 69), none, some (.int v2), some (.int v3)] (r.toList ++ []) A)) :
    aw_z X (d + 1) y_M_failing Q 9 [some (.ref 69), none, some (.int v2), some (.int v3)] [] (aw_s I L D) :=
  (s_M_failing_9.go [some (.ref 69), none, some (.int v2), some (.int v3)] [.int (I 69 75), .int v3] (aw_s I L D) rfl (z_icmp_ge (tgt := 37) d_M_failing_14 rfl (fun q1 => (s_M_failing_37.go [some (.ref 69), none, some (.int v2), some (.int v3)] [.int v2] (aw_s I L D) rfl (z_iret d_M_failing_38 rfl rfl (h1 q1)))) (fun q2 => (s_M_failing_17.go [some (.ref 69), none, some (.int v2), some (.int v3)] [.int v3, .ref 69] (aw_s I L D) rfl (z_callV (av := [.int v3]) (st := []) ok_M_holdsTest (Or.inl w_2090) w_2092 w_127 k_M d_M_failing_19 rfl (aw_lt (o := 69) rfl) rfl rfl (Nat.le_of_ble_eq_true rfl) (Nat.le_refl _) (Nat.le_refl _) (h2 q2))))))
theorem d_M_failing_22 : decode y_M_failing.2.1 22 = .ok (.ifCond .ne (9), 3) := by decide +kernel
theorem d_M_failing_31 : decode y_M_failing.2.1 31 = .ok (.iinc 3 (1), 3) := by decide +kernel
theorem s_M_failing_31 : aw_VS y_M_failing 31 [o_inc 3 (1 : Int32)] 34 := .cons (v_iinc (k0 := (1 : Int32)) d_M_failing_31 (by decide +kernel)) .nil
theorem d_M_failing_34 : decode y_M_failing.2.1 34 = .ok (.goto (-25), 3) := by decide +kernel
theorem d_M_failing_25 : decode y_M_failing.2.1 25 = .ok (.iload_n 2, 1) := by decide +kernel
theorem d_M_failing_26 : decode y_M_failing.2.1 26 = .ok (.iconst 1, 1) := by decide +kernel
theorem d_M_failing_27 : decode y_M_failing.2.1 27 = .ok (.iload_n 3, 1) := by decide +kernel
theorem d_M_failing_28 : decode y_M_failing.2.1 28 = .ok (.ishl, 1) := by decide +kernel
theorem d_M_failing_29 : decode y_M_failing.2.1 29 = .ok (.ior, 1) := by decide +kernel
theorem d_M_failing_30 : decode y_M_failing.2.1 30 = .ok (.istore_n 2, 1) := by decide +kernel
theorem s_M_failing_25 : aw_VS y_M_failing 25 [o_ild 2, o_c (.int (1 : Int32)), o_ild 3, o_i2 (fun x z => x <<< (z &&& 31)), o_i2 (fun x z => x ||| z), o_ist 2] 31 := .cons (v_iload_n (i := 2) d_M_failing_25 rfl) (.cons (v_iconst (v := (1 : Int32)) d_M_failing_26 (by decide +kernel)) (.cons (v_iload_n (i := 3) d_M_failing_27 rfl) (.cons (v_ishl d_M_failing_28) (.cons (v_ior d_M_failing_29) (.cons (v_istore_n d_M_failing_30) .nil)))))
theorem b_M_failing_22 {X : aw_X} {d : Nat} {Q : Option Value → aw_H → Prop} {I : Nat → Nat → Int32} {L : Nat → Nat → Int64} {D : Nat → Nat} {v2 : Int32} {v3 : Int32} {s0 : Int32}
    (h1 : ¬ s0 = 0 → aw_z X (d + 1) y_M_failing Q 9 [some (.ref 69), none, some (.int v2), some (.int (v3 + (1 : Int32)))] [] (aw_s I L D))
    (h2 : s0 = 0 → aw_z X (d + 1) y_M_failing Q 9 [some (.ref 69), none, some (.int (v2 ||| ((1 : Int32) <<< (v3 &&& 31)))), some (.int (v3 + (1 : Int32)))] [] (aw_s I L D)) :
    aw_z X (d + 1) y_M_failing Q 22 [some (.ref 69), none, some (.int v2), some (.int v3)] [.int s0] (aw_s I L D) :=
  (z_if_ne (tgt := 31) d_M_failing_22 rfl (fun q1 => (s_M_failing_31.go [some (.ref 69), none, some (.int v2), some (.int (v3 + (1 : Int32)))] [] (aw_s I L D) rfl (z_goto (tgt := 9) d_M_failing_34 rfl (h1 q1)))) (fun q2 => (s_M_failing_25.go [some (.ref 69), none, some (.int (v2 ||| ((1 : Int32) <<< (v3 &&& 31)))), some (.int v3)] [] (aw_s I L D) rfl (s_M_failing_31.go [some (.ref 69), none, some (.int (v2 ||| ((1 : Int32) <<< (v3 &&& 31)))), some (.int (v3 + (1 : Int32)))] [] (aw_s I L D) rfl (z_goto (tgt := 9) d_M_failing_34 rfl (h2 q2))))))
/-! M_lowest -/
theorem d_M_lowest_0 : decode y_M_lowest.2.1 0 = .ok (.iconst 0, 1) := by decide +kernel
theorem d_M_lowest_1 : decode y_M_lowest.2.1 1 = .ok (.istore_n 1, 1) := by decide +kernel
theorem s_M_lowest_0 : aw_VS y_M_lowest 0 [o_c (.int (0 : Int32)), o_ist 1] 2 := .cons (v_iconst (v := (0 : Int32)) d_M_lowest_0 (by decide +kernel)) (.cons (v_istore_n d_M_lowest_1) .nil)
theorem b_M_lowest_0 {X : aw_X} {d : Nat} {Q : Option Value → aw_H → Prop} {I : Nat → Nat → Int32} {L : Nat → Nat → Int64} {D : Nat → Nat} {v0 : Int32}
    (h1 : aw_z X d y_M_lowest Q 2 [some (.int v0), some (.int (0 : Int32))] [] (aw_s I L D)) :
    aw_z X d y_M_lowest Q 0 [some (.int v0), none] [] (aw_s I L D) :=
  (s_M_lowest_0.go [some (.int v0), some (.int (0 : Int32))] [] (aw_s I L D) rfl (h1))
theorem d_M_lowest_2 : decode y_M_lowest.2.1 2 = .ok (.iload_n 0, 1) := by decide +kernel
theorem d_M_lowest_3 : decode y_M_lowest.2.1 3 = .ok (.iload_n 1, 1) := by decide +kernel
theorem d_M_lowest_4 : decode y_M_lowest.2.1 4 = .ok (.ishr, 1) := by decide +kernel
theorem d_M_lowest_5 : decode y_M_lowest.2.1 5 = .ok (.iconst 1, 1) := by decide +kernel
theorem d_M_lowest_6 : decode y_M_lowest.2.1 6 = .ok (.iand, 1) := by decide +kernel
theorem s_M_lowest_2 : aw_VS y_M_lowest 2 [o_ild 0, o_ild 1, o_i2 (fun x z => x >>> (z &&& 31)), o_c (.int (1 : Int32)), o_i2 (fun x z => x &&& z)] 7 := .cons (v_iload_n (i := 0) d_M_lowest_2 rfl) (.cons (v_iload_n (i := 1) d_M_lowest_3 rfl) (.cons (v_ishr d_M_lowest_4) (.cons (v_iconst (v := (1 : Int32)) d_M_lowest_5 (by decide +kernel)) (.cons (v_iand d_M_lowest_6) .nil))))
theorem d_M_lowest_7 : decode y_M_lowest.2.1 7 = .ok (.ifCond .ne (9), 3) := by decide +kernel
theorem d_M_lowest_16 : decode y_M_lowest.2.1 16 = .ok (.iload_n 1, 1) := by decide +kernel
theorem s_M_lowest_16 : aw_VS y_M_lowest 16 [o_ild 1] 17 := .cons (v_iload_n (i := 1) d_M_lowest_16 rfl) .nil
theorem d_M_lowest_17 : decode y_M_lowest.2.1 17 = .ok (.ireturn, 1) := by decide +kernel
theorem d_M_lowest_10 : decode y_M_lowest.2.1 10 = .ok (.iinc 1 (1), 3) := by decide +kernel
theorem s_M_lowest_10 : aw_VS y_M_lowest 10 [o_inc 1 (1 : Int32)] 13 := .cons (v_iinc (k0 := (1 : Int32)) d_M_lowest_10 (by decide +kernel)) .nil
theorem d_M_lowest_13 : decode y_M_lowest.2.1 13 = .ok (.goto (-11), 3) := by decide +kernel
theorem b_M_lowest_2 {X : aw_X} {d : Nat} {Q : Option Value → aw_H → Prop} {I : Nat → Nat → Int32} {L : Nat → Nat → Int64} {D : Nat → Nat} {v0 : Int32} {v1 : Int32}
    (h1 : ¬ ((v0 >>> (v1 &&& 31)) &&& (1 : Int32)) = 0 → Q (some (.int v1)) (aw_s I L D))
    (h2 : ((v0 >>> (v1 &&& 31)) &&& (1 : Int32)) = 0 → aw_z X d y_M_lowest Q 2 [some (.int v0), some (.int (v1 + (1 : Int32)))] [] (aw_s I L D)) :
    aw_z X d y_M_lowest Q 2 [some (.int v0), some (.int v1)] [] (aw_s I L D) :=
  (s_M_lowest_2.go [some (.int v0), some (.int v1)] [.int ((v0 >>> (v1 &&& 31)) &&& (1 : Int32))] (aw_s I L D) rfl (z_if_ne (tgt := 16) d_M_lowest_7 rfl (fun q1 => (s_M_lowest_16.go [some (.int v0), some (.int v1)] [.int v1] (aw_s I L D) rfl (z_iret d_M_lowest_17 rfl rfl (h1 q1)))) (fun q2 => (s_M_lowest_10.go [some (.int v0), some (.int (v1 + (1 : Int32)))] [] (aw_s I L D) rfl (z_goto (tgt := 2) d_M_lowest_13 rfl (h2 q2))))))
/-! M_proofAt -/
theorem d_M_proofAt_0 : decode y_M_proofAt.2.1 0 = .ok (.aload_n 0, 1) := by decide +kernel
theorem d_M_proofAt_1 : decode y_M_proofAt.2.1 1 = .ok (.iconst 0, 1) := by decide +kernel
theorem d_M_proofAt_2 : decode y_M_proofAt.2.1 2 = .ok (.putfield 160, 3) := by decide +kernel
theorem d_M_proofAt_5 : decode y_M_proofAt.2.1 5 = .ok (.iload_n 1, 1) := by decide +kernel
theorem s_M_proofAt_0 : aw_VS y_M_proofAt 0 [o_ald 0, o_c (.int (0 : Int32)), o_putI 9 0, o_ild 1] 6 := .cons (v_aload_n (i := 0) d_M_proofAt_0 rfl) (.cons (v_iconst (v := (0 : Int32)) d_M_proofAt_1 (by decide +kernel)) (.cons (v_putI (k := 0) k_M (by decide) rfl (Or.inl ⟨rfl, Or.inl w_1461⟩) d_M_proofAt_2) (.cons (v_iload_n (i := 1) d_M_proofAt_5 rfl) .nil)))
theorem d_M_proofAt_6 : decode y_M_proofAt.2.1 6 = .ok (.ifCond .lt (20), 3) := by decide +kernel
theorem d_M_proofAt_26 : decode y_M_proofAt.2.1 26 = .ok (.iconst (-1), 1) := by decide +kernel
theorem s_M_proofAt_26 : aw_VS y_M_proofAt 26 [o_c (.int (-1 : Int32))] 27 := .cons (v_iconst (v := (-1 : Int32)) d_M_proofAt_26 (by decide +kernel)) .nil
theorem d_M_proofAt_27 : decode y_M_proofAt.2.1 27 = .ok (.ireturn, 1) := by decide +kernel
theorem d_M_proofAt_9 : decode y_M_proofAt.2.1 9 = .ok (.iload_n 1, 1) := by decide +kernel
theorem d_M_proofAt_10 : decode y_M_proofAt.2.1 10 = .ok (.aload_n 0, 1) := by decide +kernel
theorem d_M_proofAt_11 : decode y_M_proofAt.2.1 11 = .ok (.getfield 501, 3) := by decide +kernel
theorem s_M_proofAt_9 : aw_VS y_M_proofAt 9 [o_ild 1, o_ald 0, o_getI 9 83] 14 := .cons (v_iload_n (i := 1) d_M_proofAt_9 rfl) (.cons (v_aload_n (i := 0) d_M_proofAt_10 rfl) (.cons (v_getI (k := 83) k_M (by decide) (Or.inl rfl) (Or.inl w_1544) d_M_proofAt_11) .nil))
theorem d_M_proofAt_14 : decode y_M_proofAt.2.1 14 = .ok (.if_icmp .ge (12), 3) := by decide +kernel
theorem d_M_proofAt_17 : decode y_M_proofAt.2.1 17 = .ok (.aload_n 0, 1) := by decide +kernel
theorem d_M_proofAt_18 : decode y_M_proofAt.2.1 18 = .ok (.getfield 151, 3) := by decide +kernel
theorem d_M_proofAt_21 : decode y_M_proofAt.2.1 21 = .ok (.iload_n 1, 1) := by decide +kernel
theorem s_M_proofAt_17 : aw_VS y_M_proofAt 17 [o_ald 0, o_getA 9 81, o_ild 1] 22 := .cons (v_aload_n (i := 0) d_M_proofAt_17 rfl) (.cons (v_getA (k := 81) k_M (by decide) rfl (Or.inl w_1542) d_M_proofAt_18) (.cons (v_iload_n (i := 1) d_M_proofAt_21 rfl) .nil))
theorem d_M_proofAt_22 : decode y_M_proofAt.2.1 22 = .ok (.iaload, 1) := by decide +kernel
theorem d_M_proofAt_23 : decode y_M_proofAt.2.1 23 = .ok (.goto (4), 3) := by decide +kernel
theorem b_M_proofAt_0 {X : aw_X} {d : Nat} {Q : Option Value → aw_H → Prop} {I : Nat → Nat → Int32} {L : Nat → Nat → Int64} {D : Nat → Nat} {v1 : Int32}
    (h1 : v1 < 0 → Q (some (.int (-1 : Int32))) (aw_s (aw_u I 69 0 (0 : Int32)) L D))
    (h2 : ¬ v1 < 0 → (I 69 83) ≤ v1 → Q (some (.int (-1 : Int32))) (aw_s (aw_u I 69 0 (0 : Int32)) L D))
    (h3 : ¬ v1 < 0 → ¬ (I 69 83) ≤ v1 → vp_in v1 600)
    (h4 : ¬ v1 < 0 → ¬ (I 69 83) ≤ v1 → Q (some (.int (I 112 v1.toNatClampNeg))) (aw_s (aw_u I 69 0 (0 : Int32)) L D)) :
    aw_z X d y_M_proofAt Q 0 [some (.ref 69), some (.int v1)] [] (aw_s I L D) :=
  (s_M_proofAt_0.go [some (.ref 69), some (.int v1)] [.int v1] (aw_s (aw_u I 69 0 (0 : Int32)) L D) rfl (z_if_lt (tgt := 26) d_M_proofAt_6 rfl (fun q1 => (s_M_proofAt_26.go [some (.ref 69), some (.int v1)] [.int (-1 : Int32)] (aw_s (aw_u I 69 0 (0 : Int32)) L D) rfl (z_iret d_M_proofAt_27 rfl rfl (h1 q1)))) (fun q2 => (s_M_proofAt_9.go [some (.ref 69), some (.int v1)] [.int (I 69 83), .int v1] (aw_s (aw_u I 69 0 (0 : Int32)) L D) rfl (z_icmp_ge (tgt := 26) d_M_proofAt_14 rfl (fun q3 => (s_M_proofAt_26.go [some (.ref 69), some (.int v1)] [.int (-1 : Int32)] (aw_s (aw_u I 69 0 (0 : Int32)) L D) rfl (z_iret d_M_proofAt_27 rfl rfl (h2 q2 q3)))) (fun q4 => (s_M_proofAt_17.go [some (.ref 69), some (.int v1)] [.int v1, .ref 112] (aw_s (aw_u I 69 0 (0 : Int32)) L D) rfl (z_iald (n := 600) rfl (aw_lt (o := 112) rfl) (h3 q2 q4) d_M_proofAt_22 (z_goto (tgt := 27) d_M_proofAt_23 rfl (z_iret d_M_proofAt_27 rfl rfl (h4 q2 q4)))))))))))
/-! M_check -/
theorem d_M_check_0 : decode y_M_check.2.1 0 = .ok (.aload_n 0, 1) := by decide +kernel
theorem d_M_check_1 : decode y_M_check.2.1 1 = .ok (.iconst 0, 1) := by decide +kernel
theorem d_M_check_2 : decode y_M_check.2.1 2 = .ok (.putfield 160, 3) := by decide +kernel
theorem d_M_check_5 : decode y_M_check.2.1 5 = .ok (.aload_n 0, 1) := by decide +kernel
theorem s_M_check_0 : aw_VS y_M_check 0 [o_ald 0, o_c (.int (0 : Int32)), o_putI 9 0, o_ald 0] 6 := .cons (v_aload_n (i := 0) d_M_check_0 rfl) (.cons (v_iconst (v := (0 : Int32)) d_M_check_1 (by decide +kernel)) (.cons (v_putI (k := 0) k_M (by decide) rfl (Or.inl ⟨rfl, Or.inl w_1461⟩) d_M_check_2) (.cons (v_aload_n (i := 0) d_M_check_5 rfl) .nil)))
theorem d_M_check_6 : decode y_M_check.2.1 6 = .ok (.invokevirtual 340, 3) := by decide +kernel
theorem b_M_check_0 {X : aw_X} {d : Nat} {Q : Option Value → aw_H → Prop} {I : Nat → Nat → Int32} {L : Nat → Nat → Int64} {D : Nat → Nat} 
    (h1 : aw_m X d y_M_take [.ref 69] (aw_s (aw_u I 69 0 (0 : Int32)) L D) (fun r A => aw_z X (d + 1) y_M_check Q 9 [some (.ref 69), none, none, none, none, none] (r.toList ++ []) A)) :
    aw_z X (d + 1) y_M_check Q 0 [some (.ref 69), none, none, none, none, none] [] (aw_s I L D) :=
  (s_M_check_0.go [some (.ref 69), none, none, none, none, none] [.ref 69] (aw_s (aw_u I 69 0 (0 : Int32)) L D) rfl (z_callV (av := []) (st := []) ok_M_take (Or.inl w_1741) w_1743 w_71 k_M d_M_check_6 rfl (aw_lt (o := 69) rfl) rfl rfl (Nat.le_of_ble_eq_true rfl) (Nat.le_refl _) (Nat.le_refl _) (h1)))
theorem d_M_check_9 : decode y_M_check.2.1 9 = .ok (.istore_n 1, 1) := by decide +kernel
theorem d_M_check_10 : decode y_M_check.2.1 10 = .ok (.aload_n 0, 1) := by decide +kernel
theorem d_M_check_11 : decode y_M_check.2.1 11 = .ok (.getfield 482, 3) := by decide +kernel
theorem s_M_check_9 : aw_VS y_M_check 9 [o_ist 1, o_ald 0, o_getI 9 75] 14 := .cons (v_istore_n d_M_check_9) (.cons (v_aload_n (i := 0) d_M_check_10 rfl) (.cons (v_getI (k := 75) k_M (by decide) (Or.inl rfl) (Or.inl w_1536) d_M_check_11) .nil))
theorem d_M_check_14 : decode y_M_check.2.1 14 = .ok (.ifCond .eq (10), 3) := by decide +kernel
theorem d_M_check_24 : decode y_M_check.2.1 24 = .ok (.bipush (-2), 2) := by decide +kernel
theorem s_M_check_24 : aw_VS y_M_check 24 [o_c (.int (-2 : Int32))] 26 := .cons (v_bipush (v := (-2 : Int32)) d_M_check_24 (by decide +kernel)) .nil
theorem d_M_check_26 : decode y_M_check.2.1 26 = .ok (.ireturn, 1) := by decide +kernel
theorem d_M_check_17 : decode y_M_check.2.1 17 = .ok (.aload_n 0, 1) := by decide +kernel
theorem s_M_check_17 : aw_VS y_M_check 17 [o_ald 0] 18 := .cons (v_aload_n (i := 0) d_M_check_17 rfl) .nil
theorem d_M_check_18 : decode y_M_check.2.1 18 = .ok (.invokevirtual 473, 3) := by decide +kernel
theorem b_M_check_9 {X : aw_X} {d : Nat} {Q : Option Value → aw_H → Prop} {I : Nat → Nat → Int32} {L : Nat → Nat → Int64} {D : Nat → Nat} {s0 : Int32}
    (h1 : (I 69 75) = 0 → Q (some (.int (-2 : Int32))) (aw_s I L D))
    (h2 : ¬ (I 69 75) = 0 → aw_m X d y_M_isSmall [.ref 69] (aw_s I L D) (fun r A => aw_z X (d + 1) y_M_check Q 21 [some (.ref 69), some (.int s0), none, none, none, none] (r.toList ++ []) A)) :
    aw_z X (d + 1) y_M_check Q 9 [some (.ref 69), none, none, none, none, none] [.int s0] (aw_s I L D) :=
  (s_M_check_9.go [some (.ref 69), some (.int s0), none, none, none, none] [.int (I 69 75)] (aw_s I L D) rfl (z_if_eq (tgt := 24) d_M_check_14 rfl (fun q1 => (s_M_check_24.go [some (.ref 69), some (.int s0), none, none, none, none] [.int (-2 : Int32)] (aw_s I L D) rfl (z_iret d_M_check_26 rfl rfl (h1 q1)))) (fun q2 => (s_M_check_17.go [some (.ref 69), some (.int s0), none, none, none, none] [.ref 69] (aw_s I L D) rfl (z_callV (av := []) (st := []) ok_M_isSmall (Or.inl w_2066) w_2068 w_124 k_M d_M_check_18 rfl (aw_lt (o := 69) rfl) rfl rfl (Nat.le_of_ble_eq_true rfl) (Nat.le_refl _) (Nat.le_refl _) (h2 q2))))))
theorem d_M_check_21 : decode y_M_check.2.1 21 = .ok (.ifCond .ne (6), 3) := by decide +kernel
theorem d_M_check_27 : decode y_M_check.2.1 27 = .ok (.aload_n 0, 1) := by decide +kernel
theorem s_M_check_27 : aw_VS y_M_check 27 [o_ald 0] 28 := .cons (v_aload_n (i := 0) d_M_check_27 rfl) .nil
theorem d_M_check_28 : decode y_M_check.2.1 28 = .ok (.invokevirtual 495, 3) := by decide +kernel
theorem b_M_check_21 {X : aw_X} {d : Nat} {Q : Option Value → aw_H → Prop} {I : Nat → Nat → Int32} {L : Nat → Nat → Int64} {D : Nat → Nat} {v1 : Int32} {s0 : Int32}
    (h1 : ¬ s0 = 0 → aw_m X d y_M_layParts [.ref 69] (aw_s I L D) (fun r A => aw_z X (d + 1) y_M_check Q 31 [some (.ref 69), some (.int v1), none, none, none, none] (r.toList ++ []) A))
    (h2 : s0 = 0 → Q (some (.int (-2 : Int32))) (aw_s I L D)) :
    aw_z X (d + 1) y_M_check Q 21 [some (.ref 69), some (.int v1), none, none, none, none] [.int s0] (aw_s I L D) :=
  (z_if_ne (tgt := 27) d_M_check_21 rfl (fun q1 => (s_M_check_27.go [some (.ref 69), some (.int v1), none, none, none, none] [.ref 69] (aw_s I L D) rfl (z_callV (av := []) (st := []) ok_M_layParts (Or.inl w_2098) w_2100 w_128 k_M d_M_check_28 rfl (aw_lt (o := 69) rfl) rfl rfl (Nat.le_of_ble_eq_true rfl) (Nat.le_refl _) (Nat.le_refl _) (h1 q1)))) (fun q2 => (s_M_check_24.go [some (.ref 69), some (.int v1), none, none, none, none] [.int (-2 : Int32)] (aw_s I L D) rfl (z_iret d_M_check_26 rfl rfl (h2 q2)))))
theorem d_M_check_31 : decode y_M_check.2.1 31 = .ok (.iconst 1, 1) := by decide +kernel
theorem d_M_check_32 : decode y_M_check.2.1 32 = .ok (.istore_n 2, 1) := by decide +kernel
theorem d_M_check_33 : decode y_M_check.2.1 33 = .ok (.aload_n 0, 1) := by decide +kernel
theorem d_M_check_34 : decode y_M_check.2.1 34 = .ok (.getfield 154, 3) := by decide +kernel
theorem d_M_check_37 : decode y_M_check.2.1 37 = .ok (.iconst 0, 1) := by decide +kernel
theorem d_M_check_38 : decode y_M_check.2.1 38 = .ok (.aload_n 0, 1) := by decide +kernel
theorem d_M_check_39 : decode y_M_check.2.1 39 = .ok (.getfield 148, 3) := by decide +kernel
theorem d_M_check_42 : decode y_M_check.2.1 42 = .ok (.aload_n 0, 1) := by decide +kernel
theorem s_M_check_31 : aw_VS y_M_check 31 [o_c (.int (1 : Int32)), o_ist 2, o_ald 0, o_getA 9 82, o_c (.int (0 : Int32)), o_ald 0, o_getA 9 80, o_ald 0] 43 := .cons (v_iconst (v := (1 : Int32)) d_M_check_31 (by decide +kernel)) (.cons (v_istore_n d_M_check_32) (.cons (v_aload_n (i := 0) d_M_check_33 rfl) (.cons (v_getA (k := 82) k_M (by decide) rfl (Or.inl w_1543) d_M_check_34) (.cons (v_iconst (v := (0 : Int32)) d_M_check_37 (by decide +kernel)) (.cons (v_aload_n (i := 0) d_M_check_38 rfl) (.cons (v_getA (k := 80) k_M (by decide) rfl (Or.inl w_1541) d_M_check_39) (.cons (v_aload_n (i := 0) d_M_check_42 rfl) .nil)))))))
theorem d_M_check_43 : decode y_M_check.2.1 43 = .ok (.invokevirtual 488, 3) := by decide +kernel
theorem b_M_check_31 {X : aw_X} {d : Nat} {Q : Option Value → aw_H → Prop} {I : Nat → Nat → Int32} {L : Nat → Nat → Int64} {D : Nat → Nat} {v1 : Int32}
    (h1 : aw_m X d y_M_partBits [.ref 69] (aw_s I L D) (fun r A => aw_z X (d + 1) y_M_check Q 46 [some (.ref 69), some (.int v1), some (.int (1 : Int32)), none, none, none] (r.toList ++ [.ref 111, .int (0 : Int32), .ref 113]) A)) :
    aw_z X (d + 1) y_M_check Q 31 [some (.ref 69), some (.int v1), none, none, none, none] [] (aw_s I L D) :=
  (s_M_check_31.go [some (.ref 69), some (.int v1), some (.int (1 : Int32)), none, none, none] [.ref 69, .ref 111, .int (0 : Int32), .ref 113] (aw_s I L D) rfl (z_callV (av := []) (st := [.ref 111, .int (0 : Int32), .ref 113]) ok_M_partBits (Or.inl w_2102) w_2104 w_129 k_M d_M_check_43 rfl (aw_lt (o := 69) rfl) rfl rfl (Nat.le_of_ble_eq_true rfl) (Nat.le_refl _) (Nat.le_refl _) (h1)))
theorem d_M_check_46 : decode y_M_check.2.1 46 = .ok (.iaload, 1) := by decide +kernel
theorem d_M_check_47 : decode y_M_check.2.1 47 = .ok (.iconst 1, 1) := by decide +kernel
theorem d_M_check_48 : decode y_M_check.2.1 48 = .ok (.isub, 1) := by decide +kernel
theorem s_M_check_47 : aw_VS y_M_check 47 [o_c (.int (1 : Int32)), o_i2 (fun x z => x - z)] 49 := .cons (v_iconst (v := (1 : Int32)) d_M_check_47 (by decide +kernel)) (.cons (v_isub d_M_check_48) .nil)
theorem d_M_check_49 : decode y_M_check.2.1 49 = .ok (.iastore, 1) := by decide +kernel
theorem d_M_check_50 : decode y_M_check.2.1 50 = .ok (.iconst 0, 1) := by decide +kernel
theorem d_M_check_51 : decode y_M_check.2.1 51 = .ok (.istore_n 3, 1) := by decide +kernel
theorem s_M_check_50 : aw_VS y_M_check 50 [o_c (.int (0 : Int32)), o_ist 3] 52 := .cons (v_iconst (v := (0 : Int32)) d_M_check_50 (by decide +kernel)) (.cons (v_istore_n d_M_check_51) .nil)
theorem b_M_check_46 {X : aw_X} {d : Nat} {Q : Option Value → aw_H → Prop} {I : Nat → Nat → Int32} {L : Nat → Nat → Int64} {D : Nat → Nat} {v1 : Int32} {v2 : Int32} {s3 : Int32} {s1 : Int32}
    (h1 : vp_in s3 9)
    (h2 : vp_in s1 600)
    (h3 : aw_z X (d + 1) y_M_check Q 52 [some (.ref 69), some (.int v1), some (.int v2), some (.int (0 : Int32)), none, none] [] (aw_s (aw_u I 113 s1.toNatClampNeg ((I 111 s3.toNatClampNeg) - (1 : Int32))) L D)) :
    aw_z X (d + 1) y_M_check Q 46 [some (.ref 69), some (.int v1), some (.int v2), none, none, none] [.int s3, .ref 111, .int s1, .ref 113] (aw_s I L D) :=
  (z_iald (n := 9) rfl (aw_lt (o := 111) rfl) (h1) d_M_check_46 (s_M_check_47.go [some (.ref 69), some (.int v1), some (.int v2), none, none, none] [.int ((I 111 s3.toNatClampNeg) - (1 : Int32)), .int s1, .ref 113] (aw_s I L D) rfl (z_iast (n := 600) rfl (aw_lt (o := 113) rfl) (h2) d_M_check_49 (s_M_check_50.go [some (.ref 69), some (.int v1), some (.int v2), some (.int (0 : Int32)), none, none] [] (aw_s (aw_u I 113 s1.toNatClampNeg ((I 111 s3.toNatClampNeg) - (1 : Int32))) L D) rfl (h3)))))
theorem d_M_check_52 : decode y_M_check.2.1 52 = .ok (.iload_n 3, 1) := by decide +kernel
theorem d_M_check_53 : decode y_M_check.2.1 53 = .ok (.iload_n 1, 1) := by decide +kernel
theorem s_M_check_52 : aw_VS y_M_check 52 [o_ild 3, o_ild 1] 54 := .cons (v_iload_n (i := 3) d_M_check_52 rfl) (.cons (v_iload_n (i := 1) d_M_check_53 rfl) .nil)
theorem d_M_check_54 : decode y_M_check.2.1 54 = .ok (.if_icmp .ge (139), 3) := by decide +kernel
theorem d_M_check_193 : decode y_M_check.2.1 193 = .ok (.iload_n 2, 1) := by decide +kernel
theorem s_M_check_193 : aw_VS y_M_check 193 [o_ild 2] 194 := .cons (v_iload_n (i := 2) d_M_check_193 rfl) .nil
theorem d_M_check_194 : decode y_M_check.2.1 194 = .ok (.ifCond .ne (7), 3) := by decide +kernel
theorem d_M_check_201 : decode y_M_check.2.1 201 = .ok (.iload_n 1, 1) := by decide +kernel
theorem s_M_check_201 : aw_VS y_M_check 201 [o_ild 1] 202 := .cons (v_iload_n (i := 1) d_M_check_201 rfl) .nil
theorem d_M_check_202 : decode y_M_check.2.1 202 = .ok (.ireturn, 1) := by decide +kernel
theorem d_M_check_197 : decode y_M_check.2.1 197 = .ok (.iconst (-1), 1) := by decide +kernel
theorem s_M_check_197 : aw_VS y_M_check 197 [o_c (.int (-1 : Int32))] 198 := .cons (v_iconst (v := (-1 : Int32)) d_M_check_197 (by decide +kernel)) .nil
theorem d_M_check_198 : decode y_M_check.2.1 198 = .ok (.goto (4), 3) := by decide +kernel
theorem d_M_check_57 : decode y_M_check.2.1 57 = .ok (.iload_n 2, 1) := by decide +kernel
theorem s_M_check_57 : aw_VS y_M_check 57 [o_ild 2] 58 := .cons (v_iload_n (i := 2) d_M_check_57 rfl) .nil
theorem d_M_check_58 : decode y_M_check.2.1 58 = .ok (.ifCond .ne (5), 3) := by decide +kernel
theorem d_M_check_63 : decode y_M_check.2.1 63 = .ok (.iinc 2 (-1), 3) := by decide +kernel
theorem d_M_check_66 : decode y_M_check.2.1 66 = .ok (.aload_n 0, 1) := by decide +kernel
theorem d_M_check_67 : decode y_M_check.2.1 67 = .ok (.getfield 154, 3) := by decide +kernel
theorem d_M_check_70 : decode y_M_check.2.1 70 = .ok (.iload_n 2, 1) := by decide +kernel
theorem s_M_check_63 : aw_VS y_M_check 63 [o_inc 2 (-1 : Int32), o_ald 0, o_getA 9 82, o_ild 2] 71 := .cons (v_iinc (k0 := (-1 : Int32)) d_M_check_63 (by decide +kernel)) (.cons (v_aload_n (i := 0) d_M_check_66 rfl) (.cons (v_getA (k := 82) k_M (by decide) rfl (Or.inl w_1543) d_M_check_67) (.cons (v_iload_n (i := 2) d_M_check_70 rfl) .nil)))
theorem d_M_check_71 : decode y_M_check.2.1 71 = .ok (.iaload, 1) := by decide +kernel
theorem d_M_check_72 : decode y_M_check.2.1 72 = .ok (.istore 4, 2) := by decide +kernel
theorem d_M_check_74 : decode y_M_check.2.1 74 = .ok (.aload_n 0, 1) := by decide +kernel
theorem d_M_check_75 : decode y_M_check.2.1 75 = .ok (.getfield 7, 3) := by decide +kernel
theorem d_M_check_78 : decode y_M_check.2.1 78 = .ok (.iload_n 3, 1) := by decide +kernel
theorem s_M_check_72 : aw_VS y_M_check 72 [o_ist 4, o_ald 0, o_getA 9 1, o_ild 3] 79 := .cons (v_istore d_M_check_72) (.cons (v_aload_n (i := 0) d_M_check_74 rfl) (.cons (v_getA (k := 1) k_M (by decide) rfl (Or.inl w_1462) d_M_check_75) (.cons (v_iload_n (i := 3) d_M_check_78 rfl) .nil)))
theorem d_M_check_79 : decode y_M_check.2.1 79 = .ok (.iaload, 1) := by decide +kernel
theorem d_M_check_80 : decode y_M_check.2.1 80 = .ok (.istore 5, 2) := by decide +kernel
theorem d_M_check_82 : decode y_M_check.2.1 82 = .ok (.iload 5, 2) := by decide +kernel
theorem d_M_check_84 : decode y_M_check.2.1 84 = .ok (.bipush 100, 2) := by decide +kernel
theorem s_M_check_80 : aw_VS y_M_check 80 [o_ist 5, o_ild 5, o_c (.int (100 : Int32))] 86 := .cons (v_istore d_M_check_80) (.cons (v_iload (i := 5) d_M_check_82) (.cons (v_bipush (v := (100 : Int32)) d_M_check_84 (by decide +kernel)) .nil))
theorem d_M_check_86 : decode y_M_check.2.1 86 = .ok (.if_icmp .lt (35), 3) := by decide +kernel
theorem d_M_check_121 : decode y_M_check.2.1 121 = .ok (.iload 5, 2) := by decide +kernel
theorem d_M_check_123 : decode y_M_check.2.1 123 = .ok (.aload_n 0, 1) := by decide +kernel
theorem s_M_check_121 : aw_VS y_M_check 121 [o_ild 5, o_ald 0] 124 := .cons (v_iload (i := 5) d_M_check_121) (.cons (v_aload_n (i := 0) d_M_check_123 rfl) .nil)
theorem d_M_check_124 : decode y_M_check.2.1 124 = .ok (.invokevirtual 488, 3) := by decide +kernel
theorem d_M_check_89 : decode y_M_check.2.1 89 = .ok (.iload 5, 2) := by decide +kernel
theorem d_M_check_91 : decode y_M_check.2.1 91 = .ok (.bipush 100, 2) := by decide +kernel
theorem d_M_check_93 : decode y_M_check.2.1 93 = .ok (.isub, 1) := by decide +kernel
theorem d_M_check_94 : decode y_M_check.2.1 94 = .ok (.aload_n 0, 1) := by decide +kernel
theorem d_M_check_95 : decode y_M_check.2.1 95 = .ok (.getfield 482, 3) := by decide +kernel
theorem s_M_check_89 : aw_VS y_M_check 89 [o_ild 5, o_c (.int (100 : Int32)), o_i2 (fun x z => x - z), o_ald 0, o_getI 9 75] 98 := .cons (v_iload (i := 5) d_M_check_89) (.cons (v_bipush (v := (100 : Int32)) d_M_check_91 (by decide +kernel)) (.cons (v_isub d_M_check_93) (.cons (v_aload_n (i := 0) d_M_check_94 rfl) (.cons (v_getI (k := 75) k_M (by decide) (Or.inl rfl) (Or.inl w_1536) d_M_check_95) .nil))))
theorem d_M_check_98 : decode y_M_check.2.1 98 = .ok (.if_icmp .ge (21), 3) := by decide +kernel
theorem d_M_check_119 : decode y_M_check.2.1 119 = .ok (.iload_n 3, 1) := by decide +kernel
theorem s_M_check_119 : aw_VS y_M_check 119 [o_ild 3] 120 := .cons (v_iload_n (i := 3) d_M_check_119 rfl) .nil
theorem d_M_check_120 : decode y_M_check.2.1 120 = .ok (.ireturn, 1) := by decide +kernel
theorem d_M_check_101 : decode y_M_check.2.1 101 = .ok (.aload_n 0, 1) := by decide +kernel
theorem d_M_check_102 : decode y_M_check.2.1 102 = .ok (.getfield 139, 3) := by decide +kernel
theorem d_M_check_105 : decode y_M_check.2.1 105 = .ok (.iload 4, 2) := by decide +kernel
theorem s_M_check_101 : aw_VS y_M_check 101 [o_ald 0, o_getA 9 77, o_ild 4] 107 := .cons (v_aload_n (i := 0) d_M_check_101 rfl) (.cons (v_getA (k := 77) k_M (by decide) rfl (Or.inl w_1538) d_M_check_102) (.cons (v_iload (i := 4) d_M_check_105) .nil))
theorem d_M_check_107 : decode y_M_check.2.1 107 = .ok (.iaload, 1) := by decide +kernel
theorem d_M_check_108 : decode y_M_check.2.1 108 = .ok (.iload 5, 2) := by decide +kernel
theorem d_M_check_110 : decode y_M_check.2.1 110 = .ok (.bipush 100, 2) := by decide +kernel
theorem d_M_check_112 : decode y_M_check.2.1 112 = .ok (.isub, 1) := by decide +kernel
theorem d_M_check_113 : decode y_M_check.2.1 113 = .ok (.ishr, 1) := by decide +kernel
theorem d_M_check_114 : decode y_M_check.2.1 114 = .ok (.iconst 1, 1) := by decide +kernel
theorem d_M_check_115 : decode y_M_check.2.1 115 = .ok (.iand, 1) := by decide +kernel
theorem s_M_check_108 : aw_VS y_M_check 108 [o_ild 5, o_c (.int (100 : Int32)), o_i2 (fun x z => x - z), o_i2 (fun x z => x >>> (z &&& 31)), o_c (.int (1 : Int32)), o_i2 (fun x z => x &&& z)] 116 := .cons (v_iload (i := 5) d_M_check_108) (.cons (v_bipush (v := (100 : Int32)) d_M_check_110 (by decide +kernel)) (.cons (v_isub d_M_check_112) (.cons (v_ishr d_M_check_113) (.cons (v_iconst (v := (1 : Int32)) d_M_check_114 (by decide +kernel)) (.cons (v_iand d_M_check_115) .nil)))))
theorem d_M_check_116 : decode y_M_check.2.1 116 = .ok (.ifCond .ne (71), 3) := by decide +kernel
theorem d_M_check_187 : decode y_M_check.2.1 187 = .ok (.iinc 3 (1), 3) := by decide +kernel
theorem s_M_check_187 : aw_VS y_M_check 187 [o_inc 3 (1 : Int32)] 190 := .cons (v_iinc (k0 := (1 : Int32)) d_M_check_187 (by decide +kernel)) .nil
theorem d_M_check_190 : decode y_M_check.2.1 190 = .ok (.goto (-138), 3) := by decide +kernel
theorem d_M_check_61 : decode y_M_check.2.1 61 = .ok (.iload_n 3, 1) := by decide +kernel
theorem s_M_check_61 : aw_VS y_M_check 61 [o_ild 3] 62 := .cons (v_iload_n (i := 3) d_M_check_61 rfl) .nil
theorem d_M_check_62 : decode y_M_check.2.1 62 = .ok (.ireturn, 1) := by decide +kernel
theorem b_M_check_52 {X : aw_X} {d : Nat} {Q : Option Value → aw_H → Prop} {I : Nat → Nat → Int32} {L : Nat → Nat → Int64} {D : Nat → Nat} {v1 : Int32} {v2 : Int32} {v3 : Int32}
    (h1 : v1 ≤ v3 → ¬ v2 = 0 → Q (some (.int v1)) (aw_s I L D))
    (h2 : v1 ≤ v3 → v2 = 0 → Q (some (.int (-1 : Int32))) (aw_s I L D))
    (h3 : ¬ v1 ≤ v3 → ¬ v2 = 0 → vp_in (v2 + (-1 : Int32)) 600)
    (h4 : ¬ v1 ≤ v3 → ¬ v2 = 0 → vp_in v3 540)
    (h5 : ¬ v1 ≤ v3 → ¬ v2 = 0 → (I 70 v3.toNatClampNeg) < (100 : Int32) → aw_m X d y_M_partBits [.ref 69] (aw_s I L D) (fun r A => aw_z X (d + 1) y_M_check Q 127 [some (.ref 69), some (.int v1), some (.int (v2 + (-1 : Int32))), some (.int v3), some (.int (I 113 ((v2 + (-1 : Int32)).toNatClampNeg))), some (.int (I 70 v3.toNatClampNeg))] (r.toList ++ [.int (I 70 v3.toNatClampNeg)]) A))
    (h6 : ¬ v1 ≤ v3 → ¬ v2 = 0 → ¬ (I 70 v3.toNatClampNeg) < (100 : Int32) → (I 69 75) ≤ ((I 70 v3.toNatClampNeg) - (100 : Int32)) → Q (some (.int v3)) (aw_s I L D))
    (h7 : ¬ v1 ≤ v3 → ¬ v2 = 0 → ¬ (I 70 v3.toNatClampNeg) < (100 : Int32) → ¬ (I 69 75) ≤ ((I 70 v3.toNatClampNeg) - (100 : Int32)) → vp_in (I 113 ((v2 + (-1 : Int32)).toNatClampNeg)) 6561)
    (h8 : ¬ v1 ≤ v3 → ¬ v2 = 0 → ¬ (I 70 v3.toNatClampNeg) < (100 : Int32) → ¬ (I 69 75) ≤ ((I 70 v3.toNatClampNeg) - (100 : Int32)) → ¬ (((I 108 ((I 113 ((v2 + (-1 : Int32)).toNatClampNeg)).toNatClampNeg)) >>> (((I 70 v3.toNatClampNeg) - (100 : Int32)) &&& 31)) &&& (1 : Int32)) = 0 → aw_z X (d + 1) y_M_check Q 52 [some (.ref 69), some (.int v1), some (.int (v2 + (-1 : Int32))), some (.int (v3 + (1 : Int32))), none, none] [] (aw_s I L D))
    (h9 : ¬ v1 ≤ v3 → ¬ v2 = 0 → ¬ (I 70 v3.toNatClampNeg) < (100 : Int32) → ¬ (I 69 75) ≤ ((I 70 v3.toNatClampNeg) - (100 : Int32)) → (((I 108 ((I 113 ((v2 + (-1 : Int32)).toNatClampNeg)).toNatClampNeg)) >>> (((I 70 v3.toNatClampNeg) - (100 : Int32)) &&& 31)) &&& (1 : Int32)) = 0 → Q (some (.int v3)) (aw_s I L D))
    (h10 : ¬ v1 ≤ v3 → v2 = 0 → Q (some (.int v3)) (aw_s I L D)) :
    aw_z X (d + 1) y_M_check Q 52 [some (.ref 69), some (.int v1), some (.int v2), some (.int v3), none, none] [] (aw_s I L D) :=
  (s_M_check_52.go [some (.ref 69), some (.int v1), some (.int v2), some (.int v3), none, none] [.int v1, .int v3] (aw_s I L D) rfl (z_icmp_ge (tgt := 193) d_M_check_54 rfl (fun q1 => (s_M_check_193.go [some (.ref 69), some (.int v1), some (.int v2), some (.int v3), none, none] [.int v2] (aw_s I L D) rfl (z_if_ne (tgt := 201) d_M_check_194 rfl (fun q3 => (s_M_check_201.go [some (.ref 69), some (.int v1), some (.int v2), some (.int v3), none, none] [.int v1] (aw_s I L D) rfl (z_iret d_M_check_202 rfl rfl (h1 q1 q3)))) (fun q4 => (s_M_check_197.go [some (.ref 69), some (.int v1), some (.int v2), some (.int v3), none, none] [.int (-1 : Int32)] (aw_s I L D) rfl (z_goto (tgt := 202) d_M_check_198 rfl (z_iret d_M_check_202 rfl rfl (h2 q1 q4)))))))) (fun q2 => (s_M_check_57.go [some (.ref 69), some (.int v1), some (.int v2), some (.int v3), none, none] [.int v2] (aw_s I L D) rfl (z_if_ne (tgt := 63) d_M_check_58 rfl (fun q5 => (s_M_check_63.go [some (.ref 69), some (.int v1), some (.int (v2 + (-1 : Int32))), some (.int v3), none, none] [.int (v2 + (-1 : Int32)), .ref 113] (aw_s I L D) rfl (z_iald (n := 600) rfl (aw_lt (o := 113) rfl) (h3 q2 q5) d_M_check_71 (s_M_check_72.go [some (.ref 69), some (.int v1), some (.int (v2 + (-1 : Int32))), some (.int v3), some (.int (I 113 ((v2 + (-1 : Int32)).toNatClampNeg))), none] [.int v3, .ref 70] (aw_s I L D) rfl (z_iald (n := 540) rfl (aw_lt (o := 70) rfl) (h4 q2 q5) d_M_check_79 (s_M_check_80.go [some (.ref 69), some (.int v1), some (.int (v2 + (-1 : Int32))), some (.int v3), some (.int (I 113 ((v2 + (-1 : Int32)).toNatClampNeg))), some (.int (I 70 v3.toNatClampNeg))] [.int (100 : Int32), .int (I 70 v3.toNatClampNeg)] (aw_s I L D) rfl (z_icmp_lt (tgt := 121) d_M_check_86 rfl (fun q7 => (s_M_check_121.go [some (.ref 69), some (.int v1), some (.int (v2 + (-1 : Int32))), some (.int v3), some (.int (I 113 ((v2 + (-1 : Int32)).toNatClampNeg))), some (.int (I 70 v3.toNatClampNeg))] [.ref 69, .int (I 70 v3.toNatClampNeg)] (aw_s I L D) rfl (z_callV (av := []) (st := [.int (I 70 v3.toNatClampNeg)]) ok_M_partBits (Or.inl w_2102) w_2104 w_129 k_M d_M_check_124 rfl (aw_lt (o := 69) rfl) rfl rfl (Nat.le_of_ble_eq_true rfl) (Nat.le_refl _) (Nat.le_refl _) (h5 q2 q5 q7)))) (fun q8 => (s_M_check_89.go [some (.ref 69), some (.int v1), some (.int (v2 + (-1 : Int32))), some (.int v3), some (.int (I 113 ((v2 + (-1 : Int32)).toNatClampNeg))), some (.int (I 70 v3.toNatClampNeg))] [.int (I 69 75), .int ((I 70 v3.toNatClampNeg) - (100 : Int32))] (aw_s I L D) rfl (z_icmp_ge (tgt := 119) d_M_check_98 rfl (fun q9 => (s_M_check_119.go [some (.ref 69), some (.int v1), some (.int (v2 + (-1 : Int32))), some (.int v3), some (.int (I 113 ((v2 + (-1 : Int32)).toNatClampNeg))), some (.int (I 70 v3.toNatClampNeg))] [.int v3] (aw_s I L D) rfl (z_iret d_M_check_120 rfl rfl (h6 q2 q5 q8 q9)))) (fun q10 => (s_M_check_101.go [some (.ref 69), some (.int v1), some (.int (v2 + (-1 : Int32))), some (.int v3), some (.int (I 113 ((v2 + (-1 : Int32)).toNatClampNeg))), some (.int (I 70 v3.toNatClampNeg))] [.int (I 113 ((v2 + (-1 : Int32)).toNatClampNeg)), .ref 108] (aw_s I L D) rfl (z_iald (n := 6561) rfl (aw_lt (o := 108) rfl) (h7 q2 q5 q8 q10) d_M_check_107 (s_M_check_108.go [some (.ref 69), some (.int v1), some (.int (v2 + (-1 : Int32))), some (.int v3), some (.int (I 113 ((v2 + (-1 : Int32)).toNatClampNeg))), some (.int (I 70 v3.toNatClampNeg))] [.int (((I 108 ((I 113 ((v2 + (-1 : Int32)).toNatClampNeg)).toNatClampNeg)) >>> (((I 70 v3.toNatClampNeg) - (100 : Int32)) &&& 31)) &&& (1 : Int32))] (aw_s I L D) rfl (z_if_ne (tgt := 187) d_M_check_116 rfl (fun q11 => (s_M_check_187.go [some (.ref 69), some (.int v1), some (.int (v2 + (-1 : Int32))), some (.int (v3 + (1 : Int32))), some (.int (I 113 ((v2 + (-1 : Int32)).toNatClampNeg))), some (.int (I 70 v3.toNatClampNeg))] [] (aw_s I L D) rfl (z_goto (tgt := 52) d_M_check_190 rfl (aw_Z.weak (ls' := [some (.ref 69), some (.int v1), some (.int (v2 + (-1 : Int32))), some (.int (v3 + (1 : Int32))), none, none]) (h8 q2 q5 q8 q10 q11) (Nat.le_of_ble_eq_true rfl) ⟨Or.inr rfl, ⟨Or.inr rfl, ⟨Or.inr rfl, ⟨Or.inr rfl, ⟨Or.inl rfl, ⟨Or.inl rfl, trivial⟩⟩⟩⟩⟩⟩)))) (fun q12 => (s_M_check_119.go [some (.ref 69), some (.int v1), some (.int (v2 + (-1 : Int32))), some (.int v3), some (.int (I 113 ((v2 + (-1 : Int32)).toNatClampNeg))), some (.int (I 70 v3.toNatClampNeg))] [.int v3] (aw_s I L D) rfl (z_iret d_M_check_120 rfl rfl (h9 q2 q5 q8 q10 q12))))))))))))))))))) (fun q6 => (s_M_check_61.go [some (.ref 69), some (.int v1), some (.int v2), some (.int v3), none, none] [.int v3] (aw_s I L D) rfl (z_iret d_M_check_62 rfl rfl (h10 q2 q6)))))))))
theorem d_M_check_127 : decode y_M_check.2.1 127 = .ok (.if_icmp .ge (19), 3) := by decide +kernel
theorem d_M_check_146 : decode y_M_check.2.1 146 = .ok (.iload_n 3, 1) := by decide +kernel
theorem s_M_check_146 : aw_VS y_M_check 146 [o_ild 3] 147 := .cons (v_iload_n (i := 3) d_M_check_146 rfl) .nil
theorem d_M_check_147 : decode y_M_check.2.1 147 = .ok (.ireturn, 1) := by decide +kernel
theorem d_M_check_130 : decode y_M_check.2.1 130 = .ok (.iload 4, 2) := by decide +kernel
theorem d_M_check_132 : decode y_M_check.2.1 132 = .ok (.aload_n 0, 1) := by decide +kernel
theorem d_M_check_133 : decode y_M_check.2.1 133 = .ok (.getfield 148, 3) := by decide +kernel
theorem d_M_check_136 : decode y_M_check.2.1 136 = .ok (.iload 5, 2) := by decide +kernel
theorem s_M_check_130 : aw_VS y_M_check 130 [o_ild 4, o_ald 0, o_getA 9 80, o_ild 5] 138 := .cons (v_iload (i := 4) d_M_check_130) (.cons (v_aload_n (i := 0) d_M_check_132 rfl) (.cons (v_getA (k := 80) k_M (by decide) rfl (Or.inl w_1541) d_M_check_133) (.cons (v_iload (i := 5) d_M_check_136) .nil)))
theorem d_M_check_138 : decode y_M_check.2.1 138 = .ok (.iaload, 1) := by decide +kernel
theorem d_M_check_139 : decode y_M_check.2.1 139 = .ok (.idiv, 1) := by decide +kernel
theorem d_M_check_140 : decode y_M_check.2.1 140 = .ok (.iconst 3, 1) := by decide +kernel
theorem s_M_check_140 : aw_VS y_M_check 140 [o_c (.int (3 : Int32))] 141 := .cons (v_iconst (v := (3 : Int32)) d_M_check_140 (by decide +kernel)) .nil
theorem d_M_check_141 : decode y_M_check.2.1 141 = .ok (.irem, 1) := by decide +kernel
theorem d_M_check_142 : decode y_M_check.2.1 142 = .ok (.iconst 2, 1) := by decide +kernel
theorem s_M_check_142 : aw_VS y_M_check 142 [o_c (.int (2 : Int32))] 143 := .cons (v_iconst (v := (2 : Int32)) d_M_check_142 (by decide +kernel)) .nil
theorem d_M_check_143 : decode y_M_check.2.1 143 = .ok (.if_icmp .eq (5), 3) := by decide +kernel
theorem d_M_check_148 : decode y_M_check.2.1 148 = .ok (.aload_n 0, 1) := by decide +kernel
theorem d_M_check_149 : decode y_M_check.2.1 149 = .ok (.getfield 154, 3) := by decide +kernel
theorem d_M_check_152 : decode y_M_check.2.1 152 = .ok (.iload_n 2, 1) := by decide +kernel
theorem d_M_check_153 : decode y_M_check.2.1 153 = .ok (.iload 4, 2) := by decide +kernel
theorem d_M_check_155 : decode y_M_check.2.1 155 = .ok (.aload_n 0, 1) := by decide +kernel
theorem d_M_check_156 : decode y_M_check.2.1 156 = .ok (.getfield 148, 3) := by decide +kernel
theorem d_M_check_159 : decode y_M_check.2.1 159 = .ok (.iload 5, 2) := by decide +kernel
theorem s_M_check_148 : aw_VS y_M_check 148 [o_ald 0, o_getA 9 82, o_ild 2, o_ild 4, o_ald 0, o_getA 9 80, o_ild 5] 161 := .cons (v_aload_n (i := 0) d_M_check_148 rfl) (.cons (v_getA (k := 82) k_M (by decide) rfl (Or.inl w_1543) d_M_check_149) (.cons (v_iload_n (i := 2) d_M_check_152 rfl) (.cons (v_iload (i := 4) d_M_check_153) (.cons (v_aload_n (i := 0) d_M_check_155 rfl) (.cons (v_getA (k := 80) k_M (by decide) rfl (Or.inl w_1541) d_M_check_156) (.cons (v_iload (i := 5) d_M_check_159) .nil))))))
theorem d_M_check_161 : decode y_M_check.2.1 161 = .ok (.iaload, 1) := by decide +kernel
theorem d_M_check_162 : decode y_M_check.2.1 162 = .ok (.isub, 1) := by decide +kernel
theorem s_M_check_162 : aw_VS y_M_check 162 [o_i2 (fun x z => x - z)] 163 := .cons (v_isub d_M_check_162) .nil
theorem d_M_check_163 : decode y_M_check.2.1 163 = .ok (.iastore, 1) := by decide +kernel
theorem d_M_check_164 : decode y_M_check.2.1 164 = .ok (.aload_n 0, 1) := by decide +kernel
theorem d_M_check_165 : decode y_M_check.2.1 165 = .ok (.getfield 154, 3) := by decide +kernel
theorem d_M_check_168 : decode y_M_check.2.1 168 = .ok (.iload_n 2, 1) := by decide +kernel
theorem d_M_check_169 : decode y_M_check.2.1 169 = .ok (.iconst 1, 1) := by decide +kernel
theorem d_M_check_170 : decode y_M_check.2.1 170 = .ok (.iadd, 1) := by decide +kernel
theorem d_M_check_171 : decode y_M_check.2.1 171 = .ok (.iload 4, 2) := by decide +kernel
theorem d_M_check_173 : decode y_M_check.2.1 173 = .ok (.iconst 2, 1) := by decide +kernel
theorem d_M_check_174 : decode y_M_check.2.1 174 = .ok (.aload_n 0, 1) := by decide +kernel
theorem d_M_check_175 : decode y_M_check.2.1 175 = .ok (.getfield 148, 3) := by decide +kernel
theorem d_M_check_178 : decode y_M_check.2.1 178 = .ok (.iload 5, 2) := by decide +kernel
theorem s_M_check_164 : aw_VS y_M_check 164 [o_ald 0, o_getA 9 82, o_ild 2, o_c (.int (1 : Int32)), o_i2 (fun x z => x + z), o_ild 4, o_c (.int (2 : Int32)), o_ald 0, o_getA 9 80, o_ild 5] 180 := .cons (v_aload_n (i := 0) d_M_check_164 rfl) (.cons (v_getA (k := 82) k_M (by decide) rfl (Or.inl w_1543) d_M_check_165) (.cons (v_iload_n (i := 2) d_M_check_168 rfl) (.cons (v_iconst (v := (1 : Int32)) d_M_check_169 (by decide +kernel)) (.cons (v_iadd d_M_check_170) (.cons (v_iload (i := 4) d_M_check_171) (.cons (v_iconst (v := (2 : Int32)) d_M_check_173 (by decide +kernel)) (.cons (v_aload_n (i := 0) d_M_check_174 rfl) (.cons (v_getA (k := 80) k_M (by decide) rfl (Or.inl w_1541) d_M_check_175) (.cons (v_iload (i := 5) d_M_check_178) .nil)))))))))
theorem d_M_check_180 : decode y_M_check.2.1 180 = .ok (.iaload, 1) := by decide +kernel
theorem d_M_check_181 : decode y_M_check.2.1 181 = .ok (.imul, 1) := by decide +kernel
theorem d_M_check_182 : decode y_M_check.2.1 182 = .ok (.isub, 1) := by decide +kernel
theorem s_M_check_181 : aw_VS y_M_check 181 [o_i2 (fun x z => x * z), o_i2 (fun x z => x - z)] 183 := .cons (v_imul d_M_check_181) (.cons (v_isub d_M_check_182) .nil)
theorem d_M_check_183 : decode y_M_check.2.1 183 = .ok (.iastore, 1) := by decide +kernel
theorem d_M_check_184 : decode y_M_check.2.1 184 = .ok (.iinc 2 (2), 3) := by decide +kernel
theorem s_M_check_184 : aw_VS y_M_check 184 [o_inc 2 (2 : Int32)] 187 := .cons (v_iinc (k0 := (2 : Int32)) d_M_check_184 (by decide +kernel)) .nil
theorem b_M_check_127 {X : aw_X} {d : Nat} {Q : Option Value → aw_H → Prop} {I : Nat → Nat → Int32} {L : Nat → Nat → Int64} {D : Nat → Nat} {v1 : Int32} {v2 : Int32} {v3 : Int32} {v4 : Int32} {v5 : Int32} {s1 : Int32} {s0 : Int32}
    (h1 : s1 ≤ s0 → Q (some (.int v3)) (aw_s I L D))
    (h2 : ¬ s1 ≤ s0 → vp_in v5 9)
    (h3 : ¬ s1 ≤ s0 → ¬ (I 111 v5.toNatClampNeg) = 0)
    (h4 : ¬ s1 ≤ s0 → ((v4 / (I 111 v5.toNatClampNeg)) - (v4 / (I 111 v5.toNatClampNeg)) / (3 : Int32) * (3 : Int32)) = (2 : Int32) → vp_in v5 9)
    (h5 : ¬ s1 ≤ s0 → ((v4 / (I 111 v5.toNatClampNeg)) - (v4 / (I 111 v5.toNatClampNeg)) / (3 : Int32) * (3 : Int32)) = (2 : Int32) → vp_in v2 600)
    (h6 : ¬ s1 ≤ s0 → ((v4 / (I 111 v5.toNatClampNeg)) - (v4 / (I 111 v5.toNatClampNeg)) / (3 : Int32) * (3 : Int32)) = (2 : Int32) → vp_in v5 9)
    (h7 : ¬ s1 ≤ s0 → ((v4 / (I 111 v5.toNatClampNeg)) - (v4 / (I 111 v5.toNatClampNeg)) / (3 : Int32) * (3 : Int32)) = (2 : Int32) → vp_in (v2 + (1 : Int32)) 600)
    (h8 : ¬ s1 ≤ s0 → ((v4 / (I 111 v5.toNatClampNeg)) - (v4 / (I 111 v5.toNatClampNeg)) / (3 : Int32) * (3 : Int32)) = (2 : Int32) → aw_z X (d + 1) y_M_check Q 52 [some (.ref 69), some (.int v1), some (.int (v2 + (2 : Int32))), some (.int (v3 + (1 : Int32))), none, none] [] (aw_s (aw_u (aw_u I 113 v2.toNatClampNeg (v4 - (I 111 v5.toNatClampNeg))) 113 ((v2 + (1 : Int32)).toNatClampNeg) (v4 - ((2 : Int32) * (I 111 v5.toNatClampNeg)))) L D))
    (h9 : ¬ s1 ≤ s0 → ¬ ((v4 / (I 111 v5.toNatClampNeg)) - (v4 / (I 111 v5.toNatClampNeg)) / (3 : Int32) * (3 : Int32)) = (2 : Int32) → Q (some (.int v3)) (aw_s I L D)) :
    aw_z X (d + 1) y_M_check Q 127 [some (.ref 69), some (.int v1), some (.int v2), some (.int v3), some (.int v4), some (.int v5)] [.int s1, .int s0] (aw_s I L D) :=
  (z_icmp_ge (tgt := 146) d_M_check_127 rfl (fun q1 => (s_M_check_146.go [some (.ref 69), some (.int v1), some (.int v2), some (.int v3), some (.int v4), some (.int v5)] [.int v3] (aw_s I L D) rfl (z_iret d_M_check_147 rfl rfl (h1 q1)))) (fun q2 => (s_M_check_130.go [some (.ref 69), some (.int v1), some (.int v2), some (.int v3), some (.int v4), some (.int v5)] [.int v5, .ref 111, .int v4] (aw_s I L D) rfl (z_iald (n := 9) rfl (aw_lt (o := 111) rfl) (h2 q2) d_M_check_138 (z_idiv d_M_check_139 (h3 q2) (s_M_check_140.go [some (.ref 69), some (.int v1), some (.int v2), some (.int v3), some (.int v4), some (.int v5)] [.int (3 : Int32), .int (v4 / (I 111 v5.toNatClampNeg))] (aw_s I L D) rfl (z_irem d_M_check_141 (by decide +kernel) (s_M_check_142.go [some (.ref 69), some (.int v1), some (.int v2), some (.int v3), some (.int v4), some (.int v5)] [.int (2 : Int32), .int ((v4 / (I 111 v5.toNatClampNeg)) - (v4 / (I 111 v5.toNatClampNeg)) / (3 : Int32) * (3 : Int32))] (aw_s I L D) rfl (z_icmp_eq (tgt := 148) d_M_check_143 rfl (fun q3 => (s_M_check_148.go [some (.ref 69), some (.int v1), some (.int v2), some (.int v3), some (.int v4), some (.int v5)] [.int v5, .ref 111, .int v4, .int v2, .ref 113] (aw_s I L D) rfl (z_iald (n := 9) rfl (aw_lt (o := 111) rfl) (h4 q2 q3) d_M_check_161 (s_M_check_162.go [some (.ref 69), some (.int v1), some (.int v2), some (.int v3), some (.int v4), some (.int v5)] [.int (v4 - (I 111 v5.toNatClampNeg)), .int v2, .ref 113] (aw_s I L D) rfl (z_iast (n := 600) rfl (aw_lt (o := 113) rfl) (h5 q2 q3) d_M_check_163 (s_M_check_164.go [some (.ref 69), some (.int v1), some (.int v2), some (.int v3), some (.int v4), some (.int v5)] [.int v5, .ref 111, .int (2 : Int32), .int v4, .int (v2 + (1 : Int32)), .ref 113] (aw_s (aw_u I 113 v2.toNatClampNeg (v4 - (I 111 v5.toNatClampNeg))) L D) rfl (z_iald (n := 9) rfl (aw_lt (o := 111) rfl) (h6 q2 q3) d_M_check_180 (s_M_check_181.go [some (.ref 69), some (.int v1), some (.int v2), some (.int v3), some (.int v4), some (.int v5)] [.int (v4 - ((2 : Int32) * (I 111 v5.toNatClampNeg))), .int (v2 + (1 : Int32)), .ref 113] (aw_s (aw_u I 113 v2.toNatClampNeg (v4 - (I 111 v5.toNatClampNeg))) L D) rfl (z_iast (n := 600) rfl (aw_lt (o := 113) rfl) (h7 q2 q3) d_M_check_183 (s_M_check_184.go [some (.ref 69), some (.int v1), some (.int (v2 + (2 : Int32))), some (.int v3), some (.int v4), some (.int v5)] [] (aw_s (aw_u (aw_u I 113 v2.toNatClampNeg (v4 - (I 111 v5.toNatClampNeg))) 113 ((v2 + (1 : Int32)).toNatClampNeg) (v4 - ((2 : Int32) * (I 111 v5.toNatClampNeg)))) L D) rfl (s_M_check_187.go [some (.ref 69), some (.int v1), some (.int (v2 + (2 : Int32))), some (.int (v3 + (1 : Int32))), some (.int v4), some (.int v5)] [] (aw_s (aw_u (aw_u I 113 v2.toNatClampNeg (v4 - (I 111 v5.toNatClampNeg))) 113 ((v2 + (1 : Int32)).toNatClampNeg) (v4 - ((2 : Int32) * (I 111 v5.toNatClampNeg)))) L D) rfl (z_goto (tgt := 52) d_M_check_190 rfl (aw_Z.weak (ls' := [some (.ref 69), some (.int v1), some (.int (v2 + (2 : Int32))), some (.int (v3 + (1 : Int32))), none, none]) (h8 q2 q3) (Nat.le_of_ble_eq_true rfl) ⟨Or.inr rfl, ⟨Or.inr rfl, ⟨Or.inr rfl, ⟨Or.inr rfl, ⟨Or.inl rfl, ⟨Or.inl rfl, trivial⟩⟩⟩⟩⟩⟩))))))))))))) (fun q4 => (s_M_check_146.go [some (.ref 69), some (.int v1), some (.int v2), some (.int v3), some (.int v4), some (.int v5)] [.int v3] (aw_s I L D) rfl (z_iret d_M_check_147 rfl rfl (h9 q2 q4)))))))))))))
/-! M_run -/
theorem d_M_run_0 : decode y_M_run.2.1 0 = .ok (.aload_n 0, 1) := by decide +kernel
theorem d_M_run_1 : decode y_M_run.2.1 1 = .ok (.iload_n 1, 1) := by decide +kernel
theorem d_M_run_2 : decode y_M_run.2.1 2 = .ok (.iload_n 3, 1) := by decide +kernel
theorem s_M_run_0 : aw_VS y_M_run 0 [o_ald 0, o_ild 1, o_ild 3] 3 := .cons (v_aload_n (i := 0) d_M_run_0 rfl) (.cons (v_iload_n (i := 1) d_M_run_1 rfl) (.cons (v_iload_n (i := 3) d_M_run_2 rfl) .nil))
theorem d_M_run_3 : decode y_M_run.2.1 3 = .ok (.invokevirtual 411, 3) := by decide +kernel
theorem b_M_run_0 {X : aw_X} {d : Nat} {Q : Option Value → aw_H → Prop} {I : Nat → Nat → Int32} {L : Nat → Nat → Int64} {D : Nat → Nat} {v1 : Int32} {v2 : Int32} {v3 : Int32}
    (h1 : aw_m X d y_M_areTold [.ref 69, .int v1, .int v3] (aw_s I L D) (fun r A => aw_z X (d + 1) y_M_run Q 6 [some (.ref 69), some (.int v1), some (.int v2), some (.int v3), none, none] (r.toList ++ []) A)) :
    aw_z X (d + 1) y_M_run Q 0 [some (.ref 69), some (.int v1), some (.int v2), some (.int v3), none, none] [] (aw_s I L D) :=
  (s_M_run_0.go [some (.ref 69), some (.int v1), some (.int v2), some (.int v3), none, none] [.int v3, .int v1, .ref 69] (aw_s I L D) rfl (z_callV (av := [.int v1, .int v3]) (st := []) ok_M_areTold (Or.inl w_1908) w_1910 w_104 k_M d_M_run_3 rfl (aw_lt (o := 69) rfl) rfl rfl (Nat.le_of_ble_eq_true rfl) (Nat.le_refl _) (Nat.le_refl _) (h1)))
theorem d_M_run_6 : decode y_M_run.2.1 6 = .ok (.ifCond .eq (15), 3) := by decide +kernel
theorem d_M_run_21 : decode y_M_run.2.1 21 = .ok (.iconst (-1), 1) := by decide +kernel
theorem s_M_run_21 : aw_VS y_M_run 21 [o_c (.int (-1 : Int32))] 22 := .cons (v_iconst (v := (-1 : Int32)) d_M_run_21 (by decide +kernel)) .nil
theorem d_M_run_22 : decode y_M_run.2.1 22 = .ok (.ireturn, 1) := by decide +kernel
theorem d_M_run_9 : decode y_M_run.2.1 9 = .ok (.iload_n 2, 1) := by decide +kernel
theorem s_M_run_9 : aw_VS y_M_run 9 [o_ild 2] 10 := .cons (v_iload_n (i := 2) d_M_run_9 rfl) .nil
theorem d_M_run_10 : decode y_M_run.2.1 10 = .ok (.ifCond .lt (11), 3) := by decide +kernel
theorem d_M_run_13 : decode y_M_run.2.1 13 = .ok (.iload_n 2, 1) := by decide +kernel
theorem d_M_run_14 : decode y_M_run.2.1 14 = .ok (.aload_n 0, 1) := by decide +kernel
theorem s_M_run_13 : aw_VS y_M_run 13 [o_ild 2, o_ald 0] 15 := .cons (v_iload_n (i := 2) d_M_run_13 rfl) (.cons (v_aload_n (i := 0) d_M_run_14 rfl) .nil)
theorem d_M_run_15 : decode y_M_run.2.1 15 = .ok (.invokevirtual 423, 3) := by decide +kernel
theorem b_M_run_6 {X : aw_X} {d : Nat} {Q : Option Value → aw_H → Prop} {I : Nat → Nat → Int32} {L : Nat → Nat → Int64} {D : Nat → Nat} {v1 : Int32} {v2 : Int32} {v3 : Int32} {s0 : Int32}
    (h1 : s0 = 0 → Q (some (.int (-1 : Int32))) (aw_s I L D))
    (h2 : ¬ s0 = 0 → v2 < 0 → Q (some (.int (-1 : Int32))) (aw_s I L D))
    (h3 : ¬ s0 = 0 → ¬ v2 < 0 → aw_m X d y_M_rows [.ref 69] (aw_s I L D) (fun r A => aw_z X (d + 1) y_M_run Q 18 [some (.ref 69), some (.int v1), some (.int v2), some (.int v3), none, none] (r.toList ++ [.int v2]) A)) :
    aw_z X (d + 1) y_M_run Q 6 [some (.ref 69), some (.int v1), some (.int v2), some (.int v3), none, none] [.int s0] (aw_s I L D) :=
  (z_if_eq (tgt := 21) d_M_run_6 rfl (fun q1 => (s_M_run_21.go [some (.ref 69), some (.int v1), some (.int v2), some (.int v3), none, none] [.int (-1 : Int32)] (aw_s I L D) rfl (z_iret d_M_run_22 rfl rfl (h1 q1)))) (fun q2 => (s_M_run_9.go [some (.ref 69), some (.int v1), some (.int v2), some (.int v3), none, none] [.int v2] (aw_s I L D) rfl (z_if_lt (tgt := 21) d_M_run_10 rfl (fun q3 => (s_M_run_21.go [some (.ref 69), some (.int v1), some (.int v2), some (.int v3), none, none] [.int (-1 : Int32)] (aw_s I L D) rfl (z_iret d_M_run_22 rfl rfl (h2 q2 q3)))) (fun q4 => (s_M_run_13.go [some (.ref 69), some (.int v1), some (.int v2), some (.int v3), none, none] [.ref 69, .int v2] (aw_s I L D) rfl (z_callV (av := []) (st := [.int v2]) ok_M_rows (Or.inl w_1915) w_1917 w_105 k_M d_M_run_15 rfl (aw_lt (o := 69) rfl) rfl rfl (Nat.le_of_ble_eq_true rfl) (Nat.le_refl _) (Nat.le_refl _) (h3 q2 q4))))))))
theorem d_M_run_18 : decode y_M_run.2.1 18 = .ok (.if_icmp .lt (5), 3) := by decide +kernel
theorem d_M_run_23 : decode y_M_run.2.1 23 = .ok (.aload_n 0, 1) := by decide +kernel
theorem d_M_run_24 : decode y_M_run.2.1 24 = .ok (.iload_n 1, 1) := by decide +kernel
theorem d_M_run_25 : decode y_M_run.2.1 25 = .ok (.iload_n 2, 1) := by decide +kernel
theorem d_M_run_26 : decode y_M_run.2.1 26 = .ok (.iload_n 3, 1) := by decide +kernel
theorem d_M_run_27 : decode y_M_run.2.1 27 = .ok (.iconst (-1), 1) := by decide +kernel
theorem s_M_run_23 : aw_VS y_M_run 23 [o_ald 0, o_ild 1, o_ild 2, o_ild 3, o_c (.int (-1 : Int32))] 28 := .cons (v_aload_n (i := 0) d_M_run_23 rfl) (.cons (v_iload_n (i := 1) d_M_run_24 rfl) (.cons (v_iload_n (i := 2) d_M_run_25 rfl) (.cons (v_iload_n (i := 3) d_M_run_26 rfl) (.cons (v_iconst (v := (-1 : Int32)) d_M_run_27 (by decide +kernel)) .nil))))
theorem d_M_run_28 : decode y_M_run.2.1 28 = .ok (.invokevirtual 434, 3) := by decide +kernel
theorem b_M_run_18 {X : aw_X} {d : Nat} {Q : Option Value → aw_H → Prop} {I : Nat → Nat → Int32} {L : Nat → Nat → Int64} {D : Nat → Nat} {v1 : Int32} {v2 : Int32} {v3 : Int32} {s1 : Int32} {s0 : Int32}
    (h1 : s0 < s1 → aw_m X d y_M_runs [.ref 69, .int v1, .int v2, .int v3, .int (-1 : Int32)] (aw_s I L D) (fun r A => aw_z X (d + 1) y_M_run Q 31 [some (.ref 69), none, none, none, none, none] (r.toList ++ []) A))
    (h2 : ¬ s0 < s1 → Q (some (.int (-1 : Int32))) (aw_s I L D)) :
    aw_z X (d + 1) y_M_run Q 18 [some (.ref 69), some (.int v1), some (.int v2), some (.int v3), none, none] [.int s1, .int s0] (aw_s I L D) :=
  (z_icmp_lt (tgt := 23) d_M_run_18 rfl (fun q1 => (s_M_run_23.go [some (.ref 69), some (.int v1), some (.int v2), some (.int v3), none, none] [.int (-1 : Int32), .int v3, .int v2, .int v1, .ref 69] (aw_s I L D) rfl (z_callV (av := [.int v1, .int v2, .int v3, .int (-1 : Int32)]) (st := []) ok_M_runs (Or.inl w_1923) w_1925 w_107 k_M d_M_run_28 rfl (aw_lt (o := 69) rfl) rfl rfl (Nat.le_of_ble_eq_true rfl) (Nat.le_refl _) (Nat.le_refl _) (aw_C.mono (h1 q1) (fun _ _ zz => aw_Z.weak (ls' := [some (.ref 69), none, none, none, none, none]) zz (Nat.le_of_ble_eq_true rfl) ⟨Or.inr rfl, ⟨Or.inl rfl, ⟨Or.inl rfl, ⟨Or.inl rfl, ⟨Or.inl rfl, ⟨Or.inl rfl, trivial⟩⟩⟩⟩⟩⟩))))) (fun q2 => (s_M_run_21.go [some (.ref 69), some (.int v1), some (.int v2), some (.int v3), none, none] [.int (-1 : Int32)] (aw_s I L D) rfl (z_iret d_M_run_22 rfl rfl (h2 q2)))))
theorem d_M_run_31 : decode y_M_run.2.1 31 = .ok (.istore 4, 2) := by decide +kernel
theorem d_M_run_33 : decode y_M_run.2.1 33 = .ok (.iconst 0, 1) := by decide +kernel
theorem d_M_run_34 : decode y_M_run.2.1 34 = .ok (.istore 5, 2) := by decide +kernel
theorem s_M_run_31 : aw_VS y_M_run 31 [o_ist 4, o_c (.int (0 : Int32)), o_ist 5] 36 := .cons (v_istore d_M_run_31) (.cons (v_iconst (v := (0 : Int32)) d_M_run_33 (by decide +kernel)) (.cons (v_istore d_M_run_34) .nil))
theorem b_M_run_31 {X : aw_X} {d : Nat} {Q : Option Value → aw_H → Prop} {I : Nat → Nat → Int32} {L : Nat → Nat → Int64} {D : Nat → Nat} {s0 : Int32}
    (h1 : aw_z X (d + 1) y_M_run Q 36 [some (.ref 69), none, none, none, some (.int s0), some (.int (0 : Int32))] [] (aw_s I L D)) :
    aw_z X (d + 1) y_M_run Q 31 [some (.ref 69), none, none, none, none, none] [.int s0] (aw_s I L D) :=
  (s_M_run_31.go [some (.ref 69), none, none, none, some (.int s0), some (.int (0 : Int32))] [] (aw_s I L D) rfl (h1))
theorem d_M_run_36 : decode y_M_run.2.1 36 = .ok (.iload 5, 2) := by decide +kernel
theorem d_M_run_38 : decode y_M_run.2.1 38 = .ok (.bipush 8, 2) := by decide +kernel
theorem s_M_run_36 : aw_VS y_M_run 36 [o_ild 5, o_c (.int (8 : Int32))] 40 := .cons (v_iload (i := 5) d_M_run_36) (.cons (v_bipush (v := (8 : Int32)) d_M_run_38 (by decide +kernel)) .nil)
theorem d_M_run_40 : decode y_M_run.2.1 40 = .ok (.if_icmp .ge (40), 3) := by decide +kernel
theorem d_M_run_80 : decode y_M_run.2.1 80 = .ok (.aload_n 0, 1) := by decide +kernel
theorem d_M_run_81 : decode y_M_run.2.1 81 = .ok (.getfield 157, 3) := by decide +kernel
theorem d_M_run_84 : decode y_M_run.2.1 84 = .ok (.bipush 16, 2) := by decide +kernel
theorem d_M_run_86 : decode y_M_run.2.1 86 = .ok (.aload_n 0, 1) := by decide +kernel
theorem d_M_run_87 : decode y_M_run.2.1 87 = .ok (.getfield 396, 3) := by decide +kernel
theorem s_M_run_80 : aw_VS y_M_run 80 [o_ald 0, o_getA 9 84, o_c (.int (16 : Int32)), o_ald 0, o_getI 9 43] 90 := .cons (v_aload_n (i := 0) d_M_run_80 rfl) (.cons (v_getA (k := 84) k_M (by decide) rfl (Or.inl w_1545) d_M_run_81) (.cons (v_bipush (v := (16 : Int32)) d_M_run_84 (by decide +kernel)) (.cons (v_aload_n (i := 0) d_M_run_86 rfl) (.cons (v_getI (k := 43) k_M (by decide) (Or.inl rfl) (Or.inl w_1504) d_M_run_87) .nil))))
theorem d_M_run_90 : decode y_M_run.2.1 90 = .ok (.iastore, 1) := by decide +kernel
theorem d_M_run_91 : decode y_M_run.2.1 91 = .ok (.aload_n 0, 1) := by decide +kernel
theorem d_M_run_92 : decode y_M_run.2.1 92 = .ok (.iconst 1, 1) := by decide +kernel
theorem s_M_run_91 : aw_VS y_M_run 91 [o_ald 0, o_c (.int (1 : Int32))] 93 := .cons (v_aload_n (i := 0) d_M_run_91 rfl) (.cons (v_iconst (v := (1 : Int32)) d_M_run_92 (by decide +kernel)) .nil)
theorem d_M_run_93 : decode y_M_run.2.1 93 = .ok (.putfield 504, 3) := by decide +kernel
theorem d_M_run_96 : decode y_M_run.2.1 96 = .ok (.iload 4, 2) := by decide +kernel
theorem s_M_run_96 : aw_VS y_M_run 96 [o_ild 4] 98 := .cons (v_iload (i := 4) d_M_run_96) .nil
theorem d_M_run_98 : decode y_M_run.2.1 98 = .ok (.ireturn, 1) := by decide +kernel
theorem d_M_run_43 : decode y_M_run.2.1 43 = .ok (.aload_n 0, 1) := by decide +kernel
theorem d_M_run_44 : decode y_M_run.2.1 44 = .ok (.getfield 157, 3) := by decide +kernel
theorem d_M_run_47 : decode y_M_run.2.1 47 = .ok (.iload 5, 2) := by decide +kernel
theorem d_M_run_49 : decode y_M_run.2.1 49 = .ok (.aload_n 0, 1) := by decide +kernel
theorem d_M_run_50 : decode y_M_run.2.1 50 = .ok (.getfield 60, 3) := by decide +kernel
theorem d_M_run_53 : decode y_M_run.2.1 53 = .ok (.iload 5, 2) := by decide +kernel
theorem s_M_run_43 : aw_VS y_M_run 43 [o_ald 0, o_getA 9 84, o_ild 5, o_ald 0, o_getA 9 37, o_ild 5] 55 := .cons (v_aload_n (i := 0) d_M_run_43 rfl) (.cons (v_getA (k := 84) k_M (by decide) rfl (Or.inl w_1545) d_M_run_44) (.cons (v_iload (i := 5) d_M_run_47) (.cons (v_aload_n (i := 0) d_M_run_49 rfl) (.cons (v_getA (k := 37) k_M (by decide) rfl (Or.inl w_1498) d_M_run_50) (.cons (v_iload (i := 5) d_M_run_53) .nil)))))
theorem d_M_run_55 : decode y_M_run.2.1 55 = .ok (.iaload, 1) := by decide +kernel
theorem d_M_run_56 : decode y_M_run.2.1 56 = .ok (.iastore, 1) := by decide +kernel
theorem d_M_run_57 : decode y_M_run.2.1 57 = .ok (.aload_n 0, 1) := by decide +kernel
theorem d_M_run_58 : decode y_M_run.2.1 58 = .ok (.getfield 157, 3) := by decide +kernel
theorem d_M_run_61 : decode y_M_run.2.1 61 = .ok (.bipush 8, 2) := by decide +kernel
theorem d_M_run_63 : decode y_M_run.2.1 63 = .ok (.iload 5, 2) := by decide +kernel
theorem d_M_run_65 : decode y_M_run.2.1 65 = .ok (.iadd, 1) := by decide +kernel
theorem d_M_run_66 : decode y_M_run.2.1 66 = .ok (.aload_n 0, 1) := by decide +kernel
theorem d_M_run_67 : decode y_M_run.2.1 67 = .ok (.getfield 63, 3) := by decide +kernel
theorem d_M_run_70 : decode y_M_run.2.1 70 = .ok (.iload 5, 2) := by decide +kernel
theorem s_M_run_57 : aw_VS y_M_run 57 [o_ald 0, o_getA 9 84, o_c (.int (8 : Int32)), o_ild 5, o_i2 (fun x z => x + z), o_ald 0, o_getA 9 38, o_ild 5] 72 := .cons (v_aload_n (i := 0) d_M_run_57 rfl) (.cons (v_getA (k := 84) k_M (by decide) rfl (Or.inl w_1545) d_M_run_58) (.cons (v_bipush (v := (8 : Int32)) d_M_run_61 (by decide +kernel)) (.cons (v_iload (i := 5) d_M_run_63) (.cons (v_iadd d_M_run_65) (.cons (v_aload_n (i := 0) d_M_run_66 rfl) (.cons (v_getA (k := 38) k_M (by decide) rfl (Or.inl w_1499) d_M_run_67) (.cons (v_iload (i := 5) d_M_run_70) .nil)))))))
theorem d_M_run_72 : decode y_M_run.2.1 72 = .ok (.iaload, 1) := by decide +kernel
theorem d_M_run_73 : decode y_M_run.2.1 73 = .ok (.iastore, 1) := by decide +kernel
theorem d_M_run_74 : decode y_M_run.2.1 74 = .ok (.iinc 5 (1), 3) := by decide +kernel
theorem s_M_run_74 : aw_VS y_M_run 74 [o_inc 5 (1 : Int32)] 77 := .cons (v_iinc (k0 := (1 : Int32)) d_M_run_74 (by decide +kernel)) .nil
theorem d_M_run_77 : decode y_M_run.2.1 77 = .ok (.goto (-41), 3) := by decide +kernel
theorem b_M_run_36 {X : aw_X} {d : Nat} {Q : Option Value → aw_H → Prop} {I : Nat → Nat → Int32} {L : Nat → Nat → Int64} {D : Nat → Nat} {v4 : Int32} {v5 : Int32}
    (h1 : (8 : Int32) ≤ v5 → Q (some (.int v4)) (aw_s (aw_u (aw_u I 114 16 (I 69 43)) 69 85 (1 : Int32)) L D))
    (h2 : ¬ (8 : Int32) ≤ v5 → vp_in v5 8)
    (h3 : ¬ (8 : Int32) ≤ v5 → vp_in v5 17)
    (h4 : ¬ (8 : Int32) ≤ v5 → vp_in v5 8)
    (h5 : ¬ (8 : Int32) ≤ v5 → vp_in ((8 : Int32) + v5) 17)
    (h6 : ¬ (8 : Int32) ≤ v5 → aw_z X (d + 1) y_M_run Q 36 [some (.ref 69), none, none, none, some (.int v4), some (.int (v5 + (1 : Int32)))] [] (aw_s (aw_u (aw_u I 114 v5.toNatClampNeg (I 84 v5.toNatClampNeg)) 114 (((8 : Int32) + v5).toNatClampNeg) (I 85 v5.toNatClampNeg)) L D)) :
    aw_z X (d + 1) y_M_run Q 36 [some (.ref 69), none, none, none, some (.int v4), some (.int v5)] [] (aw_s I L D) :=
  (s_M_run_36.go [some (.ref 69), none, none, none, some (.int v4), some (.int v5)] [.int (8 : Int32), .int v5] (aw_s I L D) rfl (z_icmp_ge (tgt := 80) d_M_run_40 rfl (fun q1 => (s_M_run_80.go [some (.ref 69), none, none, none, some (.int v4), some (.int v5)] [.int (I 69 43), .int (16 : Int32), .ref 114] (aw_s I L D) rfl (z_iast (n := 17) rfl (aw_lt (o := 114) rfl) (aw_lin (by decide +kernel) (by decide +kernel)) d_M_run_90 (s_M_run_91.go [some (.ref 69), none, none, none, some (.int v4), some (.int v5)] [.int (1 : Int32), .ref 69] (aw_s (aw_u I 114 16 (I 69 43)) L D) rfl (z_putZ (k := 85) k_M (by decide) rfl (Or.inl ⟨rfl, Or.inl w_1546⟩) d_M_run_93 rfl (aw_lt (o := 69) rfl) (by decide +kernel) (s_M_run_96.go [some (.ref 69), none, none, none, some (.int v4), some (.int v5)] [.int v4] (aw_s (aw_u (aw_u I 114 16 (I 69 43)) 69 85 (1 : Int32)) L D) rfl (z_iret d_M_run_98 rfl rfl (h1 q1)))))))) (fun q2 => (s_M_run_43.go [some (.ref 69), none, none, none, some (.int v4), some (.int v5)] [.int v5, .ref 84, .int v5, .ref 114] (aw_s I L D) rfl (z_iald (n := 8) rfl (aw_lt (o := 84) rfl) (h2 q2) d_M_run_55 (z_iast (n := 17) rfl (aw_lt (o := 114) rfl) (h3 q2) d_M_run_56 (s_M_run_57.go [some (.ref 69), none, none, none, some (.int v4), some (.int v5)] [.int v5, .ref 85, .int ((8 : Int32) + v5), .ref 114] (aw_s (aw_u I 114 v5.toNatClampNeg (I 84 v5.toNatClampNeg)) L D) rfl (z_iald (n := 8) rfl (aw_lt (o := 85) rfl) (h4 q2) d_M_run_72 (z_iast (n := 17) rfl (aw_lt (o := 114) rfl) (h5 q2) d_M_run_73 (s_M_run_74.go [some (.ref 69), none, none, none, some (.int v4), some (.int (v5 + (1 : Int32)))] [] (aw_s (aw_u (aw_u I 114 v5.toNatClampNeg (I 84 v5.toNatClampNeg)) 114 (((8 : Int32) + v5).toNatClampNeg) (I 85 v5.toNatClampNeg)) L D) rfl (z_goto (tgt := 36) d_M_run_77 rfl (h6 q2))))))))))))
/-! M_got -/
theorem d_M_got_0 : decode y_M_got.2.1 0 = .ok (.aload_n 0, 1) := by decide +kernel
theorem d_M_got_1 : decode y_M_got.2.1 1 = .ok (.iconst 0, 1) := by decide +kernel
theorem d_M_got_2 : decode y_M_got.2.1 2 = .ok (.putfield 160, 3) := by decide +kernel
theorem d_M_got_5 : decode y_M_got.2.1 5 = .ok (.aload_n 0, 1) := by decide +kernel
theorem d_M_got_6 : decode y_M_got.2.1 6 = .ok (.getfield 504, 3) := by decide +kernel
theorem s_M_got_0 : aw_VS y_M_got 0 [o_ald 0, o_c (.int (0 : Int32)), o_putI 9 0, o_ald 0, o_getI 9 85] 9 := .cons (v_aload_n (i := 0) d_M_got_0 rfl) (.cons (v_iconst (v := (0 : Int32)) d_M_got_1 (by decide +kernel)) (.cons (v_putI (k := 0) k_M (by decide) rfl (Or.inl ⟨rfl, Or.inl w_1461⟩) d_M_got_2) (.cons (v_aload_n (i := 0) d_M_got_5 rfl) (.cons (v_getI (k := 85) k_M (by decide) (Or.inr rfl) (Or.inl w_1546) d_M_got_6) .nil))))
theorem d_M_got_9 : decode y_M_got.2.1 9 = .ok (.ifCond .eq (22), 3) := by decide +kernel
theorem d_M_got_31 : decode y_M_got.2.1 31 = .ok (.iconst (-1), 1) := by decide +kernel
theorem s_M_got_31 : aw_VS y_M_got 31 [o_c (.int (-1 : Int32))] 32 := .cons (v_iconst (v := (-1 : Int32)) d_M_got_31 (by decide +kernel)) .nil
theorem d_M_got_32 : decode y_M_got.2.1 32 = .ok (.ireturn, 1) := by decide +kernel
theorem d_M_got_12 : decode y_M_got.2.1 12 = .ok (.iload_n 1, 1) := by decide +kernel
theorem d_M_got_13 : decode y_M_got.2.1 13 = .ok (.iconst 0, 1) := by decide +kernel
theorem d_M_got_14 : decode y_M_got.2.1 14 = .ok (.bipush 16, 2) := by decide +kernel
theorem s_M_got_12 : aw_VS y_M_got 12 [o_ild 1, o_c (.int (0 : Int32)), o_c (.int (16 : Int32))] 16 := .cons (v_iload_n (i := 1) d_M_got_12 rfl) (.cons (v_iconst (v := (0 : Int32)) d_M_got_13 (by decide +kernel)) (.cons (v_bipush (v := (16 : Int32)) d_M_got_14 (by decide +kernel)) .nil))
theorem d_M_got_16 : decode y_M_got.2.1 16 = .ok (.invokestatic 234, 3) := by decide +kernel
theorem b_M_got_0 {X : aw_X} {d : Nat} {Q : Option Value → aw_H → Prop} {I : Nat → Nat → Int32} {L : Nat → Nat → Int64} {D : Nat → Nat} {v1 : Int32}
    (h1 : (I 69 85) = 0 → Q (some (.int (-1 : Int32))) (aw_s (aw_u I 69 0 (0 : Int32)) L D))
    (h2 : ¬ (I 69 85) = 0 → aw_m X d y_M_isIn [.int v1, .int (0 : Int32), .int (16 : Int32)] (aw_s (aw_u I 69 0 (0 : Int32)) L D) (fun r A => aw_z X (d + 1) y_M_got Q 19 [some (.ref 69), some (.int v1)] (r.toList ++ []) A)) :
    aw_z X (d + 1) y_M_got Q 0 [some (.ref 69), some (.int v1)] [] (aw_s I L D) :=
  (s_M_got_0.go [some (.ref 69), some (.int v1)] [.int (I 69 85)] (aw_s (aw_u I 69 0 (0 : Int32)) L D) rfl (z_if_eq (tgt := 31) d_M_got_9 rfl (fun q1 => (s_M_got_31.go [some (.ref 69), some (.int v1)] [.int (-1 : Int32)] (aw_s (aw_u I 69 0 (0 : Int32)) L D) rfl (z_iret d_M_got_32 rfl rfl (h1 q1)))) (fun q2 => (s_M_got_12.go [some (.ref 69), some (.int v1)] [.int (16 : Int32), .int (0 : Int32), .int v1] (aw_s (aw_u I 69 0 (0 : Int32)) L D) rfl (z_callS (av := [.int v1, .int (0 : Int32), .int (16 : Int32)]) (st := []) ok_M_isIn (Or.inl w_1873) w_1874 d_M_got_16 rfl rfl (Nat.le_of_ble_eq_true rfl) (Nat.le_refl _) (Nat.le_refl _) (h2 q2))))))
theorem d_M_got_19 : decode y_M_got.2.1 19 = .ok (.ifCond .eq (12), 3) := by decide +kernel
theorem d_M_got_22 : decode y_M_got.2.1 22 = .ok (.aload_n 0, 1) := by decide +kernel
theorem d_M_got_23 : decode y_M_got.2.1 23 = .ok (.getfield 157, 3) := by decide +kernel
theorem d_M_got_26 : decode y_M_got.2.1 26 = .ok (.iload_n 1, 1) := by decide +kernel
theorem s_M_got_22 : aw_VS y_M_got 22 [o_ald 0, o_getA 9 84, o_ild 1] 27 := .cons (v_aload_n (i := 0) d_M_got_22 rfl) (.cons (v_getA (k := 84) k_M (by decide) rfl (Or.inl w_1545) d_M_got_23) (.cons (v_iload_n (i := 1) d_M_got_26 rfl) .nil))
theorem d_M_got_27 : decode y_M_got.2.1 27 = .ok (.iaload, 1) := by decide +kernel
theorem d_M_got_28 : decode y_M_got.2.1 28 = .ok (.goto (4), 3) := by decide +kernel
theorem b_M_got_19 {X : aw_X} {d : Nat} {Q : Option Value → aw_H → Prop} {I : Nat → Nat → Int32} {L : Nat → Nat → Int64} {D : Nat → Nat} {v1 : Int32} {s0 : Int32}
    (h1 : s0 = 0 → Q (some (.int (-1 : Int32))) (aw_s I L D))
    (h2 : ¬ s0 = 0 → vp_in v1 17)
    (h3 : ¬ s0 = 0 → Q (some (.int (I 114 v1.toNatClampNeg))) (aw_s I L D)) :
    aw_z X (d + 1) y_M_got Q 19 [some (.ref 69), some (.int v1)] [.int s0] (aw_s I L D) :=
  (z_if_eq (tgt := 31) d_M_got_19 rfl (fun q1 => (s_M_got_31.go [some (.ref 69), some (.int v1)] [.int (-1 : Int32)] (aw_s I L D) rfl (z_iret d_M_got_32 rfl rfl (h1 q1)))) (fun q2 => (s_M_got_22.go [some (.ref 69), some (.int v1)] [.int v1, .ref 114] (aw_s I L D) rfl (z_iald (n := 17) rfl (aw_lt (o := 114) rfl) (h2 q2) d_M_got_27 (z_goto (tgt := 32) d_M_got_28 rfl (z_iret d_M_got_32 rfl rfl (h3 q2)))))))
/-! M_count -/
theorem d_M_count_0 : decode y_M_count.2.1 0 = .ok (.aload_n 0, 1) := by decide +kernel
theorem d_M_count_1 : decode y_M_count.2.1 1 = .ok (.iconst 0, 1) := by decide +kernel
theorem d_M_count_2 : decode y_M_count.2.1 2 = .ok (.putfield 160, 3) := by decide +kernel
theorem d_M_count_5 : decode y_M_count.2.1 5 = .ok (.iload_n 1, 1) := by decide +kernel
theorem s_M_count_0 : aw_VS y_M_count 0 [o_ald 0, o_c (.int (0 : Int32)), o_putI 9 0, o_ild 1] 6 := .cons (v_aload_n (i := 0) d_M_count_0 rfl) (.cons (v_iconst (v := (0 : Int32)) d_M_count_1 (by decide +kernel)) (.cons (v_putI (k := 0) k_M (by decide) rfl (Or.inl ⟨rfl, Or.inl w_1461⟩) d_M_count_2) (.cons (v_iload_n (i := 1) d_M_count_5 rfl) .nil)))
theorem d_M_count_6 : decode y_M_count.2.1 6 = .ok (.tableswitch (50) (0) (3) #[30, 35, 40, 45], 30) := by decide +kernel
theorem d_M_count_36 : decode y_M_count.2.1 36 = .ok (.aload_n 0, 1) := by decide +kernel
theorem d_M_count_37 : decode y_M_count.2.1 37 = .ok (.getfield 53, 3) := by decide +kernel
theorem s_M_count_36 : aw_VS y_M_count 36 [o_ald 0, o_getI 9 33] 40 := .cons (v_aload_n (i := 0) d_M_count_36 rfl) (.cons (v_getI (k := 33) k_M (by decide) (Or.inl rfl) (Or.inl w_1494) d_M_count_37) .nil)
theorem d_M_count_40 : decode y_M_count.2.1 40 = .ok (.ireturn, 1) := by decide +kernel
theorem d_M_count_41 : decode y_M_count.2.1 41 = .ok (.aload_n 0, 1) := by decide +kernel
theorem d_M_count_42 : decode y_M_count.2.1 42 = .ok (.getfield 57, 3) := by decide +kernel
theorem s_M_count_41 : aw_VS y_M_count 41 [o_ald 0, o_getI 9 34] 45 := .cons (v_aload_n (i := 0) d_M_count_41 rfl) (.cons (v_getI (k := 34) k_M (by decide) (Or.inl rfl) (Or.inl w_1495) d_M_count_42) .nil)
theorem d_M_count_45 : decode y_M_count.2.1 45 = .ok (.ireturn, 1) := by decide +kernel
theorem d_M_count_46 : decode y_M_count.2.1 46 = .ok (.aload_n 0, 1) := by decide +kernel
theorem d_M_count_47 : decode y_M_count.2.1 47 = .ok (.getfield 360, 3) := by decide +kernel
theorem s_M_count_46 : aw_VS y_M_count 46 [o_ald 0, o_getI 9 35] 50 := .cons (v_aload_n (i := 0) d_M_count_46 rfl) (.cons (v_getI (k := 35) k_M (by decide) (Or.inl rfl) (Or.inl w_1496) d_M_count_47) .nil)
theorem d_M_count_50 : decode y_M_count.2.1 50 = .ok (.ireturn, 1) := by decide +kernel
theorem d_M_count_51 : decode y_M_count.2.1 51 = .ok (.aload_n 0, 1) := by decide +kernel
theorem d_M_count_52 : decode y_M_count.2.1 52 = .ok (.getfield 163, 3) := by decide +kernel
theorem s_M_count_51 : aw_VS y_M_count 51 [o_ald 0, o_getI 9 2] 55 := .cons (v_aload_n (i := 0) d_M_count_51 rfl) (.cons (v_getI (k := 2) k_M (by decide) (Or.inl rfl) (Or.inl w_1463) d_M_count_52) .nil)
theorem d_M_count_55 : decode y_M_count.2.1 55 = .ok (.ireturn, 1) := by decide +kernel
theorem d_M_count_56 : decode y_M_count.2.1 56 = .ok (.iconst (-1), 1) := by decide +kernel
theorem s_M_count_56 : aw_VS y_M_count 56 [o_c (.int (-1 : Int32))] 57 := .cons (v_iconst (v := (-1 : Int32)) d_M_count_56 (by decide +kernel)) .nil
theorem d_M_count_57 : decode y_M_count.2.1 57 = .ok (.ireturn, 1) := by decide +kernel
theorem b_M_count_0 {X : aw_X} {d : Nat} {Q : Option Value → aw_H → Prop} {I : Nat → Nat → Int32} {L : Nat → Nat → Int64} {D : Nat → Nat} {v1 : Int32}
    (h1 : v1 = (0 : Int32) → Q (some (.int (I 69 33))) (aw_s (aw_u I 69 0 (0 : Int32)) L D))
    (h2 : ¬ v1 = (0 : Int32) → v1 = (1 : Int32) → Q (some (.int (I 69 34))) (aw_s (aw_u I 69 0 (0 : Int32)) L D))
    (h3 : ¬ v1 = (0 : Int32) → ¬ v1 = (1 : Int32) → v1 = (2 : Int32) → Q (some (.int (I 69 35))) (aw_s (aw_u I 69 0 (0 : Int32)) L D))
    (h4 : ¬ v1 = (0 : Int32) → ¬ v1 = (1 : Int32) → ¬ v1 = (2 : Int32) → v1 = (3 : Int32) → Q (some (.int (I 69 2))) (aw_s (aw_u I 69 0 (0 : Int32)) L D))
    (h5 : ¬ v1 = (0 : Int32) → ¬ v1 = (1 : Int32) → ¬ v1 = (2 : Int32) → ¬ v1 = (3 : Int32) → Q (some (.int (-1 : Int32))) (aw_s (aw_u I 69 0 (0 : Int32)) L D)) :
    aw_z X d y_M_count Q 0 [some (.ref 69), some (.int v1)] [] (aw_s I L D) :=
  (s_M_count_0.go [some (.ref 69), some (.int v1)] [.int v1] (aw_s (aw_u I 69 0 (0 : Int32)) L D) rfl (Decidable.byCases (fun q1 => z_tableIn (off := 30) (tgt := 36) d_M_count_6 (by rw [q1]; decide +kernel) (by rw [q1]; decide +kernel) (by rw [q1]; decide +kernel) rfl (s_M_count_36.go [some (.ref 69), some (.int v1)] [.int (I 69 33)] (aw_s (aw_u I 69 0 (0 : Int32)) L D) rfl (z_iret d_M_count_40 rfl rfl (h1 q1)))) (fun q1n => (Decidable.byCases (fun q2 => z_tableIn (off := 35) (tgt := 41) d_M_count_6 (by rw [q2]; decide +kernel) (by rw [q2]; decide +kernel) (by rw [q2]; decide +kernel) rfl (s_M_count_41.go [some (.ref 69), some (.int v1)] [.int (I 69 34)] (aw_s (aw_u I 69 0 (0 : Int32)) L D) rfl (z_iret d_M_count_45 rfl rfl (h2 q1n q2)))) (fun q2n => (Decidable.byCases (fun q3 => z_tableIn (off := 40) (tgt := 46) d_M_count_6 (by rw [q3]; decide +kernel) (by rw [q3]; decide +kernel) (by rw [q3]; decide +kernel) rfl (s_M_count_46.go [some (.ref 69), some (.int v1)] [.int (I 69 35)] (aw_s (aw_u I 69 0 (0 : Int32)) L D) rfl (z_iret d_M_count_50 rfl rfl (h3 q1n q2n q3)))) (fun q3n => (Decidable.byCases (fun q4 => z_tableIn (off := 45) (tgt := 51) d_M_count_6 (by rw [q4]; decide +kernel) (by rw [q4]; decide +kernel) (by rw [q4]; decide +kernel) rfl (s_M_count_51.go [some (.ref 69), some (.int v1)] [.int (I 69 2)] (aw_s (aw_u I 69 0 (0 : Int32)) L D) rfl (z_iret d_M_count_55 rfl rfl (h4 q1n q2n q3n q4)))) (fun q4n => z_tableOut (tgt := 56) d_M_count_6 (by have := aw_swout q1n (a := 0) rfl; have := aw_swout q2n (a := 1) rfl; have := aw_swout q3n (a := 2) rfl; have := aw_swout q4n (a := 3) rfl; omega) rfl (s_M_count_56.go [some (.ref 69), some (.int v1)] [.int (-1 : Int32)] (aw_s (aw_u I 69 0 (0 : Int32)) L D) rfl (z_iret d_M_count_57 rfl rfl (h5 q1n q2n q3n q4n))))))))))))
