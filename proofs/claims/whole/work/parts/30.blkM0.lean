/-! by gen_blk.py (genall.py) -/
/-! M_thrown -/
theorem d_M_thrown_0 : decode y_M_thrown.2.1 0 = .ok (.aload_n 0, 1) := by decide +kernel
theorem d_M_thrown_1 : decode y_M_thrown.2.1 1 = .ok (.getfield 160, 3) := by decide +kernel
theorem s_M_thrown_0 : aw_VS y_M_thrown 0 [o_ald 0, o_getI 9 0] 4 := .cons (v_aload_n (i := 0) d_M_thrown_0 rfl) (.cons (v_getI (k := 0) k_M (by decide) (Or.inl rfl) (Or.inl w_1461) d_M_thrown_1) .nil)
theorem d_M_thrown_4 : decode y_M_thrown.2.1 4 = .ok (.ireturn, 1) := by decide +kernel
theorem b_M_thrown_0 {X : aw_X} {d : Nat} {Q : Option Value → aw_H → Prop} {I : Nat → Nat → Int32} {L : Nat → Nat → Int64} {D : Nat → Nat} 
    (h1 : Q (some (.int (I 69 0))) (aw_s I L D)) :
    aw_z X d y_M_thrown Q 0 [some (.ref 69)] [] (aw_s I L D) :=
  (s_M_thrown_0.go [some (.ref 69)] [.int (I 69 0)] (aw_s I L D) rfl (z_iret d_M_thrown_4 rfl rfl (h1)))
/-! M_feed -/
theorem d_M_feed_0 : decode y_M_feed.2.1 0 = .ok (.aload_n 0, 1) := by decide +kernel
theorem d_M_feed_1 : decode y_M_feed.2.1 1 = .ok (.iconst 0, 1) := by decide +kernel
theorem d_M_feed_2 : decode y_M_feed.2.1 2 = .ok (.putfield 160, 3) := by decide +kernel
theorem d_M_feed_5 : decode y_M_feed.2.1 5 = .ok (.aload_n 0, 1) := by decide +kernel
theorem d_M_feed_6 : decode y_M_feed.2.1 6 = .ok (.getfield 163, 3) := by decide +kernel
theorem d_M_feed_9 : decode y_M_feed.2.1 9 = .ok (.bipush 20, 2) := by decide +kernel
theorem d_M_feed_11 : decode y_M_feed.2.1 11 = .ok (.iadd, 1) := by decide +kernel
theorem d_M_feed_12 : decode y_M_feed.2.1 12 = .ok (.sipush 540, 3) := by decide +kernel
theorem s_M_feed_0 : aw_VS y_M_feed 0 [o_ald 0, o_c (.int (0 : Int32)), o_putI 9 0, o_ald 0, o_getI 9 2, o_c (.int (20 : Int32)), o_i2 (fun x z => x + z), o_c (.int (540 : Int32))] 15 := .cons (v_aload_n (i := 0) d_M_feed_0 rfl) (.cons (v_iconst (v := (0 : Int32)) d_M_feed_1 (by decide +kernel)) (.cons (v_putI (k := 0) k_M (by decide) rfl (Or.inl ⟨rfl, Or.inl w_1461⟩) d_M_feed_2) (.cons (v_aload_n (i := 0) d_M_feed_5 rfl) (.cons (v_getI (k := 2) k_M (by decide) (Or.inl rfl) (Or.inl w_1463) d_M_feed_6) (.cons (v_bipush (v := (20 : Int32)) d_M_feed_9 (by decide +kernel)) (.cons (v_iadd d_M_feed_11) (.cons (v_sipush (v := (540 : Int32)) d_M_feed_12 (by decide +kernel)) .nil)))))))
theorem d_M_feed_15 : decode y_M_feed.2.1 15 = .ok (.if_icmp .le (5), 3) := by decide +kernel
theorem d_M_feed_20 : decode y_M_feed.2.1 20 = .ok (.aload_n 0, 1) := by decide +kernel
theorem d_M_feed_21 : decode y_M_feed.2.1 21 = .ok (.iload_n 1, 1) := by decide +kernel
theorem s_M_feed_20 : aw_VS y_M_feed 20 [o_ald 0, o_ild 1] 22 := .cons (v_aload_n (i := 0) d_M_feed_20 rfl) (.cons (v_iload_n (i := 1) d_M_feed_21 rfl) .nil)
theorem d_M_feed_22 : decode y_M_feed.2.1 22 = .ok (.invokevirtual 166, 3) := by decide +kernel
theorem d_M_feed_18 : decode y_M_feed.2.1 18 = .ok (.iconst (-1), 1) := by decide +kernel
theorem s_M_feed_18 : aw_VS y_M_feed 18 [o_c (.int (-1 : Int32))] 19 := .cons (v_iconst (v := (-1 : Int32)) d_M_feed_18 (by decide +kernel)) .nil
theorem d_M_feed_19 : decode y_M_feed.2.1 19 = .ok (.ireturn, 1) := by decide +kernel
theorem b_M_feed_0 {X : aw_X} {d : Nat} {Q : Option Value → aw_H → Prop} {I : Nat → Nat → Int32} {L : Nat → Nat → Int64} {D : Nat → Nat} {v1 : Int32} {v2 : Int32} {v3 : Int32} {v4 : Int32} {v5 : Int32}
    (h1 : ((I 69 2) + (20 : Int32)) ≤ (540 : Int32) → aw_m X d y_M_come [.ref 69, .int v1] (aw_s (aw_u I 69 0 (0 : Int32)) L D) (fun r A => aw_z X (d + 1) y_M_feed Q 25 [some (.ref 69), none, some (.int v2), some (.int v3), some (.int v4), some (.int v5)] (r.toList ++ []) A))
    (h2 : ¬ ((I 69 2) + (20 : Int32)) ≤ (540 : Int32) → Q (some (.int (-1 : Int32))) (aw_s (aw_u I 69 0 (0 : Int32)) L D)) :
    aw_z X (d + 1) y_M_feed Q 0 [some (.ref 69), some (.int v1), some (.int v2), some (.int v3), some (.int v4), some (.int v5)] [] (aw_s I L D) :=
  (s_M_feed_0.go [some (.ref 69), some (.int v1), some (.int v2), some (.int v3), some (.int v4), some (.int v5)] [.int (540 : Int32), .int ((I 69 2) + (20 : Int32))] (aw_s (aw_u I 69 0 (0 : Int32)) L D) rfl (z_icmp_le (tgt := 20) d_M_feed_15 rfl (fun q1 => (s_M_feed_20.go [some (.ref 69), some (.int v1), some (.int v2), some (.int v3), some (.int v4), some (.int v5)] [.int v1, .ref 69] (aw_s (aw_u I 69 0 (0 : Int32)) L D) rfl (z_callV (av := [.int v1]) (st := []) ok_M_come (Or.inl w_1729) w_1731 w_70 k_M d_M_feed_22 rfl (aw_lt (o := 69) rfl) rfl rfl (Nat.le_of_ble_eq_true rfl) (Nat.le_refl _) (Nat.le_refl _) (aw_C.mono (h1 q1) (fun _ _ zz => aw_Z.weak (ls' := [some (.ref 69), none, some (.int v2), some (.int v3), some (.int v4), some (.int v5)]) zz (Nat.le_of_ble_eq_true rfl) ⟨Or.inr rfl, ⟨Or.inl rfl, ⟨Or.inr rfl, ⟨Or.inr rfl, ⟨Or.inr rfl, ⟨Or.inr rfl, trivial⟩⟩⟩⟩⟩⟩))))) (fun q2 => (s_M_feed_18.go [some (.ref 69), some (.int v1), some (.int v2), some (.int v3), some (.int v4), some (.int v5)] [.int (-1 : Int32)] (aw_s (aw_u I 69 0 (0 : Int32)) L D) rfl (z_iret d_M_feed_19 rfl rfl (h2 q2))))))
theorem d_M_feed_25 : decode y_M_feed.2.1 25 = .ok (.aload_n 0, 1) := by decide +kernel
theorem d_M_feed_26 : decode y_M_feed.2.1 26 = .ok (.iload_n 2, 1) := by decide +kernel
theorem s_M_feed_25 : aw_VS y_M_feed 25 [o_ald 0, o_ild 2] 27 := .cons (v_aload_n (i := 0) d_M_feed_25 rfl) (.cons (v_iload_n (i := 2) d_M_feed_26 rfl) .nil)
theorem d_M_feed_27 : decode y_M_feed.2.1 27 = .ok (.invokevirtual 166, 3) := by decide +kernel
theorem b_M_feed_25 {X : aw_X} {d : Nat} {Q : Option Value → aw_H → Prop} {I : Nat → Nat → Int32} {L : Nat → Nat → Int64} {D : Nat → Nat} {v2 : Int32} {v3 : Int32} {v4 : Int32} {v5 : Int32}
    (h1 : aw_m X d y_M_come [.ref 69, .int v2] (aw_s I L D) (fun r A => aw_z X (d + 1) y_M_feed Q 30 [some (.ref 69), none, none, some (.int v3), some (.int v4), some (.int v5)] (r.toList ++ []) A)) :
    aw_z X (d + 1) y_M_feed Q 25 [some (.ref 69), none, some (.int v2), some (.int v3), some (.int v4), some (.int v5)] [] (aw_s I L D) :=
  (s_M_feed_25.go [some (.ref 69), none, some (.int v2), some (.int v3), some (.int v4), some (.int v5)] [.int v2, .ref 69] (aw_s I L D) rfl (z_callV (av := [.int v2]) (st := []) ok_M_come (Or.inl w_1729) w_1731 w_70 k_M d_M_feed_27 rfl (aw_lt (o := 69) rfl) rfl rfl (Nat.le_of_ble_eq_true rfl) (Nat.le_refl _) (Nat.le_refl _) (aw_C.mono (h1) (fun _ _ zz => aw_Z.weak (ls' := [some (.ref 69), none, none, some (.int v3), some (.int v4), some (.int v5)]) zz (Nat.le_of_ble_eq_true rfl) ⟨Or.inr rfl, ⟨Or.inl rfl, ⟨Or.inl rfl, ⟨Or.inr rfl, ⟨Or.inr rfl, ⟨Or.inr rfl, trivial⟩⟩⟩⟩⟩⟩))))
theorem d_M_feed_30 : decode y_M_feed.2.1 30 = .ok (.aload_n 0, 1) := by decide +kernel
theorem d_M_feed_31 : decode y_M_feed.2.1 31 = .ok (.iload_n 3, 1) := by decide +kernel
theorem s_M_feed_30 : aw_VS y_M_feed 30 [o_ald 0, o_ild 3] 32 := .cons (v_aload_n (i := 0) d_M_feed_30 rfl) (.cons (v_iload_n (i := 3) d_M_feed_31 rfl) .nil)
theorem d_M_feed_32 : decode y_M_feed.2.1 32 = .ok (.invokevirtual 166, 3) := by decide +kernel
theorem b_M_feed_30 {X : aw_X} {d : Nat} {Q : Option Value → aw_H → Prop} {I : Nat → Nat → Int32} {L : Nat → Nat → Int64} {D : Nat → Nat} {v3 : Int32} {v4 : Int32} {v5 : Int32}
    (h1 : aw_m X d y_M_come [.ref 69, .int v3] (aw_s I L D) (fun r A => aw_z X (d + 1) y_M_feed Q 35 [some (.ref 69), none, none, none, some (.int v4), some (.int v5)] (r.toList ++ []) A)) :
    aw_z X (d + 1) y_M_feed Q 30 [some (.ref 69), none, none, some (.int v3), some (.int v4), some (.int v5)] [] (aw_s I L D) :=
  (s_M_feed_30.go [some (.ref 69), none, none, some (.int v3), some (.int v4), some (.int v5)] [.int v3, .ref 69] (aw_s I L D) rfl (z_callV (av := [.int v3]) (st := []) ok_M_come (Or.inl w_1729) w_1731 w_70 k_M d_M_feed_32 rfl (aw_lt (o := 69) rfl) rfl rfl (Nat.le_of_ble_eq_true rfl) (Nat.le_refl _) (Nat.le_refl _) (aw_C.mono (h1) (fun _ _ zz => aw_Z.weak (ls' := [some (.ref 69), none, none, none, some (.int v4), some (.int v5)]) zz (Nat.le_of_ble_eq_true rfl) ⟨Or.inr rfl, ⟨Or.inl rfl, ⟨Or.inl rfl, ⟨Or.inl rfl, ⟨Or.inr rfl, ⟨Or.inr rfl, trivial⟩⟩⟩⟩⟩⟩))))
theorem d_M_feed_35 : decode y_M_feed.2.1 35 = .ok (.aload_n 0, 1) := by decide +kernel
theorem d_M_feed_36 : decode y_M_feed.2.1 36 = .ok (.iload 4, 2) := by decide +kernel
theorem s_M_feed_35 : aw_VS y_M_feed 35 [o_ald 0, o_ild 4] 38 := .cons (v_aload_n (i := 0) d_M_feed_35 rfl) (.cons (v_iload (i := 4) d_M_feed_36) .nil)
theorem d_M_feed_38 : decode y_M_feed.2.1 38 = .ok (.invokevirtual 166, 3) := by decide +kernel
theorem b_M_feed_35 {X : aw_X} {d : Nat} {Q : Option Value → aw_H → Prop} {I : Nat → Nat → Int32} {L : Nat → Nat → Int64} {D : Nat → Nat} {v4 : Int32} {v5 : Int32}
    (h1 : aw_m X d y_M_come [.ref 69, .int v4] (aw_s I L D) (fun r A => aw_z X (d + 1) y_M_feed Q 41 [some (.ref 69), none, none, none, none, some (.int v5)] (r.toList ++ []) A)) :
    aw_z X (d + 1) y_M_feed Q 35 [some (.ref 69), none, none, none, some (.int v4), some (.int v5)] [] (aw_s I L D) :=
  (s_M_feed_35.go [some (.ref 69), none, none, none, some (.int v4), some (.int v5)] [.int v4, .ref 69] (aw_s I L D) rfl (z_callV (av := [.int v4]) (st := []) ok_M_come (Or.inl w_1729) w_1731 w_70 k_M d_M_feed_38 rfl (aw_lt (o := 69) rfl) rfl rfl (Nat.le_of_ble_eq_true rfl) (Nat.le_refl _) (Nat.le_refl _) (aw_C.mono (h1) (fun _ _ zz => aw_Z.weak (ls' := [some (.ref 69), none, none, none, none, some (.int v5)]) zz (Nat.le_of_ble_eq_true rfl) ⟨Or.inr rfl, ⟨Or.inl rfl, ⟨Or.inl rfl, ⟨Or.inl rfl, ⟨Or.inl rfl, ⟨Or.inr rfl, trivial⟩⟩⟩⟩⟩⟩))))
theorem d_M_feed_41 : decode y_M_feed.2.1 41 = .ok (.aload_n 0, 1) := by decide +kernel
theorem d_M_feed_42 : decode y_M_feed.2.1 42 = .ok (.iload 5, 2) := by decide +kernel
theorem s_M_feed_41 : aw_VS y_M_feed 41 [o_ald 0, o_ild 5] 44 := .cons (v_aload_n (i := 0) d_M_feed_41 rfl) (.cons (v_iload (i := 5) d_M_feed_42) .nil)
theorem d_M_feed_44 : decode y_M_feed.2.1 44 = .ok (.invokevirtual 166, 3) := by decide +kernel
theorem b_M_feed_41 {X : aw_X} {d : Nat} {Q : Option Value → aw_H → Prop} {I : Nat → Nat → Int32} {L : Nat → Nat → Int64} {D : Nat → Nat} {v5 : Int32}
    (h1 : aw_m X d y_M_come [.ref 69, .int v5] (aw_s I L D) (fun r A => aw_z X (d + 1) y_M_feed Q 47 [some (.ref 69), none, none, none, none, none] (r.toList ++ []) A)) :
    aw_z X (d + 1) y_M_feed Q 41 [some (.ref 69), none, none, none, none, some (.int v5)] [] (aw_s I L D) :=
  (s_M_feed_41.go [some (.ref 69), none, none, none, none, some (.int v5)] [.int v5, .ref 69] (aw_s I L D) rfl (z_callV (av := [.int v5]) (st := []) ok_M_come (Or.inl w_1729) w_1731 w_70 k_M d_M_feed_44 rfl (aw_lt (o := 69) rfl) rfl rfl (Nat.le_of_ble_eq_true rfl) (Nat.le_refl _) (Nat.le_refl _) (aw_C.mono (h1) (fun _ _ zz => aw_Z.weak (ls' := [some (.ref 69), none, none, none, none, none]) zz (Nat.le_of_ble_eq_true rfl) ⟨Or.inr rfl, ⟨Or.inl rfl, ⟨Or.inl rfl, ⟨Or.inl rfl, ⟨Or.inl rfl, ⟨Or.inl rfl, trivial⟩⟩⟩⟩⟩⟩))))
theorem d_M_feed_47 : decode y_M_feed.2.1 47 = .ok (.aload_n 0, 1) := by decide +kernel
theorem d_M_feed_48 : decode y_M_feed.2.1 48 = .ok (.getfield 163, 3) := by decide +kernel
theorem s_M_feed_47 : aw_VS y_M_feed 47 [o_ald 0, o_getI 9 2] 51 := .cons (v_aload_n (i := 0) d_M_feed_47 rfl) (.cons (v_getI (k := 2) k_M (by decide) (Or.inl rfl) (Or.inl w_1463) d_M_feed_48) .nil)
theorem d_M_feed_51 : decode y_M_feed.2.1 51 = .ok (.ireturn, 1) := by decide +kernel
theorem b_M_feed_47 {X : aw_X} {d : Nat} {Q : Option Value → aw_H → Prop} {I : Nat → Nat → Int32} {L : Nat → Nat → Int64} {D : Nat → Nat} 
    (h1 : Q (some (.int (I 69 2))) (aw_s I L D)) :
    aw_z X (d + 1) y_M_feed Q 47 [some (.ref 69), none, none, none, none, none] [] (aw_s I L D) :=
  (s_M_feed_47.go [some (.ref 69), none, none, none, none, none] [.int (I 69 2)] (aw_s I L D) rfl (z_iret d_M_feed_51 rfl rfl (h1)))
/-! M_come -/
theorem d_M_come_0 : decode y_M_come.2.1 0 = .ok (.bipush 24, 2) := by decide +kernel
theorem d_M_come_2 : decode y_M_come.2.1 2 = .ok (.istore_n 2, 1) := by decide +kernel
theorem s_M_come_0 : aw_VS y_M_come 0 [o_c (.int (24 : Int32)), o_ist 2] 3 := .cons (v_bipush (v := (24 : Int32)) d_M_come_0 (by decide +kernel)) (.cons (v_istore_n d_M_come_2) .nil)
theorem b_M_come_0 {X : aw_X} {d : Nat} {Q : Option Value → aw_H → Prop} {I : Nat → Nat → Int32} {L : Nat → Nat → Int64} {D : Nat → Nat} {v1 : Int32}
    (h1 : aw_z X d y_M_come Q 3 [some (.ref 69), some (.int v1), some (.int (24 : Int32))] [] (aw_s I L D)) :
    aw_z X d y_M_come Q 0 [some (.ref 69), some (.int v1), none] [] (aw_s I L D) :=
  (s_M_come_0.go [some (.ref 69), some (.int v1), some (.int (24 : Int32))] [] (aw_s I L D) rfl (h1))
theorem d_M_come_3 : decode y_M_come.2.1 3 = .ok (.iload_n 2, 1) := by decide +kernel
theorem s_M_come_3 : aw_VS y_M_come 3 [o_ild 2] 4 := .cons (v_iload_n (i := 2) d_M_come_3 rfl) .nil
theorem d_M_come_4 : decode y_M_come.2.1 4 = .ok (.ifCond .lt (35), 3) := by decide +kernel
theorem d_M_come_39 : decode y_M_come.2.1 39 = .ok (.return_, 1) := by decide +kernel
theorem d_M_come_7 : decode y_M_come.2.1 7 = .ok (.aload_n 0, 1) := by decide +kernel
theorem d_M_come_8 : decode y_M_come.2.1 8 = .ok (.getfield 7, 3) := by decide +kernel
theorem d_M_come_11 : decode y_M_come.2.1 11 = .ok (.aload_n 0, 1) := by decide +kernel
theorem d_M_come_12 : decode y_M_come.2.1 12 = .ok (.getfield 163, 3) := by decide +kernel
theorem d_M_come_15 : decode y_M_come.2.1 15 = .ok (.iload_n 1, 1) := by decide +kernel
theorem d_M_come_16 : decode y_M_come.2.1 16 = .ok (.iload_n 2, 1) := by decide +kernel
theorem d_M_come_17 : decode y_M_come.2.1 17 = .ok (.iushr, 1) := by decide +kernel
theorem d_M_come_18 : decode y_M_come.2.1 18 = .ok (.sipush 255, 3) := by decide +kernel
theorem d_M_come_21 : decode y_M_come.2.1 21 = .ok (.iand, 1) := by decide +kernel
theorem s_M_come_7 : aw_VS y_M_come 7 [o_ald 0, o_getA 9 1, o_ald 0, o_getI 9 2, o_ild 1, o_ild 2, o_i2 (fun x z => (x.toUInt32 >>> (z.toUInt32 &&& Int32.toUInt32 31)).toInt32), o_c (.int (255 : Int32)), o_i2 (fun x z => x &&& z)] 22 := .cons (v_aload_n (i := 0) d_M_come_7 rfl) (.cons (v_getA (k := 1) k_M (by decide) rfl (Or.inl w_1462) d_M_come_8) (.cons (v_aload_n (i := 0) d_M_come_11 rfl) (.cons (v_getI (k := 2) k_M (by decide) (Or.inl rfl) (Or.inl w_1463) d_M_come_12) (.cons (v_iload_n (i := 1) d_M_come_15 rfl) (.cons (v_iload_n (i := 2) d_M_come_16 rfl) (.cons (v_iushr d_M_come_17) (.cons (v_sipush (v := (255 : Int32)) d_M_come_18 (by decide +kernel)) (.cons (v_iand d_M_come_21) .nil))))))))
theorem d_M_come_22 : decode y_M_come.2.1 22 = .ok (.iastore, 1) := by decide +kernel
theorem d_M_come_23 : decode y_M_come.2.1 23 = .ok (.aload_n 0, 1) := by decide +kernel
theorem d_M_come_24 : decode y_M_come.2.1 24 = .ok (.dup, 1) := by decide +kernel
theorem d_M_come_25 : decode y_M_come.2.1 25 = .ok (.getfield 163, 3) := by decide +kernel
theorem d_M_come_28 : decode y_M_come.2.1 28 = .ok (.iconst 1, 1) := by decide +kernel
theorem d_M_come_29 : decode y_M_come.2.1 29 = .ok (.iadd, 1) := by decide +kernel
theorem d_M_come_30 : decode y_M_come.2.1 30 = .ok (.putfield 163, 3) := by decide +kernel
theorem d_M_come_33 : decode y_M_come.2.1 33 = .ok (.iinc 2 (-8), 3) := by decide +kernel
theorem s_M_come_23 : aw_VS y_M_come 23 [o_ald 0, o_dup, o_getI 9 2, o_c (.int (1 : Int32)), o_i2 (fun x z => x + z), o_putI 9 2, o_inc 2 (-8 : Int32)] 36 := .cons (v_aload_n (i := 0) d_M_come_23 rfl) (.cons (v_dup d_M_come_24) (.cons (v_getI (k := 2) k_M (by decide) (Or.inl rfl) (Or.inl w_1463) d_M_come_25) (.cons (v_iconst (v := (1 : Int32)) d_M_come_28 (by decide +kernel)) (.cons (v_iadd d_M_come_29) (.cons (v_putI (k := 2) k_M (by decide) rfl (Or.inl ⟨rfl, Or.inl w_1463⟩) d_M_come_30) (.cons (v_iinc (k0 := (-8 : Int32)) d_M_come_33 (by decide +kernel)) .nil))))))
theorem d_M_come_36 : decode y_M_come.2.1 36 = .ok (.goto (-33), 3) := by decide +kernel
theorem b_M_come_3 {X : aw_X} {d : Nat} {Q : Option Value → aw_H → Prop} {I : Nat → Nat → Int32} {L : Nat → Nat → Int64} {D : Nat → Nat} {v1 : Int32} {v2 : Int32}
    (h1 : v2 < 0 → Q none (aw_s I L D))
    (h2 : ¬ v2 < 0 → vp_in (I 69 2) 540)
    (h3 : ¬ v2 < 0 → aw_z X d y_M_come Q 3 [some (.ref 69), some (.int v1), some (.int (v2 + (-8 : Int32)))] [] (aw_s (aw_u (aw_u I 70 ((I 69 2).toNatClampNeg) (((v1.toUInt32 >>> (v2.toUInt32 &&& Int32.toUInt32 31)).toInt32) &&& (255 : Int32))) 69 2 ((I 69 2) + (1 : Int32))) L D)) :
    aw_z X d y_M_come Q 3 [some (.ref 69), some (.int v1), some (.int v2)] [] (aw_s I L D) :=
  (s_M_come_3.go [some (.ref 69), some (.int v1), some (.int v2)] [.int v2] (aw_s I L D) rfl (z_if_lt (tgt := 39) d_M_come_4 rfl (fun q1 => (z_vret d_M_come_39 rfl (h1 q1))) (fun q2 => (s_M_come_7.go [some (.ref 69), some (.int v1), some (.int v2)] [.int (((v1.toUInt32 >>> (v2.toUInt32 &&& Int32.toUInt32 31)).toInt32) &&& (255 : Int32)), .int (I 69 2), .ref 70] (aw_s I L D) rfl (z_iast (n := 540) rfl (aw_lt (o := 70) rfl) (h2 q2) d_M_come_22 (s_M_come_23.go [some (.ref 69), some (.int v1), some (.int (v2 + (-8 : Int32)))] [] (aw_s (aw_u (aw_u I 70 ((I 69 2).toNatClampNeg) (((v1.toUInt32 >>> (v2.toUInt32 &&& Int32.toUInt32 31)).toInt32) &&& (255 : Int32))) 69 2 ((I 69 2) + (1 : Int32))) L D) rfl (z_goto (tgt := 3) d_M_come_36 rfl (h3 q2))))))))
/-! M_end -/
theorem d_M_end_0 : decode y_M_end.2.1 0 = .ok (.aload_n 0, 1) := by decide +kernel
theorem d_M_end_1 : decode y_M_end.2.1 1 = .ok (.iconst 0, 1) := by decide +kernel
theorem d_M_end_2 : decode y_M_end.2.1 2 = .ok (.putfield 160, 3) := by decide +kernel
theorem d_M_end_5 : decode y_M_end.2.1 5 = .ok (.iload_n 1, 1) := by decide +kernel
theorem s_M_end_0 : aw_VS y_M_end 0 [o_ald 0, o_c (.int (0 : Int32)), o_putI 9 0, o_ild 1] 6 := .cons (v_aload_n (i := 0) d_M_end_0 rfl) (.cons (v_iconst (v := (0 : Int32)) d_M_end_1 (by decide +kernel)) (.cons (v_putI (k := 0) k_M (by decide) rfl (Or.inl ⟨rfl, Or.inl w_1461⟩) d_M_end_2) (.cons (v_iload_n (i := 1) d_M_end_5 rfl) .nil)))
theorem d_M_end_6 : decode y_M_end.2.1 6 = .ok (.ifCond .lt (11), 3) := by decide +kernel
theorem d_M_end_17 : decode y_M_end.2.1 17 = .ok (.iconst 0, 1) := by decide +kernel
theorem s_M_end_17 : aw_VS y_M_end 17 [o_c (.int (0 : Int32))] 18 := .cons (v_iconst (v := (0 : Int32)) d_M_end_17 (by decide +kernel)) .nil
theorem d_M_end_18 : decode y_M_end.2.1 18 = .ok (.ireturn, 1) := by decide +kernel
theorem d_M_end_9 : decode y_M_end.2.1 9 = .ok (.iload_n 1, 1) := by decide +kernel
theorem d_M_end_10 : decode y_M_end.2.1 10 = .ok (.aload_n 0, 1) := by decide +kernel
theorem d_M_end_11 : decode y_M_end.2.1 11 = .ok (.getfield 163, 3) := by decide +kernel
theorem s_M_end_9 : aw_VS y_M_end 9 [o_ild 1, o_ald 0, o_getI 9 2] 14 := .cons (v_iload_n (i := 1) d_M_end_9 rfl) (.cons (v_aload_n (i := 0) d_M_end_10 rfl) (.cons (v_getI (k := 2) k_M (by decide) (Or.inl rfl) (Or.inl w_1463) d_M_end_11) .nil))
theorem d_M_end_14 : decode y_M_end.2.1 14 = .ok (.if_icmp .le (5), 3) := by decide +kernel
theorem d_M_end_19 : decode y_M_end.2.1 19 = .ok (.aload_n 0, 1) := by decide +kernel
theorem d_M_end_20 : decode y_M_end.2.1 20 = .ok (.iload_n 1, 1) := by decide +kernel
theorem d_M_end_21 : decode y_M_end.2.1 21 = .ok (.putfield 163, 3) := by decide +kernel
theorem d_M_end_24 : decode y_M_end.2.1 24 = .ok (.iconst 1, 1) := by decide +kernel
theorem s_M_end_19 : aw_VS y_M_end 19 [o_ald 0, o_ild 1, o_putI 9 2, o_c (.int (1 : Int32))] 25 := .cons (v_aload_n (i := 0) d_M_end_19 rfl) (.cons (v_iload_n (i := 1) d_M_end_20 rfl) (.cons (v_putI (k := 2) k_M (by decide) rfl (Or.inl ⟨rfl, Or.inl w_1463⟩) d_M_end_21) (.cons (v_iconst (v := (1 : Int32)) d_M_end_24 (by decide +kernel)) .nil)))
theorem d_M_end_25 : decode y_M_end.2.1 25 = .ok (.ireturn, 1) := by decide +kernel
theorem b_M_end_0 {X : aw_X} {d : Nat} {Q : Option Value → aw_H → Prop} {I : Nat → Nat → Int32} {L : Nat → Nat → Int64} {D : Nat → Nat} {v1 : Int32}
    (h1 : v1 < 0 → Q (some (.int (0 : Int32))) (aw_s (aw_u I 69 0 (0 : Int32)) L D))
    (h2 : ¬ v1 < 0 → v1 ≤ (I 69 2) → Q (some (.int (1 : Int32))) (aw_s (aw_u (aw_u I 69 0 (0 : Int32)) 69 2 v1) L D))
    (h3 : ¬ v1 < 0 → ¬ v1 ≤ (I 69 2) → Q (some (.int (0 : Int32))) (aw_s (aw_u I 69 0 (0 : Int32)) L D)) :
    aw_z X d y_M_end Q 0 [some (.ref 69), some (.int v1)] [] (aw_s I L D) :=
  (s_M_end_0.go [some (.ref 69), some (.int v1)] [.int v1] (aw_s (aw_u I 69 0 (0 : Int32)) L D) rfl (z_if_lt (tgt := 17) d_M_end_6 rfl (fun q1 => (s_M_end_17.go [some (.ref 69), some (.int v1)] [.int (0 : Int32)] (aw_s (aw_u I 69 0 (0 : Int32)) L D) rfl (z_iret d_M_end_18 rfl (aw_nz (by decide +kernel)) (h1 q1)))) (fun q2 => (s_M_end_9.go [some (.ref 69), some (.int v1)] [.int (I 69 2), .int v1] (aw_s (aw_u I 69 0 (0 : Int32)) L D) rfl (z_icmp_le (tgt := 19) d_M_end_14 rfl (fun q3 => (s_M_end_19.go [some (.ref 69), some (.int v1)] [.int (1 : Int32)] (aw_s (aw_u (aw_u I 69 0 (0 : Int32)) 69 2 v1) L D) rfl (z_iret d_M_end_25 rfl (aw_nz (by decide +kernel)) (h2 q2 q3)))) (fun q4 => (s_M_end_17.go [some (.ref 69), some (.int v1)] [.int (0 : Int32)] (aw_s (aw_u I 69 0 (0 : Int32)) L D) rfl (z_iret d_M_end_18 rfl (aw_nz (by decide +kernel)) (h3 q2 q4)))))))))
/-! M_program -/
theorem d_M_program_0 : decode y_M_program.2.1 0 = .ok (.aload_n 0, 1) := by decide +kernel
theorem d_M_program_1 : decode y_M_program.2.1 1 = .ok (.iconst 0, 1) := by decide +kernel
theorem d_M_program_2 : decode y_M_program.2.1 2 = .ok (.putfield 160, 3) := by decide +kernel
theorem d_M_program_5 : decode y_M_program.2.1 5 = .ok (.aload_n 0, 1) := by decide +kernel
theorem d_M_program_6 : decode y_M_program.2.1 6 = .ok (.aload_n 0, 1) := by decide +kernel
theorem s_M_program_0 : aw_VS y_M_program 0 [o_ald 0, o_c (.int (0 : Int32)), o_putI 9 0, o_ald 0, o_ald 0] 7 := .cons (v_aload_n (i := 0) d_M_program_0 rfl) (.cons (v_iconst (v := (0 : Int32)) d_M_program_1 (by decide +kernel)) (.cons (v_putI (k := 0) k_M (by decide) rfl (Or.inl ⟨rfl, Or.inl w_1461⟩) d_M_program_2) (.cons (v_aload_n (i := 0) d_M_program_5 rfl) (.cons (v_aload_n (i := 0) d_M_program_6 rfl) .nil))))
theorem d_M_program_7 : decode y_M_program.2.1 7 = .ok (.invokevirtual 340, 3) := by decide +kernel
theorem b_M_program_0 {X : aw_X} {d : Nat} {Q : Option Value → aw_H → Prop} {I : Nat → Nat → Int32} {L : Nat → Nat → Int64} {D : Nat → Nat} {v1 : Int32}
    (h1 : aw_m X d y_M_take [.ref 69] (aw_s (aw_u I 69 0 (0 : Int32)) L D) (fun r A => aw_z X (d + 1) y_M_program Q 10 [some (.ref 69), some (.int v1)] (r.toList ++ [.ref 69]) A)) :
    aw_z X (d + 1) y_M_program Q 0 [some (.ref 69), some (.int v1)] [] (aw_s I L D) :=
  (s_M_program_0.go [some (.ref 69), some (.int v1)] [.ref 69, .ref 69] (aw_s (aw_u I 69 0 (0 : Int32)) L D) rfl (z_callV (av := []) (st := [.ref 69]) ok_M_take (Or.inl w_1741) w_1743 w_71 k_M d_M_program_7 rfl (aw_lt (o := 69) rfl) rfl rfl (Nat.le_of_ble_eq_true rfl) (Nat.le_refl _) (Nat.le_refl _) (h1)))
theorem d_M_program_10 : decode y_M_program.2.1 10 = .ok (.putfield 170, 3) := by decide +kernel
theorem d_M_program_13 : decode y_M_program.2.1 13 = .ok (.iload_n 1, 1) := by decide +kernel
theorem s_M_program_10 : aw_VS y_M_program 10 [o_putI 9 3, o_ild 1] 14 := .cons (v_putI (k := 3) k_M (by decide) rfl (Or.inl ⟨rfl, Or.inl w_1464⟩) d_M_program_10) (.cons (v_iload_n (i := 1) d_M_program_13 rfl) .nil)
theorem d_M_program_14 : decode y_M_program.2.1 14 = .ok (.invokestatic 344, 3) := by decide +kernel
theorem b_M_program_10 {X : aw_X} {d : Nat} {Q : Option Value → aw_H → Prop} {I : Nat → Nat → Int32} {L : Nat → Nat → Int64} {D : Nat → Nat} {v1 : Int32} {s1 : Int32}
    (h1 : aw_m X d y_M_isProgram [.int v1] (aw_s (aw_u I 69 3 s1) L D) (fun r A => aw_z X (d + 1) y_M_program Q 17 [some (.ref 69), some (.int v1)] (r.toList ++ []) A)) :
    aw_z X (d + 1) y_M_program Q 10 [some (.ref 69), some (.int v1)] [.int s1, .ref 69] (aw_s I L D) :=
  (s_M_program_10.go [some (.ref 69), some (.int v1)] [.int v1] (aw_s (aw_u I 69 3 s1) L D) rfl (z_callS (av := [.int v1]) (st := []) ok_M_isProgram (Or.inl w_1745) w_1746 d_M_program_14 rfl rfl (Nat.le_of_ble_eq_true rfl) (Nat.le_refl _) (Nat.le_refl _) (h1)))
theorem d_M_program_17 : decode y_M_program.2.1 17 = .ok (.ifCond .ne (7), 3) := by decide +kernel
theorem d_M_program_24 : decode y_M_program.2.1 24 = .ok (.aload_n 0, 1) := by decide +kernel
theorem s_M_program_24 : aw_VS y_M_program 24 [o_ald 0] 25 := .cons (v_aload_n (i := 0) d_M_program_24 rfl) .nil
theorem d_M_program_25 : decode y_M_program.2.1 25 = .ok (.invokevirtual 347, 3) := by decide +kernel
theorem d_M_program_20 : decode y_M_program.2.1 20 = .ok (.sipush (-1000), 3) := by decide +kernel
theorem s_M_program_20 : aw_VS y_M_program 20 [o_c (.int (-1000 : Int32))] 23 := .cons (v_sipush (v := (-1000 : Int32)) d_M_program_20 (by decide +kernel)) .nil
theorem d_M_program_23 : decode y_M_program.2.1 23 = .ok (.ireturn, 1) := by decide +kernel
theorem b_M_program_17 {X : aw_X} {d : Nat} {Q : Option Value → aw_H → Prop} {I : Nat → Nat → Int32} {L : Nat → Nat → Int64} {D : Nat → Nat} {v1 : Int32} {s0 : Int32}
    (h1 : ¬ s0 = 0 → aw_m X d y_M_layEmpty [.ref 69] (aw_s I L D) (fun r A => aw_z X (d + 1) y_M_program Q 28 [some (.ref 69), some (.int v1)] (r.toList ++ []) A))
    (h2 : s0 = 0 → Q (some (.int (-1000 : Int32))) (aw_s I L D)) :
    aw_z X (d + 1) y_M_program Q 17 [some (.ref 69), some (.int v1)] [.int s0] (aw_s I L D) :=
  (z_if_ne (tgt := 24) d_M_program_17 rfl (fun q1 => (s_M_program_24.go [some (.ref 69), some (.int v1)] [.ref 69] (aw_s I L D) rfl (z_callV (av := []) (st := []) ok_M_layEmpty (Or.inl w_1748) w_1750 w_72 k_M d_M_program_25 rfl (aw_lt (o := 69) rfl) rfl rfl (Nat.le_of_ble_eq_true rfl) (Nat.le_refl _) (Nat.le_refl _) (h1 q1)))) (fun q2 => (s_M_program_20.go [some (.ref 69), some (.int v1)] [.int (-1000 : Int32)] (aw_s I L D) rfl (z_iret d_M_program_23 rfl rfl (h2 q2)))))
theorem d_M_program_28 : decode y_M_program.2.1 28 = .ok (.aload_n 0, 1) := by decide +kernel
theorem s_M_program_28 : aw_VS y_M_program 28 [o_ald 0] 29 := .cons (v_aload_n (i := 0) d_M_program_28 rfl) .nil
theorem d_M_program_29 : decode y_M_program.2.1 29 = .ok (.invokevirtual 350, 3) := by decide +kernel
theorem b_M_program_28 {X : aw_X} {d : Nat} {Q : Option Value → aw_H → Prop} {I : Nat → Nat → Int32} {L : Nat → Nat → Int64} {D : Nat → Nat} {v1 : Int32}
    (h1 : aw_m X d y_M_readProgram [.ref 69] (aw_s I L D) (fun r A => aw_z X (d + 1) y_M_program Q 32 [some (.ref 69), some (.int v1)] (r.toList ++ []) A)) :
    aw_z X (d + 1) y_M_program Q 28 [some (.ref 69), some (.int v1)] [] (aw_s I L D) :=
  (s_M_program_28.go [some (.ref 69), some (.int v1)] [.ref 69] (aw_s I L D) rfl (z_callV (av := []) (st := []) ok_M_readProgram (Or.inl w_1752) w_1754 w_73 k_M d_M_program_29 rfl (aw_lt (o := 69) rfl) rfl rfl (Nat.le_of_ble_eq_true rfl) (Nat.le_refl _) (Nat.le_refl _) (h1)))
theorem d_M_program_32 : decode y_M_program.2.1 32 = .ok (.ifCond .ne (10), 3) := by decide +kernel
theorem d_M_program_42 : decode y_M_program.2.1 42 = .ok (.aload_n 0, 1) := by decide +kernel
theorem d_M_program_43 : decode y_M_program.2.1 43 = .ok (.iconst 5, 1) := by decide +kernel
theorem d_M_program_44 : decode y_M_program.2.1 44 = .ok (.iload_n 1, 1) := by decide +kernel
theorem s_M_program_42 : aw_VS y_M_program 42 [o_ald 0, o_c (.int (5 : Int32)), o_ild 1] 45 := .cons (v_aload_n (i := 0) d_M_program_42 rfl) (.cons (v_iconst (v := (5 : Int32)) d_M_program_43 (by decide +kernel)) (.cons (v_iload_n (i := 1) d_M_program_44 rfl) .nil))
theorem d_M_program_45 : decode y_M_program.2.1 45 = .ok (.invokevirtual 353, 3) := by decide +kernel
theorem d_M_program_35 : decode y_M_program.2.1 35 = .ok (.iconst (-1), 1) := by decide +kernel
theorem d_M_program_36 : decode y_M_program.2.1 36 = .ok (.aload_n 0, 1) := by decide +kernel
theorem d_M_program_37 : decode y_M_program.2.1 37 = .ok (.getfield 213, 3) := by decide +kernel
theorem d_M_program_40 : decode y_M_program.2.1 40 = .ok (.isub, 1) := by decide +kernel
theorem s_M_program_35 : aw_VS y_M_program 35 [o_c (.int (-1 : Int32)), o_ald 0, o_getI 9 10, o_i2 (fun x z => x - z)] 41 := .cons (v_iconst (v := (-1 : Int32)) d_M_program_35 (by decide +kernel)) (.cons (v_aload_n (i := 0) d_M_program_36 rfl) (.cons (v_getI (k := 10) k_M (by decide) (Or.inl rfl) (Or.inl w_1471) d_M_program_37) (.cons (v_isub d_M_program_40) .nil)))
theorem d_M_program_41 : decode y_M_program.2.1 41 = .ok (.ireturn, 1) := by decide +kernel
theorem b_M_program_32 {X : aw_X} {d : Nat} {Q : Option Value → aw_H → Prop} {I : Nat → Nat → Int32} {L : Nat → Nat → Int64} {D : Nat → Nat} {v1 : Int32} {s0 : Int32}
    (h1 : ¬ s0 = 0 → aw_m X d y_M_copy [.ref 69, .int (5 : Int32), .int v1] (aw_s I L D) (fun r A => aw_z X (d + 1) y_M_program Q 48 [some (.ref 69), some (.int v1)] (r.toList ++ []) A))
    (h2 : s0 = 0 → Q (some (.int ((-1 : Int32) - (I 69 10)))) (aw_s I L D)) :
    aw_z X (d + 1) y_M_program Q 32 [some (.ref 69), some (.int v1)] [.int s0] (aw_s I L D) :=
  (z_if_ne (tgt := 42) d_M_program_32 rfl (fun q1 => (s_M_program_42.go [some (.ref 69), some (.int v1)] [.int v1, .int (5 : Int32), .ref 69] (aw_s I L D) rfl (z_callV (av := [.int (5 : Int32), .int v1]) (st := []) ok_M_copy (Or.inl w_1892) w_1894 w_103 k_M d_M_program_45 rfl (aw_lt (o := 69) rfl) rfl rfl (Nat.le_of_ble_eq_true rfl) (Nat.le_refl _) (Nat.le_refl _) (h1 q1)))) (fun q2 => (s_M_program_35.go [some (.ref 69), some (.int v1)] [.int ((-1 : Int32) - (I 69 10))] (aw_s I L D) rfl (z_iret d_M_program_41 rfl rfl (h2 q2)))))
theorem d_M_program_48 : decode y_M_program.2.1 48 = .ok (.aload_n 0, 1) := by decide +kernel
theorem d_M_program_49 : decode y_M_program.2.1 49 = .ok (.getfield 25, 3) := by decide +kernel
theorem d_M_program_52 : decode y_M_program.2.1 52 = .ok (.iload_n 1, 1) := by decide +kernel
theorem s_M_program_48 : aw_VS y_M_program 48 [o_ald 0, o_getA 9 16, o_ild 1] 53 := .cons (v_aload_n (i := 0) d_M_program_48 rfl) (.cons (v_getA (k := 16) k_M (by decide) rfl (Or.inl w_1477) d_M_program_49) (.cons (v_iload_n (i := 1) d_M_program_52 rfl) .nil))
theorem d_M_program_53 : decode y_M_program.2.1 53 = .ok (.iaload, 1) := by decide +kernel
theorem d_M_program_54 : decode y_M_program.2.1 54 = .ok (.ireturn, 1) := by decide +kernel
theorem b_M_program_48 {X : aw_X} {d : Nat} {Q : Option Value → aw_H → Prop} {I : Nat → Nat → Int32} {L : Nat → Nat → Int64} {D : Nat → Nat} {v1 : Int32}
    (h1 : vp_in v1 7)
    (h2 : Q (some (.int (I 75 v1.toNatClampNeg))) (aw_s I L D)) :
    aw_z X (d + 1) y_M_program Q 48 [some (.ref 69), some (.int v1)] [] (aw_s I L D) :=
  (s_M_program_48.go [some (.ref 69), some (.int v1)] [.int v1, .ref 75] (aw_s I L D) rfl (z_iald (n := 7) rfl (aw_lt (o := 75) rfl) (h1) d_M_program_53 (z_iret d_M_program_54 rfl rfl (h2))))
/-! M_take -/
theorem d_M_take_0 : decode y_M_take.2.1 0 = .ok (.aload_n 0, 1) := by decide +kernel
theorem d_M_take_1 : decode y_M_take.2.1 1 = .ok (.getfield 163, 3) := by decide +kernel
theorem d_M_take_4 : decode y_M_take.2.1 4 = .ok (.istore_n 1, 1) := by decide +kernel
theorem d_M_take_5 : decode y_M_take.2.1 5 = .ok (.aload_n 0, 1) := by decide +kernel
theorem d_M_take_6 : decode y_M_take.2.1 6 = .ok (.iconst 0, 1) := by decide +kernel
theorem d_M_take_7 : decode y_M_take.2.1 7 = .ok (.putfield 163, 3) := by decide +kernel
theorem d_M_take_10 : decode y_M_take.2.1 10 = .ok (.iload_n 1, 1) := by decide +kernel
theorem s_M_take_0 : aw_VS y_M_take 0 [o_ald 0, o_getI 9 2, o_ist 1, o_ald 0, o_c (.int (0 : Int32)), o_putI 9 2, o_ild 1] 11 := .cons (v_aload_n (i := 0) d_M_take_0 rfl) (.cons (v_getI (k := 2) k_M (by decide) (Or.inl rfl) (Or.inl w_1463) d_M_take_1) (.cons (v_istore_n d_M_take_4) (.cons (v_aload_n (i := 0) d_M_take_5 rfl) (.cons (v_iconst (v := (0 : Int32)) d_M_take_6 (by decide +kernel)) (.cons (v_putI (k := 2) k_M (by decide) rfl (Or.inl ⟨rfl, Or.inl w_1463⟩) d_M_take_7) (.cons (v_iload_n (i := 1) d_M_take_10 rfl) .nil))))))
theorem d_M_take_11 : decode y_M_take.2.1 11 = .ok (.ireturn, 1) := by decide +kernel
theorem b_M_take_0 {X : aw_X} {d : Nat} {Q : Option Value → aw_H → Prop} {I : Nat → Nat → Int32} {L : Nat → Nat → Int64} {D : Nat → Nat} 
    (h1 : Q (some (.int (I 69 2))) (aw_s (aw_u I 69 2 (0 : Int32)) L D)) :
    aw_z X d y_M_take Q 0 [some (.ref 69), none] [] (aw_s I L D) :=
  (s_M_take_0.go [some (.ref 69), some (.int (I 69 2))] [.int (I 69 2)] (aw_s (aw_u I 69 2 (0 : Int32)) L D) rfl (z_iret d_M_take_11 rfl rfl (h1)))
/-! M_isProgram -/
theorem d_M_isProgram_0 : decode y_M_isProgram.2.1 0 = .ok (.iload_n 0, 1) := by decide +kernel
theorem s_M_isProgram_0 : aw_VS y_M_isProgram 0 [o_ild 0] 1 := .cons (v_iload_n (i := 0) d_M_isProgram_0 rfl) .nil
theorem d_M_isProgram_1 : decode y_M_isProgram.2.1 1 = .ok (.ifCond .lt (12), 3) := by decide +kernel
theorem d_M_isProgram_13 : decode y_M_isProgram.2.1 13 = .ok (.iconst 0, 1) := by decide +kernel
theorem s_M_isProgram_13 : aw_VS y_M_isProgram 13 [o_c (.int (0 : Int32))] 14 := .cons (v_iconst (v := (0 : Int32)) d_M_isProgram_13 (by decide +kernel)) .nil
theorem d_M_isProgram_14 : decode y_M_isProgram.2.1 14 = .ok (.ireturn, 1) := by decide +kernel
theorem d_M_isProgram_4 : decode y_M_isProgram.2.1 4 = .ok (.iload_n 0, 1) := by decide +kernel
theorem d_M_isProgram_5 : decode y_M_isProgram.2.1 5 = .ok (.iconst 4, 1) := by decide +kernel
theorem s_M_isProgram_4 : aw_VS y_M_isProgram 4 [o_ild 0, o_c (.int (4 : Int32))] 6 := .cons (v_iload_n (i := 0) d_M_isProgram_4 rfl) (.cons (v_iconst (v := (4 : Int32)) d_M_isProgram_5 (by decide +kernel)) .nil)
theorem d_M_isProgram_6 : decode y_M_isProgram.2.1 6 = .ok (.if_icmp .ge (7), 3) := by decide +kernel
theorem d_M_isProgram_9 : decode y_M_isProgram.2.1 9 = .ok (.iconst 1, 1) := by decide +kernel
theorem s_M_isProgram_9 : aw_VS y_M_isProgram 9 [o_c (.int (1 : Int32))] 10 := .cons (v_iconst (v := (1 : Int32)) d_M_isProgram_9 (by decide +kernel)) .nil
theorem d_M_isProgram_10 : decode y_M_isProgram.2.1 10 = .ok (.goto (4), 3) := by decide +kernel
theorem b_M_isProgram_0 {X : aw_X} {d : Nat} {Q : Option Value → aw_H → Prop} {I : Nat → Nat → Int32} {L : Nat → Nat → Int64} {D : Nat → Nat} {v0 : Int32}
    (h1 : v0 < 0 → Q (some (.int (0 : Int32))) (aw_s I L D))
    (h2 : ¬ v0 < 0 → (4 : Int32) ≤ v0 → Q (some (.int (0 : Int32))) (aw_s I L D))
    (h3 : ¬ v0 < 0 → ¬ (4 : Int32) ≤ v0 → Q (some (.int (1 : Int32))) (aw_s I L D)) :
    aw_z X d y_M_isProgram Q 0 [some (.int v0)] [] (aw_s I L D) :=
  (s_M_isProgram_0.go [some (.int v0)] [.int v0] (aw_s I L D) rfl (z_if_lt (tgt := 13) d_M_isProgram_1 rfl (fun q1 => (s_M_isProgram_13.go [some (.int v0)] [.int (0 : Int32)] (aw_s I L D) rfl (z_iret d_M_isProgram_14 rfl (aw_nz (by decide +kernel)) (h1 q1)))) (fun q2 => (s_M_isProgram_4.go [some (.int v0)] [.int (4 : Int32), .int v0] (aw_s I L D) rfl (z_icmp_ge (tgt := 13) d_M_isProgram_6 rfl (fun q3 => (s_M_isProgram_13.go [some (.int v0)] [.int (0 : Int32)] (aw_s I L D) rfl (z_iret d_M_isProgram_14 rfl (aw_nz (by decide +kernel)) (h2 q2 q3)))) (fun q4 => (s_M_isProgram_9.go [some (.int v0)] [.int (1 : Int32)] (aw_s I L D) rfl (z_goto (tgt := 14) d_M_isProgram_10 rfl (z_iret d_M_isProgram_14 rfl (aw_nz (by decide +kernel)) (h3 q2 q4))))))))))
/-! M_layEmpty -/
theorem d_M_layEmpty_0 : decode y_M_layEmpty.2.1 0 = .ok (.aload_n 0, 1) := by decide +kernel
theorem d_M_layEmpty_1 : decode y_M_layEmpty.2.1 1 = .ok (.getfield 356, 3) := by decide +kernel
theorem s_M_layEmpty_0 : aw_VS y_M_layEmpty 0 [o_ald 0, o_getI 9 32] 4 := .cons (v_aload_n (i := 0) d_M_layEmpty_0 rfl) (.cons (v_getI (k := 32) k_M (by decide) (Or.inr rfl) (Or.inl w_1493) d_M_layEmpty_1) .nil)
theorem d_M_layEmpty_4 : decode y_M_layEmpty.2.1 4 = .ok (.ifCond .eq (4), 3) := by decide +kernel
theorem d_M_layEmpty_8 : decode y_M_layEmpty.2.1 8 = .ok (.aload_n 0, 1) := by decide +kernel
theorem d_M_layEmpty_9 : decode y_M_layEmpty.2.1 9 = .ok (.iconst 1, 1) := by decide +kernel
theorem s_M_layEmpty_8 : aw_VS y_M_layEmpty 8 [o_ald 0, o_c (.int (1 : Int32))] 10 := .cons (v_aload_n (i := 0) d_M_layEmpty_8 rfl) (.cons (v_iconst (v := (1 : Int32)) d_M_layEmpty_9 (by decide +kernel)) .nil)
theorem d_M_layEmpty_10 : decode y_M_layEmpty.2.1 10 = .ok (.putfield 356, 3) := by decide +kernel
theorem d_M_layEmpty_13 : decode y_M_layEmpty.2.1 13 = .ok (.iconst 0, 1) := by decide +kernel
theorem d_M_layEmpty_14 : decode y_M_layEmpty.2.1 14 = .ok (.istore_n 1, 1) := by decide +kernel
theorem s_M_layEmpty_13 : aw_VS y_M_layEmpty 13 [o_c (.int (0 : Int32)), o_ist 1] 15 := .cons (v_iconst (v := (0 : Int32)) d_M_layEmpty_13 (by decide +kernel)) (.cons (v_istore_n d_M_layEmpty_14) .nil)
theorem d_M_layEmpty_7 : decode y_M_layEmpty.2.1 7 = .ok (.return_, 1) := by decide +kernel
theorem b_M_layEmpty_0 {X : aw_X} {d : Nat} {Q : Option Value → aw_H → Prop} {I : Nat → Nat → Int32} {L : Nat → Nat → Int64} {D : Nat → Nat} 
    (h1 : (I 69 32) = 0 → aw_z X d y_M_layEmpty Q 15 [some (.ref 69), some (.int (0 : Int32))] [] (aw_s (aw_u I 69 32 (1 : Int32)) L D))
    (h2 : ¬ (I 69 32) = 0 → Q none (aw_s I L D)) :
    aw_z X d y_M_layEmpty Q 0 [some (.ref 69), none] [] (aw_s I L D) :=
  (s_M_layEmpty_0.go [some (.ref 69), none] [.int (I 69 32)] (aw_s I L D) rfl (z_if_eq (tgt := 8) d_M_layEmpty_4 rfl (fun q1 => (s_M_layEmpty_8.go [some (.ref 69), none] [.int (1 : Int32), .ref 69] (aw_s I L D) rfl (z_putZ (k := 32) k_M (by decide) rfl (Or.inl ⟨rfl, Or.inl w_1493⟩) d_M_layEmpty_10 rfl (aw_lt (o := 69) rfl) (by decide +kernel) (s_M_layEmpty_13.go [some (.ref 69), some (.int (0 : Int32))] [] (aw_s (aw_u I 69 32 (1 : Int32)) L D) rfl (h1 q1))))) (fun q2 => (z_vret d_M_layEmpty_7 rfl (h2 q2)))))
theorem d_M_layEmpty_15 : decode y_M_layEmpty.2.1 15 = .ok (.iload_n 1, 1) := by decide +kernel
theorem d_M_layEmpty_16 : decode y_M_layEmpty.2.1 16 = .ok (.iconst 4, 1) := by decide +kernel
theorem s_M_layEmpty_15 : aw_VS y_M_layEmpty 15 [o_ild 1, o_c (.int (4 : Int32))] 17 := .cons (v_iload_n (i := 1) d_M_layEmpty_15 rfl) (.cons (v_iconst (v := (4 : Int32)) d_M_layEmpty_16 (by decide +kernel)) .nil)
theorem d_M_layEmpty_17 : decode y_M_layEmpty.2.1 17 = .ok (.if_icmp .ge (28), 3) := by decide +kernel
theorem d_M_layEmpty_45 : decode y_M_layEmpty.2.1 45 = .ok (.return_, 1) := by decide +kernel
theorem d_M_layEmpty_20 : decode y_M_layEmpty.2.1 20 = .ok (.aload_n 0, 1) := by decide +kernel
theorem d_M_layEmpty_21 : decode y_M_layEmpty.2.1 21 = .ok (.getfield 13, 3) := by decide +kernel
theorem d_M_layEmpty_24 : decode y_M_layEmpty.2.1 24 = .ok (.sipush 800, 3) := by decide +kernel
theorem d_M_layEmpty_27 : decode y_M_layEmpty.2.1 27 = .ok (.iload_n 1, 1) := by decide +kernel
theorem d_M_layEmpty_28 : decode y_M_layEmpty.2.1 28 = .ok (.imul, 1) := by decide +kernel
theorem d_M_layEmpty_29 : decode y_M_layEmpty.2.1 29 = .ok (.bipush 25, 2) := by decide +kernel
theorem s_M_layEmpty_20 : aw_VS y_M_layEmpty 20 [o_ald 0, o_getA 9 12, o_c (.int (800 : Int32)), o_ild 1, o_i2 (fun x z => x * z), o_c (.int (25 : Int32))] 31 := .cons (v_aload_n (i := 0) d_M_layEmpty_20 rfl) (.cons (v_getA (k := 12) k_M (by decide) rfl (Or.inl w_1473) d_M_layEmpty_21) (.cons (v_sipush (v := (800 : Int32)) d_M_layEmpty_24 (by decide +kernel)) (.cons (v_iload_n (i := 1) d_M_layEmpty_27 rfl) (.cons (v_imul d_M_layEmpty_28) (.cons (v_bipush (v := (25 : Int32)) d_M_layEmpty_29 (by decide +kernel)) .nil)))))
theorem d_M_layEmpty_31 : decode y_M_layEmpty.2.1 31 = .ok (.iastore, 1) := by decide +kernel
theorem d_M_layEmpty_32 : decode y_M_layEmpty.2.1 32 = .ok (.aload_n 0, 1) := by decide +kernel
theorem d_M_layEmpty_33 : decode y_M_layEmpty.2.1 33 = .ok (.getfield 19, 3) := by decide +kernel
theorem d_M_layEmpty_36 : decode y_M_layEmpty.2.1 36 = .ok (.iload_n 1, 1) := by decide +kernel
theorem d_M_layEmpty_37 : decode y_M_layEmpty.2.1 37 = .ok (.iconst 1, 1) := by decide +kernel
theorem s_M_layEmpty_32 : aw_VS y_M_layEmpty 32 [o_ald 0, o_getA 9 14, o_ild 1, o_c (.int (1 : Int32))] 38 := .cons (v_aload_n (i := 0) d_M_layEmpty_32 rfl) (.cons (v_getA (k := 14) k_M (by decide) rfl (Or.inl w_1475) d_M_layEmpty_33) (.cons (v_iload_n (i := 1) d_M_layEmpty_36 rfl) (.cons (v_iconst (v := (1 : Int32)) d_M_layEmpty_37 (by decide +kernel)) .nil)))
theorem d_M_layEmpty_38 : decode y_M_layEmpty.2.1 38 = .ok (.iastore, 1) := by decide +kernel
theorem d_M_layEmpty_39 : decode y_M_layEmpty.2.1 39 = .ok (.iinc 1 (1), 3) := by decide +kernel
theorem s_M_layEmpty_39 : aw_VS y_M_layEmpty 39 [o_inc 1 (1 : Int32)] 42 := .cons (v_iinc (k0 := (1 : Int32)) d_M_layEmpty_39 (by decide +kernel)) .nil
theorem d_M_layEmpty_42 : decode y_M_layEmpty.2.1 42 = .ok (.goto (-27), 3) := by decide +kernel
theorem b_M_layEmpty_15 {X : aw_X} {d : Nat} {Q : Option Value → aw_H → Prop} {I : Nat → Nat → Int32} {L : Nat → Nat → Int64} {D : Nat → Nat} {v1 : Int32}
    (h1 : (4 : Int32) ≤ v1 → Q none (aw_s I L D))
    (h2 : ¬ (4 : Int32) ≤ v1 → vp_in ((800 : Int32) * v1) 5600)
    (h3 : ¬ (4 : Int32) ≤ v1 → vp_in v1 7)
    (h4 : ¬ (4 : Int32) ≤ v1 → aw_z X d y_M_layEmpty Q 15 [some (.ref 69), some (.int (v1 + (1 : Int32)))] [] (aw_s (aw_u (aw_u I 71 (((800 : Int32) * v1).toNatClampNeg) (25 : Int32)) 73 v1.toNatClampNeg (1 : Int32)) L D)) :
    aw_z X d y_M_layEmpty Q 15 [some (.ref 69), some (.int v1)] [] (aw_s I L D) :=
  (s_M_layEmpty_15.go [some (.ref 69), some (.int v1)] [.int (4 : Int32), .int v1] (aw_s I L D) rfl (z_icmp_ge (tgt := 45) d_M_layEmpty_17 rfl (fun q1 => (z_vret d_M_layEmpty_45 rfl (h1 q1))) (fun q2 => (s_M_layEmpty_20.go [some (.ref 69), some (.int v1)] [.int (25 : Int32), .int ((800 : Int32) * v1), .ref 71] (aw_s I L D) rfl (z_iast (n := 5600) rfl (aw_lt (o := 71) rfl) (h2 q2) d_M_layEmpty_31 (s_M_layEmpty_32.go [some (.ref 69), some (.int v1)] [.int (1 : Int32), .int v1, .ref 73] (aw_s (aw_u I 71 (((800 : Int32) * v1).toNatClampNeg) (25 : Int32)) L D) rfl (z_iast (n := 7) rfl (aw_lt (o := 73) rfl) (h3 q2) d_M_layEmpty_38 (s_M_layEmpty_39.go [some (.ref 69), some (.int (v1 + (1 : Int32)))] [] (aw_s (aw_u (aw_u I 71 (((800 : Int32) * v1).toNatClampNeg) (25 : Int32)) 73 v1.toNatClampNeg (1 : Int32)) L D) rfl (z_goto (tgt := 15) d_M_layEmpty_42 rfl (h4 q2))))))))))
/-! M_readProgram -/
theorem d_M_readProgram_0 : decode y_M_readProgram.2.1 0 = .ok (.aload_n 0, 1) := by decide +kernel
theorem d_M_readProgram_1 : decode y_M_readProgram.2.1 1 = .ok (.iconst 5, 1) := by decide +kernel
theorem s_M_readProgram_0 : aw_VS y_M_readProgram 0 [o_ald 0, o_c (.int (5 : Int32))] 2 := .cons (v_aload_n (i := 0) d_M_readProgram_0 rfl) (.cons (v_iconst (v := (5 : Int32)) d_M_readProgram_1 (by decide +kernel)) .nil)
theorem d_M_readProgram_2 : decode y_M_readProgram.2.1 2 = .ok (.invokevirtual 328, 3) := by decide +kernel
theorem b_M_readProgram_0 {X : aw_X} {d : Nat} {Q : Option Value → aw_H → Prop} {I : Nat → Nat → Int32} {L : Nat → Nat → Int64} {D : Nat → Nat} 
    (h1 : aw_m X d y_M_begin [.ref 69, .int (5 : Int32)] (aw_s I L D) (fun r A => aw_z X (d + 1) y_M_readProgram Q 5 [some (.ref 69), none] (r.toList ++ []) A)) :
    aw_z X (d + 1) y_M_readProgram Q 0 [some (.ref 69), none] [] (aw_s I L D) :=
  (s_M_readProgram_0.go [some (.ref 69), none] [.int (5 : Int32), .ref 69] (aw_s I L D) rfl (z_callV (av := [.int (5 : Int32)]) (st := []) ok_M_begin (Or.inl w_1756) w_1758 w_74 k_M d_M_readProgram_2 rfl (aw_lt (o := 69) rfl) rfl rfl (Nat.le_of_ble_eq_true rfl) (Nat.le_refl _) (Nat.le_refl _) (h1)))
theorem d_M_readProgram_5 : decode y_M_readProgram.2.1 5 = .ok (.iconst 1, 1) := by decide +kernel
theorem d_M_readProgram_6 : decode y_M_readProgram.2.1 6 = .ok (.istore_n 1, 1) := by decide +kernel
theorem d_M_readProgram_7 : decode y_M_readProgram.2.1 7 = .ok (.aload_n 0, 1) := by decide +kernel
theorem d_M_readProgram_8 : decode y_M_readProgram.2.1 8 = .ok (.getfield 22, 3) := by decide +kernel
theorem d_M_readProgram_11 : decode y_M_readProgram.2.1 11 = .ok (.iconst 5, 1) := by decide +kernel
theorem d_M_readProgram_12 : decode y_M_readProgram.2.1 12 = .ok (.iconst 0, 1) := by decide +kernel
theorem s_M_readProgram_5 : aw_VS y_M_readProgram 5 [o_c (.int (1 : Int32)), o_ist 1, o_ald 0, o_getA 9 15, o_c (.int (5 : Int32)), o_c (.int (0 : Int32))] 13 := .cons (v_iconst (v := (1 : Int32)) d_M_readProgram_5 (by decide +kernel)) (.cons (v_istore_n d_M_readProgram_6) (.cons (v_aload_n (i := 0) d_M_readProgram_7 rfl) (.cons (v_getA (k := 15) k_M (by decide) rfl (Or.inl w_1476) d_M_readProgram_8) (.cons (v_iconst (v := (5 : Int32)) d_M_readProgram_11 (by decide +kernel)) (.cons (v_iconst (v := (0 : Int32)) d_M_readProgram_12 (by decide +kernel)) .nil)))))
theorem d_M_readProgram_13 : decode y_M_readProgram.2.1 13 = .ok (.iastore, 1) := by decide +kernel
theorem b_M_readProgram_5 {X : aw_X} {d : Nat} {Q : Option Value → aw_H → Prop} {I : Nat → Nat → Int32} {L : Nat → Nat → Int64} {D : Nat → Nat} 
    (h1 : aw_z X (d + 1) y_M_readProgram Q 14 [some (.ref 69), some (.int (1 : Int32))] [] (aw_s (aw_u I 74 5 (0 : Int32)) L D)) :
    aw_z X (d + 1) y_M_readProgram Q 5 [some (.ref 69), none] [] (aw_s I L D) :=
  (s_M_readProgram_5.go [some (.ref 69), some (.int (1 : Int32))] [.int (0 : Int32), .int (5 : Int32), .ref 74] (aw_s I L D) rfl (z_iast (n := 7) rfl (aw_lt (o := 74) rfl) (aw_lin (by decide +kernel) (by decide +kernel)) d_M_readProgram_13 (h1)))
theorem d_M_readProgram_14 : decode y_M_readProgram.2.1 14 = .ok (.aload_n 0, 1) := by decide +kernel
theorem d_M_readProgram_15 : decode y_M_readProgram.2.1 15 = .ok (.getfield 179, 3) := by decide +kernel
theorem s_M_readProgram_14 : aw_VS y_M_readProgram 14 [o_ald 0, o_getI 9 6] 18 := .cons (v_aload_n (i := 0) d_M_readProgram_14 rfl) (.cons (v_getI (k := 6) k_M (by decide) (Or.inl rfl) (Or.inl w_1467) d_M_readProgram_15) .nil)
theorem d_M_readProgram_18 : decode y_M_readProgram.2.1 18 = .ok (.ifCond .ne (10), 3) := by decide +kernel
theorem d_M_readProgram_21 : decode y_M_readProgram.2.1 21 = .ok (.aload_n 0, 1) := by decide +kernel
theorem d_M_readProgram_22 : decode y_M_readProgram.2.1 22 = .ok (.getfield 285, 3) := by decide +kernel
theorem s_M_readProgram_21 : aw_VS y_M_readProgram 21 [o_ald 0, o_getI 9 26] 25 := .cons (v_aload_n (i := 0) d_M_readProgram_21 rfl) (.cons (v_getI (k := 26) k_M (by decide) (Or.inl rfl) (Or.inl w_1487) d_M_readProgram_22) .nil)
theorem d_M_readProgram_25 : decode y_M_readProgram.2.1 25 = .ok (.ifCond .le (109), 3) := by decide +kernel
theorem d_M_readProgram_134 : decode y_M_readProgram.2.1 134 = .ok (.aload_n 0, 1) := by decide +kernel
theorem d_M_readProgram_135 : decode y_M_readProgram.2.1 135 = .ok (.bipush 25, 2) := by decide +kernel
theorem d_M_readProgram_137 : decode y_M_readProgram.2.1 137 = .ok (.iconst 0, 1) := by decide +kernel
theorem s_M_readProgram_134 : aw_VS y_M_readProgram 134 [o_ald 0, o_c (.int (25 : Int32)), o_c (.int (0 : Int32))] 138 := .cons (v_aload_n (i := 0) d_M_readProgram_134 rfl) (.cons (v_bipush (v := (25 : Int32)) d_M_readProgram_135 (by decide +kernel)) (.cons (v_iconst (v := (0 : Int32)) d_M_readProgram_137 (by decide +kernel)) .nil))
theorem d_M_readProgram_138 : decode y_M_readProgram.2.1 138 = .ok (.invokevirtual 238, 3) := by decide +kernel
theorem b_M_readProgram_14 {X : aw_X} {d : Nat} {Q : Option Value → aw_H → Prop} {I : Nat → Nat → Int32} {L : Nat → Nat → Int64} {D : Nat → Nat} {v1 : Int32}
    (h1 : ¬ (I 69 6) = 0 → aw_z X (d + 1) y_M_readProgram Q 28 [some (.ref 69), some (.int v1)] [] (aw_s I L D))
    (h2 : (I 69 6) = 0 → (I 69 26) ≤ 0 → aw_m X d y_M_emit [.ref 69, .int (25 : Int32), .int (0 : Int32)] (aw_s I L D) (fun r A => aw_z X (d + 1) y_M_readProgram Q 141 [some (.ref 69), none] (r.toList ++ []) A))
    (h3 : (I 69 6) = 0 → ¬ (I 69 26) ≤ 0 → aw_z X (d + 1) y_M_readProgram Q 28 [some (.ref 69), some (.int v1)] [] (aw_s I L D)) :
    aw_z X (d + 1) y_M_readProgram Q 14 [some (.ref 69), some (.int v1)] [] (aw_s I L D) :=
  (s_M_readProgram_14.go [some (.ref 69), some (.int v1)] [.int (I 69 6)] (aw_s I L D) rfl (z_if_ne (tgt := 28) d_M_readProgram_18 rfl (fun q1 => (h1 q1)) (fun q2 => (s_M_readProgram_21.go [some (.ref 69), some (.int v1)] [.int (I 69 26)] (aw_s I L D) rfl (z_if_le (tgt := 134) d_M_readProgram_25 rfl (fun q3 => (s_M_readProgram_134.go [some (.ref 69), some (.int v1)] [.int (0 : Int32), .int (25 : Int32), .ref 69] (aw_s I L D) rfl (z_callV (av := [.int (25 : Int32), .int (0 : Int32)]) (st := []) ok_M_emit (Or.inl w_1787) w_1789 w_79 k_M d_M_readProgram_138 rfl (aw_lt (o := 69) rfl) rfl rfl (Nat.le_of_ble_eq_true rfl) (Nat.le_refl _) (Nat.le_refl _) (aw_C.mono (h2 q2 q3) (fun _ _ zz => aw_Z.weak (ls' := [some (.ref 69), none]) zz (Nat.le_of_ble_eq_true rfl) ⟨Or.inr rfl, ⟨Or.inl rfl, trivial⟩⟩))))) (fun q4 => (h3 q2 q4)))))))
theorem d_M_readProgram_28 : decode y_M_readProgram.2.1 28 = .ok (.aload_n 0, 1) := by decide +kernel
theorem d_M_readProgram_29 : decode y_M_readProgram.2.1 29 = .ok (.getfield 285, 3) := by decide +kernel
theorem s_M_readProgram_28 : aw_VS y_M_readProgram 28 [o_ald 0, o_getI 9 26] 32 := .cons (v_aload_n (i := 0) d_M_readProgram_28 rfl) (.cons (v_getI (k := 26) k_M (by decide) (Or.inl rfl) (Or.inl w_1487) d_M_readProgram_29) .nil)
theorem d_M_readProgram_32 : decode y_M_readProgram.2.1 32 = .ok (.ifCond .le (45), 3) := by decide +kernel
theorem d_M_readProgram_35 : decode y_M_readProgram.2.1 35 = .ok (.aload_n 0, 1) := by decide +kernel
theorem d_M_readProgram_36 : decode y_M_readProgram.2.1 36 = .ok (.bipush 125, 2) := by decide +kernel
theorem s_M_readProgram_35 : aw_VS y_M_readProgram 35 [o_ald 0, o_c (.int (125 : Int32))] 38 := .cons (v_aload_n (i := 0) d_M_readProgram_35 rfl) (.cons (v_bipush (v := (125 : Int32)) d_M_readProgram_36 (by decide +kernel)) .nil)
theorem d_M_readProgram_38 : decode y_M_readProgram.2.1 38 = .ok (.invokevirtual 216, 3) := by decide +kernel
theorem b_M_readProgram_28 {X : aw_X} {d : Nat} {Q : Option Value → aw_H → Prop} {I : Nat → Nat → Int32} {L : Nat → Nat → Int64} {D : Nat → Nat} {v1 : Int32}
    (h1 : (I 69 26) ≤ 0 → aw_z X (d + 1) y_M_readProgram Q 77 [some (.ref 69), some (.int v1)] [] (aw_s I L D))
    (h2 : ¬ (I 69 26) ≤ 0 → aw_m X d y_M_isSign [.ref 69, .int (125 : Int32)] (aw_s I L D) (fun r A => aw_z X (d + 1) y_M_readProgram Q 41 [some (.ref 69), some (.int v1)] (r.toList ++ []) A)) :
    aw_z X (d + 1) y_M_readProgram Q 28 [some (.ref 69), some (.int v1)] [] (aw_s I L D) :=
  (s_M_readProgram_28.go [some (.ref 69), some (.int v1)] [.int (I 69 26)] (aw_s I L D) rfl (z_if_le (tgt := 77) d_M_readProgram_32 rfl (fun q1 => (h1 q1)) (fun q2 => (s_M_readProgram_35.go [some (.ref 69), some (.int v1)] [.int (125 : Int32), .ref 69] (aw_s I L D) rfl (z_callV (av := [.int (125 : Int32)]) (st := []) ok_M_isSign (Or.inl w_1779) w_1781 w_77 k_M d_M_readProgram_38 rfl (aw_lt (o := 69) rfl) rfl rfl (Nat.le_of_ble_eq_true rfl) (Nat.le_refl _) (Nat.le_refl _) (h2 q2))))))
theorem d_M_readProgram_141 : decode y_M_readProgram.2.1 141 = .ok (.pop, 1) := by decide +kernel
theorem d_M_readProgram_142 : decode y_M_readProgram.2.1 142 = .ok (.aload_n 0, 1) := by decide +kernel
theorem d_M_readProgram_143 : decode y_M_readProgram.2.1 143 = .ok (.getfield 19, 3) := by decide +kernel
theorem d_M_readProgram_146 : decode y_M_readProgram.2.1 146 = .ok (.iconst 5, 1) := by decide +kernel
theorem d_M_readProgram_147 : decode y_M_readProgram.2.1 147 = .ok (.aload_n 0, 1) := by decide +kernel
theorem d_M_readProgram_148 : decode y_M_readProgram.2.1 148 = .ok (.getfield 228, 3) := by decide +kernel
theorem s_M_readProgram_141 : aw_VS y_M_readProgram 141 [o_pop, o_ald 0, o_getA 9 14, o_c (.int (5 : Int32)), o_ald 0, o_getI 9 30] 151 := .cons (v_pop d_M_readProgram_141) (.cons (v_aload_n (i := 0) d_M_readProgram_142 rfl) (.cons (v_getA (k := 14) k_M (by decide) rfl (Or.inl w_1475) d_M_readProgram_143) (.cons (v_iconst (v := (5 : Int32)) d_M_readProgram_146 (by decide +kernel)) (.cons (v_aload_n (i := 0) d_M_readProgram_147 rfl) (.cons (v_getI (k := 30) k_M (by decide) (Or.inl rfl) (Or.inl w_1491) d_M_readProgram_148) .nil)))))
theorem d_M_readProgram_151 : decode y_M_readProgram.2.1 151 = .ok (.iastore, 1) := by decide +kernel
theorem d_M_readProgram_152 : decode y_M_readProgram.2.1 152 = .ok (.iconst 1, 1) := by decide +kernel
theorem s_M_readProgram_152 : aw_VS y_M_readProgram 152 [o_c (.int (1 : Int32))] 153 := .cons (v_iconst (v := (1 : Int32)) d_M_readProgram_152 (by decide +kernel)) .nil
theorem d_M_readProgram_153 : decode y_M_readProgram.2.1 153 = .ok (.ireturn, 1) := by decide +kernel
theorem b_M_readProgram_141 {X : aw_X} {d : Nat} {Q : Option Value → aw_H → Prop} {I : Nat → Nat → Int32} {L : Nat → Nat → Int64} {D : Nat → Nat} {s0 : Int32}
    (h1 : Q (some (.int (1 : Int32))) (aw_s (aw_u I 73 5 (I 69 30)) L D)) :
    aw_z X (d + 1) y_M_readProgram Q 141 [some (.ref 69), none] [.int s0] (aw_s I L D) :=
  (s_M_readProgram_141.go [some (.ref 69), none] [.int (I 69 30), .int (5 : Int32), .ref 73] (aw_s I L D) rfl (z_iast (n := 7) rfl (aw_lt (o := 73) rfl) (aw_lin (by decide +kernel) (by decide +kernel)) d_M_readProgram_151 (s_M_readProgram_152.go [some (.ref 69), none] [.int (1 : Int32)] (aw_s (aw_u I 73 5 (I 69 30)) L D) rfl (z_iret d_M_readProgram_153 rfl (aw_nz (by decide +kernel)) (h1)))))
theorem d_M_readProgram_77 : decode y_M_readProgram.2.1 77 = .ok (.iload_n 1, 1) := by decide +kernel
theorem s_M_readProgram_77 : aw_VS y_M_readProgram 77 [o_ild 1] 78 := .cons (v_iload_n (i := 1) d_M_readProgram_77 rfl) .nil
theorem d_M_readProgram_78 : decode y_M_readProgram.2.1 78 = .ok (.ifCond .eq (38), 3) := by decide +kernel
theorem d_M_readProgram_81 : decode y_M_readProgram.2.1 81 = .ok (.aload_n 0, 1) := by decide +kernel
theorem d_M_readProgram_82 : decode y_M_readProgram.2.1 82 = .ok (.getfield 285, 3) := by decide +kernel
theorem s_M_readProgram_81 : aw_VS y_M_readProgram 81 [o_ald 0, o_getI 9 26] 85 := .cons (v_aload_n (i := 0) d_M_readProgram_81 rfl) (.cons (v_getI (k := 26) k_M (by decide) (Or.inl rfl) (Or.inl w_1487) d_M_readProgram_82) .nil)
theorem d_M_readProgram_85 : decode y_M_readProgram.2.1 85 = .ok (.ifCond .ne (31), 3) := by decide +kernel
theorem d_M_readProgram_88 : decode y_M_readProgram.2.1 88 = .ok (.aload_n 0, 1) := by decide +kernel
theorem d_M_readProgram_89 : decode y_M_readProgram.2.1 89 = .ok (.bipush 112, 2) := by decide +kernel
theorem d_M_readProgram_91 : decode y_M_readProgram.2.1 91 = .ok (.bipush 114, 2) := by decide +kernel
theorem d_M_readProgram_93 : decode y_M_readProgram.2.1 93 = .ok (.bipush 111, 2) := by decide +kernel
theorem d_M_readProgram_95 : decode y_M_readProgram.2.1 95 = .ok (.bipush 99, 2) := by decide +kernel
theorem d_M_readProgram_97 : decode y_M_readProgram.2.1 97 = .ok (.iconst 0, 1) := by decide +kernel
theorem s_M_readProgram_88 : aw_VS y_M_readProgram 88 [o_ald 0, o_c (.int (112 : Int32)), o_c (.int (114 : Int32)), o_c (.int (111 : Int32)), o_c (.int (99 : Int32)), o_c (.int (0 : Int32))] 98 := .cons (v_aload_n (i := 0) d_M_readProgram_88 rfl) (.cons (v_bipush (v := (112 : Int32)) d_M_readProgram_89 (by decide +kernel)) (.cons (v_bipush (v := (114 : Int32)) d_M_readProgram_91 (by decide +kernel)) (.cons (v_bipush (v := (111 : Int32)) d_M_readProgram_93 (by decide +kernel)) (.cons (v_bipush (v := (99 : Int32)) d_M_readProgram_95 (by decide +kernel)) (.cons (v_iconst (v := (0 : Int32)) d_M_readProgram_97 (by decide +kernel)) .nil)))))
theorem d_M_readProgram_98 : decode y_M_readProgram.2.1 98 = .ok (.invokestatic 244, 3) := by decide +kernel
theorem b_M_readProgram_77 {X : aw_X} {d : Nat} {Q : Option Value → aw_H → Prop} {I : Nat → Nat → Int32} {L : Nat → Nat → Int64} {D : Nat → Nat} {v1 : Int32}
    (h1 : v1 = 0 → aw_z X (d + 1) y_M_readProgram Q 116 [some (.ref 69), some (.int v1)] [] (aw_s I L D))
    (h2 : ¬ v1 = 0 → ¬ (I 69 26) = 0 → aw_z X (d + 1) y_M_readProgram Q 116 [some (.ref 69), some (.int v1)] [] (aw_s I L D))
    (h3 : ¬ v1 = 0 → (I 69 26) = 0 → aw_m X d y_M_spelt [.int (112 : Int32), .int (114 : Int32), .int (111 : Int32), .int (99 : Int32), .int (0 : Int32)] (aw_s I L D) (fun r A => aw_z X (d + 1) y_M_readProgram Q 101 [some (.ref 69), some (.int v1)] (r.toList ++ [.ref 69]) A)) :
    aw_z X (d + 1) y_M_readProgram Q 77 [some (.ref 69), some (.int v1)] [] (aw_s I L D) :=
  (s_M_readProgram_77.go [some (.ref 69), some (.int v1)] [.int v1] (aw_s I L D) rfl (z_if_eq (tgt := 116) d_M_readProgram_78 rfl (fun q1 => (h1 q1)) (fun q2 => (s_M_readProgram_81.go [some (.ref 69), some (.int v1)] [.int (I 69 26)] (aw_s I L D) rfl (z_if_ne (tgt := 116) d_M_readProgram_85 rfl (fun q3 => (h2 q2 q3)) (fun q4 => (s_M_readProgram_88.go [some (.ref 69), some (.int v1)] [.int (0 : Int32), .int (99 : Int32), .int (111 : Int32), .int (114 : Int32), .int (112 : Int32), .ref 69] (aw_s I L D) rfl (z_callS (av := [.int (112 : Int32), .int (114 : Int32), .int (111 : Int32), .int (99 : Int32), .int (0 : Int32)]) (st := [.ref 69]) ok_M_spelt (Or.inl w_1795) w_1796 d_M_readProgram_98 rfl rfl (Nat.le_of_ble_eq_true rfl) (Nat.le_refl _) (Nat.le_refl _) (h3 q2 q4)))))))))
theorem d_M_readProgram_41 : decode y_M_readProgram.2.1 41 = .ok (.ifCond .eq (36), 3) := by decide +kernel
theorem d_M_readProgram_44 : decode y_M_readProgram.2.1 44 = .ok (.aload_n 0, 1) := by decide +kernel
theorem s_M_readProgram_44 : aw_VS y_M_readProgram 44 [o_ald 0] 45 := .cons (v_aload_n (i := 0) d_M_readProgram_44 rfl) .nil
theorem d_M_readProgram_45 : decode y_M_readProgram.2.1 45 = .ok (.invokevirtual 331, 3) := by decide +kernel
theorem b_M_readProgram_41 {X : aw_X} {d : Nat} {Q : Option Value → aw_H → Prop} {I : Nat → Nat → Int32} {L : Nat → Nat → Int64} {D : Nat → Nat} {v1 : Int32} {s0 : Int32}
    (h1 : s0 = 0 → aw_z X (d + 1) y_M_readProgram Q 77 [some (.ref 69), some (.int v1)] [] (aw_s I L D))
    (h2 : ¬ s0 = 0 → aw_m X d y_M_close [.ref 69] (aw_s I L D) (fun r A => aw_z X (d + 1) y_M_readProgram Q 48 [some (.ref 69), some (.int v1)] (r.toList ++ []) A)) :
    aw_z X (d + 1) y_M_readProgram Q 41 [some (.ref 69), some (.int v1)] [.int s0] (aw_s I L D) :=
  (z_if_eq (tgt := 77) d_M_readProgram_41 rfl (fun q1 => (h1 q1)) (fun q2 => (s_M_readProgram_44.go [some (.ref 69), some (.int v1)] [.ref 69] (aw_s I L D) rfl (z_callV (av := []) (st := []) ok_M_close (Or.inl w_1783) w_1785 w_78 k_M d_M_readProgram_45 rfl (aw_lt (o := 69) rfl) rfl rfl (Nat.le_of_ble_eq_true rfl) (Nat.le_refl _) (Nat.le_refl _) (h2 q2)))))
theorem d_M_readProgram_116 : decode y_M_readProgram.2.1 116 = .ok (.aload_n 0, 1) := by decide +kernel
theorem d_M_readProgram_117 : decode y_M_readProgram.2.1 117 = .ok (.getfield 285, 3) := by decide +kernel
theorem s_M_readProgram_116 : aw_VS y_M_readProgram 116 [o_ald 0, o_getI 9 26] 120 := .cons (v_aload_n (i := 0) d_M_readProgram_116 rfl) (.cons (v_getI (k := 26) k_M (by decide) (Or.inl rfl) (Or.inl w_1487) d_M_readProgram_117) .nil)
theorem d_M_readProgram_120 : decode y_M_readProgram.2.1 120 = .ok (.ifCond .ne (5), 3) := by decide +kernel
theorem d_M_readProgram_123 : decode y_M_readProgram.2.1 123 = .ok (.iconst 0, 1) := by decide +kernel
theorem d_M_readProgram_124 : decode y_M_readProgram.2.1 124 = .ok (.istore_n 1, 1) := by decide +kernel
theorem s_M_readProgram_123 : aw_VS y_M_readProgram 123 [o_c (.int (0 : Int32)), o_ist 1] 125 := .cons (v_iconst (v := (0 : Int32)) d_M_readProgram_123 (by decide +kernel)) (.cons (v_istore_n d_M_readProgram_124) .nil)
theorem b_M_readProgram_116 {X : aw_X} {d : Nat} {Q : Option Value → aw_H → Prop} {I : Nat → Nat → Int32} {L : Nat → Nat → Int64} {D : Nat → Nat} {v1 : Int32}
    (h1 : ¬ (I 69 26) = 0 → aw_z X (d + 1) y_M_readProgram Q 125 [some (.ref 69), some (.int v1)] [] (aw_s I L D))
    (h2 : (I 69 26) = 0 → aw_z X (d + 1) y_M_readProgram Q 125 [some (.ref 69), some (.int (0 : Int32))] [] (aw_s I L D)) :
    aw_z X (d + 1) y_M_readProgram Q 116 [some (.ref 69), some (.int v1)] [] (aw_s I L D) :=
  (s_M_readProgram_116.go [some (.ref 69), some (.int v1)] [.int (I 69 26)] (aw_s I L D) rfl (z_if_ne (tgt := 125) d_M_readProgram_120 rfl (fun q1 => (h1 q1)) (fun q2 => (s_M_readProgram_123.go [some (.ref 69), some (.int (0 : Int32))] [] (aw_s I L D) rfl (h2 q2)))))
theorem d_M_readProgram_101 : decode y_M_readProgram.2.1 101 = .ok (.invokevirtual 248, 3) := by decide +kernel
theorem b_M_readProgram_101 {X : aw_X} {d : Nat} {Q : Option Value → aw_H → Prop} {I : Nat → Nat → Int32} {L : Nat → Nat → Int64} {D : Nat → Nat} {v1 : Int32} {s1 : Int64}
    (h1 : aw_m X d y_M_isKey [.ref 69, .long s1] (aw_s I L D) (fun r A => aw_z X (d + 1) y_M_readProgram Q 104 [some (.ref 69), some (.int v1)] (r.toList ++ []) A)) :
    aw_z X (d + 1) y_M_readProgram Q 101 [some (.ref 69), some (.int v1)] [.long s1, .ref 69] (aw_s I L D) :=
  (z_callV (av := [.long s1]) (st := []) ok_M_isKey (Or.inl w_1798) w_1800 w_81 k_M d_M_readProgram_101 rfl (aw_lt (o := 69) rfl) rfl rfl (Nat.le_of_ble_eq_true rfl) (Nat.le_refl _) (Nat.le_refl _) (h1))
theorem d_M_readProgram_48 : decode y_M_readProgram.2.1 48 = .ok (.ifCond .ne (5), 3) := by decide +kernel
theorem d_M_readProgram_53 : decode y_M_readProgram.2.1 53 = .ok (.aload_n 0, 1) := by decide +kernel
theorem d_M_readProgram_54 : decode y_M_readProgram.2.1 54 = .ok (.getfield 285, 3) := by decide +kernel
theorem s_M_readProgram_53 : aw_VS y_M_readProgram 53 [o_ald 0, o_getI 9 26] 57 := .cons (v_aload_n (i := 0) d_M_readProgram_53 rfl) (.cons (v_getI (k := 26) k_M (by decide) (Or.inl rfl) (Or.inl w_1487) d_M_readProgram_54) .nil)
theorem d_M_readProgram_57 : decode y_M_readProgram.2.1 57 = .ok (.ifCond .ne (-43), 3) := by decide +kernel
theorem d_M_readProgram_60 : decode y_M_readProgram.2.1 60 = .ok (.iload_n 1, 1) := by decide +kernel
theorem s_M_readProgram_60 : aw_VS y_M_readProgram 60 [o_ild 1] 61 := .cons (v_iload_n (i := 1) d_M_readProgram_60 rfl) .nil
theorem d_M_readProgram_61 : decode y_M_readProgram.2.1 61 = .ok (.ifCond .eq (-47), 3) := by decide +kernel
theorem d_M_readProgram_64 : decode y_M_readProgram.2.1 64 = .ok (.aload_n 0, 1) := by decide +kernel
theorem d_M_readProgram_65 : decode y_M_readProgram.2.1 65 = .ok (.getfield 22, 3) := by decide +kernel
theorem d_M_readProgram_68 : decode y_M_readProgram.2.1 68 = .ok (.iconst 5, 1) := by decide +kernel
theorem d_M_readProgram_69 : decode y_M_readProgram.2.1 69 = .ok (.aload_n 0, 1) := by decide +kernel
theorem d_M_readProgram_70 : decode y_M_readProgram.2.1 70 = .ok (.getfield 228, 3) := by decide +kernel
theorem s_M_readProgram_64 : aw_VS y_M_readProgram 64 [o_ald 0, o_getA 9 15, o_c (.int (5 : Int32)), o_ald 0, o_getI 9 30] 73 := .cons (v_aload_n (i := 0) d_M_readProgram_64 rfl) (.cons (v_getA (k := 15) k_M (by decide) rfl (Or.inl w_1476) d_M_readProgram_65) (.cons (v_iconst (v := (5 : Int32)) d_M_readProgram_68 (by decide +kernel)) (.cons (v_aload_n (i := 0) d_M_readProgram_69 rfl) (.cons (v_getI (k := 30) k_M (by decide) (Or.inl rfl) (Or.inl w_1491) d_M_readProgram_70) .nil))))
theorem d_M_readProgram_73 : decode y_M_readProgram.2.1 73 = .ok (.iastore, 1) := by decide +kernel
theorem d_M_readProgram_74 : decode y_M_readProgram.2.1 74 = .ok (.goto (-60), 3) := by decide +kernel
theorem d_M_readProgram_51 : decode y_M_readProgram.2.1 51 = .ok (.iconst 0, 1) := by decide +kernel
theorem s_M_readProgram_51 : aw_VS y_M_readProgram 51 [o_c (.int (0 : Int32))] 52 := .cons (v_iconst (v := (0 : Int32)) d_M_readProgram_51 (by decide +kernel)) .nil
theorem d_M_readProgram_52 : decode y_M_readProgram.2.1 52 = .ok (.ireturn, 1) := by decide +kernel
theorem b_M_readProgram_48 {X : aw_X} {d : Nat} {Q : Option Value → aw_H → Prop} {I : Nat → Nat → Int32} {L : Nat → Nat → Int64} {D : Nat → Nat} {v1 : Int32} {s0 : Int32}
    (h1 : ¬ s0 = 0 → ¬ (I 69 26) = 0 → aw_z X (d + 1) y_M_readProgram Q 14 [some (.ref 69), some (.int v1)] [] (aw_s I L D))
    (h2 : ¬ s0 = 0 → (I 69 26) = 0 → v1 = 0 → aw_z X (d + 1) y_M_readProgram Q 14 [some (.ref 69), some (.int v1)] [] (aw_s I L D))
    (h3 : ¬ s0 = 0 → (I 69 26) = 0 → ¬ v1 = 0 → aw_z X (d + 1) y_M_readProgram Q 14 [some (.ref 69), some (.int v1)] [] (aw_s (aw_u I 74 5 (I 69 30)) L D))
    (h4 : s0 = 0 → Q (some (.int (0 : Int32))) (aw_s I L D)) :
    aw_z X (d + 1) y_M_readProgram Q 48 [some (.ref 69), some (.int v1)] [.int s0] (aw_s I L D) :=
  (z_if_ne (tgt := 53) d_M_readProgram_48 rfl (fun q1 => (s_M_readProgram_53.go [some (.ref 69), some (.int v1)] [.int (I 69 26)] (aw_s I L D) rfl (z_if_ne (tgt := 14) d_M_readProgram_57 rfl (fun q3 => (h1 q1 q3)) (fun q4 => (s_M_readProgram_60.go [some (.ref 69), some (.int v1)] [.int v1] (aw_s I L D) rfl (z_if_eq (tgt := 14) d_M_readProgram_61 rfl (fun q5 => (h2 q1 q4 q5)) (fun q6 => (s_M_readProgram_64.go [some (.ref 69), some (.int v1)] [.int (I 69 30), .int (5 : Int32), .ref 74] (aw_s I L D) rfl (z_iast (n := 7) rfl (aw_lt (o := 74) rfl) (aw_lin (by decide +kernel) (by decide +kernel)) d_M_readProgram_73 (z_goto (tgt := 14) d_M_readProgram_74 rfl (h3 q1 q4 q6))))))))))) (fun q2 => (s_M_readProgram_51.go [some (.ref 69), some (.int v1)] [.int (0 : Int32)] (aw_s I L D) rfl (z_iret d_M_readProgram_52 rfl (aw_nz (by decide +kernel)) (h4 q2)))))
theorem d_M_readProgram_125 : decode y_M_readProgram.2.1 125 = .ok (.aload_n 0, 1) := by decide +kernel
theorem s_M_readProgram_125 : aw_VS y_M_readProgram 125 [o_ald 0] 126 := .cons (v_aload_n (i := 0) d_M_readProgram_125 rfl) .nil
theorem d_M_readProgram_126 : decode y_M_readProgram.2.1 126 = .ok (.invokevirtual 337, 3) := by decide +kernel
theorem b_M_readProgram_125 {X : aw_X} {d : Nat} {Q : Option Value → aw_H → Prop} {I : Nat → Nat → Int32} {L : Nat → Nat → Int64} {D : Nat → Nat} {v1 : Int32}
    (h1 : aw_m X d y_M_readStep [.ref 69] (aw_s I L D) (fun r A => aw_z X (d + 1) y_M_readProgram Q 129 [some (.ref 69), some (.int v1)] (r.toList ++ []) A)) :
    aw_z X (d + 1) y_M_readProgram Q 125 [some (.ref 69), some (.int v1)] [] (aw_s I L D) :=
  (s_M_readProgram_125.go [some (.ref 69), some (.int v1)] [.ref 69] (aw_s I L D) rfl (z_callV (av := []) (st := []) ok_M_readStep (Or.inl w_1820) w_1822 w_86 k_M d_M_readProgram_126 rfl (aw_lt (o := 69) rfl) rfl rfl (Nat.le_of_ble_eq_true rfl) (Nat.le_refl _) (Nat.le_refl _) (h1)))
theorem d_M_readProgram_104 : decode y_M_readProgram.2.1 104 = .ok (.ifCond .eq (12), 3) := by decide +kernel
theorem d_M_readProgram_107 : decode y_M_readProgram.2.1 107 = .ok (.aload_n 0, 1) := by decide +kernel
theorem s_M_readProgram_107 : aw_VS y_M_readProgram 107 [o_ald 0] 108 := .cons (v_aload_n (i := 0) d_M_readProgram_107 rfl) .nil
theorem d_M_readProgram_108 : decode y_M_readProgram.2.1 108 = .ok (.invokevirtual 334, 3) := by decide +kernel
theorem b_M_readProgram_104 {X : aw_X} {d : Nat} {Q : Option Value → aw_H → Prop} {I : Nat → Nat → Int32} {L : Nat → Nat → Int64} {D : Nat → Nat} {v1 : Int32} {s0 : Int32}
    (h1 : s0 = 0 → aw_z X (d + 1) y_M_readProgram Q 116 [some (.ref 69), some (.int v1)] [] (aw_s I L D))
    (h2 : ¬ s0 = 0 → aw_m X d y_M_readProc [.ref 69] (aw_s I L D) (fun r A => aw_z X (d + 1) y_M_readProgram Q 111 [some (.ref 69), some (.int v1)] (r.toList ++ []) A)) :
    aw_z X (d + 1) y_M_readProgram Q 104 [some (.ref 69), some (.int v1)] [.int s0] (aw_s I L D) :=
  (z_if_eq (tgt := 116) d_M_readProgram_104 rfl (fun q1 => (h1 q1)) (fun q2 => (s_M_readProgram_107.go [some (.ref 69), some (.int v1)] [.ref 69] (aw_s I L D) rfl (z_callV (av := []) (st := []) ok_M_readProc (Or.inl w_1810) w_1812 w_84 k_M d_M_readProgram_108 rfl (aw_lt (o := 69) rfl) rfl rfl (Nat.le_of_ble_eq_true rfl) (Nat.le_refl _) (Nat.le_refl _) (h2 q2)))))
theorem d_M_readProgram_129 : decode y_M_readProgram.2.1 129 = .ok (.ifCond .ne (-115), 3) := by decide +kernel
theorem d_M_readProgram_132 : decode y_M_readProgram.2.1 132 = .ok (.iconst 0, 1) := by decide +kernel
theorem s_M_readProgram_132 : aw_VS y_M_readProgram 132 [o_c (.int (0 : Int32))] 133 := .cons (v_iconst (v := (0 : Int32)) d_M_readProgram_132 (by decide +kernel)) .nil
theorem d_M_readProgram_133 : decode y_M_readProgram.2.1 133 = .ok (.ireturn, 1) := by decide +kernel
theorem b_M_readProgram_129 {X : aw_X} {d : Nat} {Q : Option Value → aw_H → Prop} {I : Nat → Nat → Int32} {L : Nat → Nat → Int64} {D : Nat → Nat} {v1 : Int32} {s0 : Int32}
    (h1 : ¬ s0 = 0 → aw_z X (d + 1) y_M_readProgram Q 14 [some (.ref 69), some (.int v1)] [] (aw_s I L D))
    (h2 : s0 = 0 → Q (some (.int (0 : Int32))) (aw_s I L D)) :
    aw_z X (d + 1) y_M_readProgram Q 129 [some (.ref 69), some (.int v1)] [.int s0] (aw_s I L D) :=
  (z_if_ne (tgt := 14) d_M_readProgram_129 rfl (fun q1 => (h1 q1)) (fun q2 => (s_M_readProgram_132.go [some (.ref 69), some (.int v1)] [.int (0 : Int32)] (aw_s I L D) rfl (z_iret d_M_readProgram_133 rfl (aw_nz (by decide +kernel)) (h2 q2)))))
theorem d_M_readProgram_111 : decode y_M_readProgram.2.1 111 = .ok (.ifCond .ne (-97), 3) := by decide +kernel
theorem d_M_readProgram_114 : decode y_M_readProgram.2.1 114 = .ok (.iconst 0, 1) := by decide +kernel
theorem s_M_readProgram_114 : aw_VS y_M_readProgram 114 [o_c (.int (0 : Int32))] 115 := .cons (v_iconst (v := (0 : Int32)) d_M_readProgram_114 (by decide +kernel)) .nil
theorem d_M_readProgram_115 : decode y_M_readProgram.2.1 115 = .ok (.ireturn, 1) := by decide +kernel
theorem b_M_readProgram_111 {X : aw_X} {d : Nat} {Q : Option Value → aw_H → Prop} {I : Nat → Nat → Int32} {L : Nat → Nat → Int64} {D : Nat → Nat} {v1 : Int32} {s0 : Int32}
    (h1 : ¬ s0 = 0 → aw_z X (d + 1) y_M_readProgram Q 14 [some (.ref 69), some (.int v1)] [] (aw_s I L D))
    (h2 : s0 = 0 → Q (some (.int (0 : Int32))) (aw_s I L D)) :
    aw_z X (d + 1) y_M_readProgram Q 111 [some (.ref 69), some (.int v1)] [.int s0] (aw_s I L D) :=
  (z_if_ne (tgt := 14) d_M_readProgram_111 rfl (fun q1 => (h1 q1)) (fun q2 => (s_M_readProgram_114.go [some (.ref 69), some (.int v1)] [.int (0 : Int32)] (aw_s I L D) rfl (z_iret d_M_readProgram_115 rfl (aw_nz (by decide +kernel)) (h2 q2)))))
/-! M_begin -/
theorem d_M_begin_0 : decode y_M_begin.2.1 0 = .ok (.aload_n 0, 1) := by decide +kernel
theorem d_M_begin_1 : decode y_M_begin.2.1 1 = .ok (.iload_n 1, 1) := by decide +kernel
theorem d_M_begin_2 : decode y_M_begin.2.1 2 = .ok (.putfield 225, 3) := by decide +kernel
theorem d_M_begin_5 : decode y_M_begin.2.1 5 = .ok (.aload_n 0, 1) := by decide +kernel
theorem d_M_begin_6 : decode y_M_begin.2.1 6 = .ok (.iconst 0, 1) := by decide +kernel
theorem d_M_begin_7 : decode y_M_begin.2.1 7 = .ok (.putfield 210, 3) := by decide +kernel
theorem d_M_begin_10 : decode y_M_begin.2.1 10 = .ok (.aload_n 0, 1) := by decide +kernel
theorem d_M_begin_11 : decode y_M_begin.2.1 11 = .ok (.iconst 0, 1) := by decide +kernel
theorem d_M_begin_12 : decode y_M_begin.2.1 12 = .ok (.putfield 228, 3) := by decide +kernel
theorem d_M_begin_15 : decode y_M_begin.2.1 15 = .ok (.aload_n 0, 1) := by decide +kernel
theorem d_M_begin_16 : decode y_M_begin.2.1 16 = .ok (.iconst 0, 1) := by decide +kernel
theorem d_M_begin_17 : decode y_M_begin.2.1 17 = .ok (.putfield 231, 3) := by decide +kernel
theorem d_M_begin_20 : decode y_M_begin.2.1 20 = .ok (.aload_n 0, 1) := by decide +kernel
theorem d_M_begin_21 : decode y_M_begin.2.1 21 = .ok (.iconst 0, 1) := by decide +kernel
theorem d_M_begin_22 : decode y_M_begin.2.1 22 = .ok (.putfield 285, 3) := by decide +kernel
theorem d_M_begin_25 : decode y_M_begin.2.1 25 = .ok (.aload_n 0, 1) := by decide +kernel
theorem d_M_begin_26 : decode y_M_begin.2.1 26 = .ok (.iconst 0, 1) := by decide +kernel
theorem d_M_begin_27 : decode y_M_begin.2.1 27 = .ok (.putfield 259, 3) := by decide +kernel
theorem d_M_begin_30 : decode y_M_begin.2.1 30 = .ok (.aload_n 0, 1) := by decide +kernel
theorem d_M_begin_31 : decode y_M_begin.2.1 31 = .ok (.iconst 0, 1) := by decide +kernel
theorem d_M_begin_32 : decode y_M_begin.2.1 32 = .ok (.putfield 256, 3) := by decide +kernel
theorem d_M_begin_35 : decode y_M_begin.2.1 35 = .ok (.aload_n 0, 1) := by decide +kernel
theorem d_M_begin_36 : decode y_M_begin.2.1 36 = .ok (.getfield 25, 3) := by decide +kernel
theorem d_M_begin_39 : decode y_M_begin.2.1 39 = .ok (.iload_n 1, 1) := by decide +kernel
theorem d_M_begin_40 : decode y_M_begin.2.1 40 = .ok (.iconst 0, 1) := by decide +kernel
theorem s_M_begin_0 : aw_VS y_M_begin 0 [o_ald 0, o_ild 1, o_putI 9 29, o_ald 0, o_c (.int (0 : Int32)), o_putI 9 9, o_ald 0, o_c (.int (0 : Int32)), o_putI 9 30, o_ald 0, o_c (.int (0 : Int32)), o_putI 9 25, o_ald 0, o_c (.int (0 : Int32)), o_putI 9 26, o_ald 0, o_c (.int (0 : Int32)), o_putI 9 27, o_ald 0, o_c (.int (0 : Int32)), o_putI 9 28, o_ald 0, o_getA 9 16, o_ild 1, o_c (.int (0 : Int32))] 41 := .cons (v_aload_n (i := 0) d_M_begin_0 rfl) (.cons (v_iload_n (i := 1) d_M_begin_1 rfl) (.cons (v_putI (k := 29) k_M (by decide) rfl (Or.inl ⟨rfl, Or.inl w_1490⟩) d_M_begin_2) (.cons (v_aload_n (i := 0) d_M_begin_5 rfl) (.cons (v_iconst (v := (0 : Int32)) d_M_begin_6 (by decide +kernel)) (.cons (v_putI (k := 9) k_M (by decide) rfl (Or.inl ⟨rfl, Or.inl w_1470⟩) d_M_begin_7) (.cons (v_aload_n (i := 0) d_M_begin_10 rfl) (.cons (v_iconst (v := (0 : Int32)) d_M_begin_11 (by decide +kernel)) (.cons (v_putI (k := 30) k_M (by decide) rfl (Or.inl ⟨rfl, Or.inl w_1491⟩) d_M_begin_12) (.cons (v_aload_n (i := 0) d_M_begin_15 rfl) (.cons (v_iconst (v := (0 : Int32)) d_M_begin_16 (by decide +kernel)) (.cons (v_putI (k := 25) k_M (by decide) rfl (Or.inl ⟨rfl, Or.inl w_1486⟩) d_M_begin_17) (.cons (v_aload_n (i := 0) d_M_begin_20 rfl) (.cons (v_iconst (v := (0 : Int32)) d_M_begin_21 (by decide +kernel)) (.cons (v_putI (k := 26) k_M (by decide) rfl (Or.inl ⟨rfl, Or.inl w_1487⟩) d_M_begin_22) (.cons (v_aload_n (i := 0) d_M_begin_25 rfl) (.cons (v_iconst (v := (0 : Int32)) d_M_begin_26 (by decide +kernel)) (.cons (v_putI (k := 27) k_M (by decide) rfl (Or.inl ⟨rfl, Or.inl w_1488⟩) d_M_begin_27) (.cons (v_aload_n (i := 0) d_M_begin_30 rfl) (.cons (v_iconst (v := (0 : Int32)) d_M_begin_31 (by decide +kernel)) (.cons (v_putI (k := 28) k_M (by decide) rfl (Or.inl ⟨rfl, Or.inl w_1489⟩) d_M_begin_32) (.cons (v_aload_n (i := 0) d_M_begin_35 rfl) (.cons (v_getA (k := 16) k_M (by decide) rfl (Or.inl w_1477) d_M_begin_36) (.cons (v_iload_n (i := 1) d_M_begin_39 rfl) (.cons (v_iconst (v := (0 : Int32)) d_M_begin_40 (by decide +kernel)) .nil))))))))))))))))))))))))
theorem d_M_begin_41 : decode y_M_begin.2.1 41 = .ok (.iastore, 1) := by decide +kernel
theorem d_M_begin_42 : decode y_M_begin.2.1 42 = .ok (.aload_n 0, 1) := by decide +kernel
theorem d_M_begin_43 : decode y_M_begin.2.1 43 = .ok (.getfield 28, 3) := by decide +kernel
theorem d_M_begin_46 : decode y_M_begin.2.1 46 = .ok (.iload_n 1, 1) := by decide +kernel
theorem d_M_begin_47 : decode y_M_begin.2.1 47 = .ok (.iconst 0, 1) := by decide +kernel
theorem s_M_begin_42 : aw_VS y_M_begin 42 [o_ald 0, o_getA 9 17, o_ild 1, o_c (.int (0 : Int32))] 48 := .cons (v_aload_n (i := 0) d_M_begin_42 rfl) (.cons (v_getA (k := 17) k_M (by decide) rfl (Or.inl w_1478) d_M_begin_43) (.cons (v_iload_n (i := 1) d_M_begin_46 rfl) (.cons (v_iconst (v := (0 : Int32)) d_M_begin_47 (by decide +kernel)) .nil)))
theorem d_M_begin_48 : decode y_M_begin.2.1 48 = .ok (.iastore, 1) := by decide +kernel
theorem d_M_begin_49 : decode y_M_begin.2.1 49 = .ok (.iconst 0, 1) := by decide +kernel
theorem d_M_begin_50 : decode y_M_begin.2.1 50 = .ok (.istore_n 2, 1) := by decide +kernel
theorem s_M_begin_49 : aw_VS y_M_begin 49 [o_c (.int (0 : Int32)), o_ist 2] 51 := .cons (v_iconst (v := (0 : Int32)) d_M_begin_49 (by decide +kernel)) (.cons (v_istore_n d_M_begin_50) .nil)
theorem b_M_begin_0 {X : aw_X} {d : Nat} {Q : Option Value → aw_H → Prop} {I : Nat → Nat → Int32} {L : Nat → Nat → Int64} {D : Nat → Nat} {v1 : Int32}
    (h1 : vp_in v1 7)
    (h2 : vp_in v1 7)
    (h3 : aw_z X (d + 1) y_M_begin Q 51 [some (.ref 69), none, some (.int (0 : Int32))] [] (aw_s (aw_u (aw_u (aw_u (aw_u (aw_u (aw_u (aw_u (aw_u (aw_u I 69 29 v1) 69 9 (0 : Int32)) 69 30 (0 : Int32)) 69 25 (0 : Int32)) 69 26 (0 : Int32)) 69 27 (0 : Int32)) 69 28 (0 : Int32)) 75 v1.toNatClampNeg (0 : Int32)) 76 v1.toNatClampNeg (0 : Int32)) L D)) :
    aw_z X (d + 1) y_M_begin Q 0 [some (.ref 69), some (.int v1), none] [] (aw_s I L D) :=
  (s_M_begin_0.go [some (.ref 69), some (.int v1), none] [.int (0 : Int32), .int v1, .ref 75] (aw_s (aw_u (aw_u (aw_u (aw_u (aw_u (aw_u (aw_u I 69 29 v1) 69 9 (0 : Int32)) 69 30 (0 : Int32)) 69 25 (0 : Int32)) 69 26 (0 : Int32)) 69 27 (0 : Int32)) 69 28 (0 : Int32)) L D) rfl (z_iast (n := 7) rfl (aw_lt (o := 75) rfl) (h1) d_M_begin_41 (s_M_begin_42.go [some (.ref 69), some (.int v1), none] [.int (0 : Int32), .int v1, .ref 76] (aw_s (aw_u (aw_u (aw_u (aw_u (aw_u (aw_u (aw_u (aw_u I 69 29 v1) 69 9 (0 : Int32)) 69 30 (0 : Int32)) 69 25 (0 : Int32)) 69 26 (0 : Int32)) 69 27 (0 : Int32)) 69 28 (0 : Int32)) 75 v1.toNatClampNeg (0 : Int32)) L D) rfl (z_iast (n := 7) rfl (aw_lt (o := 76) rfl) (h2) d_M_begin_48 (s_M_begin_49.go [some (.ref 69), some (.int v1), some (.int (0 : Int32))] [] (aw_s (aw_u (aw_u (aw_u (aw_u (aw_u (aw_u (aw_u (aw_u (aw_u I 69 29 v1) 69 9 (0 : Int32)) 69 30 (0 : Int32)) 69 25 (0 : Int32)) 69 26 (0 : Int32)) 69 27 (0 : Int32)) 69 28 (0 : Int32)) 75 v1.toNatClampNeg (0 : Int32)) 76 v1.toNatClampNeg (0 : Int32)) L D) rfl (aw_Z.weak (ls' := [some (.ref 69), none, some (.int (0 : Int32))]) (h3) (Nat.le_of_ble_eq_true rfl) ⟨Or.inr rfl, ⟨Or.inl rfl, ⟨Or.inr rfl, trivial⟩⟩⟩))))))
theorem d_M_begin_51 : decode y_M_begin.2.1 51 = .ok (.iload_n 2, 1) := by decide +kernel
theorem d_M_begin_52 : decode y_M_begin.2.1 52 = .ok (.iconst 4, 1) := by decide +kernel
theorem s_M_begin_51 : aw_VS y_M_begin 51 [o_ild 2, o_c (.int (4 : Int32))] 53 := .cons (v_iload_n (i := 2) d_M_begin_51 rfl) (.cons (v_iconst (v := (4 : Int32)) d_M_begin_52 (by decide +kernel)) .nil)
theorem d_M_begin_53 : decode y_M_begin.2.1 53 = .ok (.if_icmp .ge (16), 3) := by decide +kernel
theorem d_M_begin_69 : decode y_M_begin.2.1 69 = .ok (.aload_n 0, 1) := by decide +kernel
theorem d_M_begin_70 : decode y_M_begin.2.1 70 = .ok (.iconst 0, 1) := by decide +kernel
theorem d_M_begin_71 : decode y_M_begin.2.1 71 = .ok (.putfield 173, 3) := by decide +kernel
theorem d_M_begin_74 : decode y_M_begin.2.1 74 = .ok (.aload_n 0, 1) := by decide +kernel
theorem s_M_begin_69 : aw_VS y_M_begin 69 [o_ald 0, o_c (.int (0 : Int32)), o_putI 9 4, o_ald 0] 75 := .cons (v_aload_n (i := 0) d_M_begin_69 rfl) (.cons (v_iconst (v := (0 : Int32)) d_M_begin_70 (by decide +kernel)) (.cons (v_putI (k := 4) k_M (by decide) rfl (Or.inl ⟨rfl, Or.inl w_1465⟩) d_M_begin_71) (.cons (v_aload_n (i := 0) d_M_begin_74 rfl) .nil)))
theorem d_M_begin_75 : decode y_M_begin.2.1 75 = .ok (.invokevirtual 222, 3) := by decide +kernel
theorem d_M_begin_56 : decode y_M_begin.2.1 56 = .ok (.aload_n 0, 1) := by decide +kernel
theorem d_M_begin_57 : decode y_M_begin.2.1 57 = .ok (.getfield 50, 3) := by decide +kernel
theorem d_M_begin_60 : decode y_M_begin.2.1 60 = .ok (.iload_n 2, 1) := by decide +kernel
theorem d_M_begin_61 : decode y_M_begin.2.1 61 = .ok (.iconst (-1), 1) := by decide +kernel
theorem s_M_begin_56 : aw_VS y_M_begin 56 [o_ald 0, o_getA 9 24, o_ild 2, o_c (.int (-1 : Int32))] 62 := .cons (v_aload_n (i := 0) d_M_begin_56 rfl) (.cons (v_getA (k := 24) k_M (by decide) rfl (Or.inl w_1485) d_M_begin_57) (.cons (v_iload_n (i := 2) d_M_begin_60 rfl) (.cons (v_iconst (v := (-1 : Int32)) d_M_begin_61 (by decide +kernel)) .nil)))
theorem d_M_begin_62 : decode y_M_begin.2.1 62 = .ok (.iastore, 1) := by decide +kernel
theorem d_M_begin_63 : decode y_M_begin.2.1 63 = .ok (.iinc 2 (1), 3) := by decide +kernel
theorem s_M_begin_63 : aw_VS y_M_begin 63 [o_inc 2 (1 : Int32)] 66 := .cons (v_iinc (k0 := (1 : Int32)) d_M_begin_63 (by decide +kernel)) .nil
theorem d_M_begin_66 : decode y_M_begin.2.1 66 = .ok (.goto (-15), 3) := by decide +kernel
theorem b_M_begin_51 {X : aw_X} {d : Nat} {Q : Option Value → aw_H → Prop} {I : Nat → Nat → Int32} {L : Nat → Nat → Int64} {D : Nat → Nat} {v2 : Int32}
    (h1 : (4 : Int32) ≤ v2 → aw_m X d y_M_go [.ref 69] (aw_s (aw_u I 69 4 (0 : Int32)) L D) (fun r A => aw_z X (d + 1) y_M_begin Q 78 [none, none, none] (r.toList ++ []) A))
    (h2 : ¬ (4 : Int32) ≤ v2 → vp_in v2 4)
    (h3 : ¬ (4 : Int32) ≤ v2 → aw_z X (d + 1) y_M_begin Q 51 [some (.ref 69), none, some (.int (v2 + (1 : Int32)))] [] (aw_s (aw_u I 83 v2.toNatClampNeg (-1 : Int32)) L D)) :
    aw_z X (d + 1) y_M_begin Q 51 [some (.ref 69), none, some (.int v2)] [] (aw_s I L D) :=
  (s_M_begin_51.go [some (.ref 69), none, some (.int v2)] [.int (4 : Int32), .int v2] (aw_s I L D) rfl (z_icmp_ge (tgt := 69) d_M_begin_53 rfl (fun q1 => (s_M_begin_69.go [some (.ref 69), none, some (.int v2)] [.ref 69] (aw_s (aw_u I 69 4 (0 : Int32)) L D) rfl (z_callV (av := []) (st := []) ok_M_go (Or.inl w_1760) w_1762 w_75 k_M d_M_begin_75 rfl (aw_lt (o := 69) rfl) rfl rfl (Nat.le_of_ble_eq_true rfl) (Nat.le_refl _) (Nat.le_refl _) (aw_C.mono (h1 q1) (fun _ _ zz => aw_Z.weak (ls' := [none, none, none]) zz (Nat.le_of_ble_eq_true rfl) ⟨Or.inl rfl, ⟨Or.inl rfl, ⟨Or.inl rfl, trivial⟩⟩⟩))))) (fun q2 => (s_M_begin_56.go [some (.ref 69), none, some (.int v2)] [.int (-1 : Int32), .int v2, .ref 83] (aw_s I L D) rfl (z_iast (n := 4) rfl (aw_lt (o := 83) rfl) (h2 q2) d_M_begin_62 (s_M_begin_63.go [some (.ref 69), none, some (.int (v2 + (1 : Int32)))] [] (aw_s (aw_u I 83 v2.toNatClampNeg (-1 : Int32)) L D) rfl (z_goto (tgt := 51) d_M_begin_66 rfl (h3 q2))))))))
theorem d_M_begin_78 : decode y_M_begin.2.1 78 = .ok (.return_, 1) := by decide +kernel
theorem b_M_begin_78 {X : aw_X} {d : Nat} {Q : Option Value → aw_H → Prop} {I : Nat → Nat → Int32} {L : Nat → Nat → Int64} {D : Nat → Nat} 
    (h1 : Q none (aw_s I L D)) :
    aw_z X (d + 1) y_M_begin Q 78 [none, none, none] [] (aw_s I L D) :=
  (z_vret d_M_begin_78 rfl (h1))
/-! M_go -/
theorem d_M_go_0 : decode y_M_go.2.1 0 = .ok (.aload_n 0, 1) := by decide +kernel
theorem d_M_go_1 : decode y_M_go.2.1 1 = .ok (.getfield 173, 3) := by decide +kernel
theorem d_M_go_4 : decode y_M_go.2.1 4 = .ok (.aload_n 0, 1) := by decide +kernel
theorem d_M_go_5 : decode y_M_go.2.1 5 = .ok (.getfield 170, 3) := by decide +kernel
theorem s_M_go_0 : aw_VS y_M_go 0 [o_ald 0, o_getI 9 4, o_ald 0, o_getI 9 3] 8 := .cons (v_aload_n (i := 0) d_M_go_0 rfl) (.cons (v_getI (k := 4) k_M (by decide) (Or.inl rfl) (Or.inl w_1465) d_M_go_1) (.cons (v_aload_n (i := 0) d_M_go_4 rfl) (.cons (v_getI (k := 3) k_M (by decide) (Or.inl rfl) (Or.inl w_1464) d_M_go_5) .nil)))
theorem d_M_go_8 : decode y_M_go.2.1 8 = .ok (.if_icmp .ge (44), 3) := by decide +kernel
theorem d_M_go_11 : decode y_M_go.2.1 11 = .ok (.aload_n 0, 1) := by decide +kernel
theorem d_M_go_12 : decode y_M_go.2.1 12 = .ok (.getfield 7, 3) := by decide +kernel
theorem d_M_go_15 : decode y_M_go.2.1 15 = .ok (.aload_n 0, 1) := by decide +kernel
theorem d_M_go_16 : decode y_M_go.2.1 16 = .ok (.getfield 173, 3) := by decide +kernel
theorem s_M_go_11 : aw_VS y_M_go 11 [o_ald 0, o_getA 9 1, o_ald 0, o_getI 9 4] 19 := .cons (v_aload_n (i := 0) d_M_go_11 rfl) (.cons (v_getA (k := 1) k_M (by decide) rfl (Or.inl w_1462) d_M_go_12) (.cons (v_aload_n (i := 0) d_M_go_15 rfl) (.cons (v_getI (k := 4) k_M (by decide) (Or.inl rfl) (Or.inl w_1465) d_M_go_16) .nil)))
theorem d_M_go_19 : decode y_M_go.2.1 19 = .ok (.iaload, 1) := by decide +kernel
theorem d_M_go_20 : decode y_M_go.2.1 20 = .ok (.bipush 32, 2) := by decide +kernel
theorem s_M_go_20 : aw_VS y_M_go 20 [o_c (.int (32 : Int32))] 22 := .cons (v_bipush (v := (32 : Int32)) d_M_go_20 (by decide +kernel)) .nil
theorem d_M_go_22 : decode y_M_go.2.1 22 = .ok (.if_icmp .eq (17), 3) := by decide +kernel
theorem d_M_go_25 : decode y_M_go.2.1 25 = .ok (.aload_n 0, 1) := by decide +kernel
theorem d_M_go_26 : decode y_M_go.2.1 26 = .ok (.getfield 7, 3) := by decide +kernel
theorem d_M_go_29 : decode y_M_go.2.1 29 = .ok (.aload_n 0, 1) := by decide +kernel
theorem d_M_go_30 : decode y_M_go.2.1 30 = .ok (.getfield 173, 3) := by decide +kernel
theorem s_M_go_25 : aw_VS y_M_go 25 [o_ald 0, o_getA 9 1, o_ald 0, o_getI 9 4] 33 := .cons (v_aload_n (i := 0) d_M_go_25 rfl) (.cons (v_getA (k := 1) k_M (by decide) rfl (Or.inl w_1462) d_M_go_26) (.cons (v_aload_n (i := 0) d_M_go_29 rfl) (.cons (v_getI (k := 4) k_M (by decide) (Or.inl rfl) (Or.inl w_1465) d_M_go_30) .nil)))
theorem d_M_go_33 : decode y_M_go.2.1 33 = .ok (.iaload, 1) := by decide +kernel
theorem d_M_go_34 : decode y_M_go.2.1 34 = .ok (.bipush 10, 2) := by decide +kernel
theorem s_M_go_34 : aw_VS y_M_go 34 [o_c (.int (10 : Int32))] 36 := .cons (v_bipush (v := (10 : Int32)) d_M_go_34 (by decide +kernel)) .nil
theorem d_M_go_36 : decode y_M_go.2.1 36 = .ok (.if_icmp .ne (16), 3) := by decide +kernel
theorem b_M_go_0 {X : aw_X} {d : Nat} {Q : Option Value → aw_H → Prop} {I : Nat → Nat → Int32} {L : Nat → Nat → Int64} {D : Nat → Nat} 
    (h1 : (I 69 3) ≤ (I 69 4) → aw_z X (d + 1) y_M_go Q 52 [some (.ref 69), none, none, none, none] [] (aw_s I L D))
    (h2 : ¬ (I 69 3) ≤ (I 69 4) → vp_in (I 69 4) 540)
    (h3 : ¬ (I 69 3) ≤ (I 69 4) → (I 70 ((I 69 4).toNatClampNeg)) = (32 : Int32) → aw_z X (d + 1) y_M_go Q 39 [some (.ref 69), none, none, none, none] [] (aw_s I L D))
    (h4 : ¬ (I 69 3) ≤ (I 69 4) → ¬ (I 70 ((I 69 4).toNatClampNeg)) = (32 : Int32) → vp_in (I 69 4) 540)
    (h5 : ¬ (I 69 3) ≤ (I 69 4) → ¬ (I 70 ((I 69 4).toNatClampNeg)) = (32 : Int32) → ¬ (I 70 ((I 69 4).toNatClampNeg)) = (10 : Int32) → aw_z X (d + 1) y_M_go Q 52 [some (.ref 69), none, none, none, none] [] (aw_s I L D))
    (h6 : ¬ (I 69 3) ≤ (I 69 4) → ¬ (I 70 ((I 69 4).toNatClampNeg)) = (32 : Int32) → (I 70 ((I 69 4).toNatClampNeg)) = (10 : Int32) → aw_z X (d + 1) y_M_go Q 39 [some (.ref 69), none, none, none, none] [] (aw_s I L D)) :
    aw_z X (d + 1) y_M_go Q 0 [some (.ref 69), none, none, none, none] [] (aw_s I L D) :=
  (s_M_go_0.go [some (.ref 69), none, none, none, none] [.int (I 69 3), .int (I 69 4)] (aw_s I L D) rfl (z_icmp_ge (tgt := 52) d_M_go_8 rfl (fun q1 => (h1 q1)) (fun q2 => (s_M_go_11.go [some (.ref 69), none, none, none, none] [.int (I 69 4), .ref 70] (aw_s I L D) rfl (z_iald (n := 540) rfl (aw_lt (o := 70) rfl) (h2 q2) d_M_go_19 (s_M_go_20.go [some (.ref 69), none, none, none, none] [.int (32 : Int32), .int (I 70 ((I 69 4).toNatClampNeg))] (aw_s I L D) rfl (z_icmp_eq (tgt := 39) d_M_go_22 rfl (fun q3 => (h3 q2 q3)) (fun q4 => (s_M_go_25.go [some (.ref 69), none, none, none, none] [.int (I 69 4), .ref 70] (aw_s I L D) rfl (z_iald (n := 540) rfl (aw_lt (o := 70) rfl) (h4 q2 q4) d_M_go_33 (s_M_go_34.go [some (.ref 69), none, none, none, none] [.int (10 : Int32), .int (I 70 ((I 69 4).toNatClampNeg))] (aw_s I L D) rfl (z_icmp_ne (tgt := 52) d_M_go_36 rfl (fun q5 => (h5 q2 q4 q5)) (fun q6 => (h6 q2 q4 q6))))))))))))))
theorem d_M_go_52 : decode y_M_go.2.1 52 = .ok (.aload_n 0, 1) := by decide +kernel
theorem d_M_go_53 : decode y_M_go.2.1 53 = .ok (.aload_n 0, 1) := by decide +kernel
theorem d_M_go_54 : decode y_M_go.2.1 54 = .ok (.getfield 173, 3) := by decide +kernel
theorem d_M_go_57 : decode y_M_go.2.1 57 = .ok (.putfield 176, 3) := by decide +kernel
theorem d_M_go_60 : decode y_M_go.2.1 60 = .ok (.aload_n 0, 1) := by decide +kernel
theorem d_M_go_61 : decode y_M_go.2.1 61 = .ok (.getfield 170, 3) := by decide +kernel
theorem d_M_go_64 : decode y_M_go.2.1 64 = .ok (.sipush 500, 3) := by decide +kernel
theorem s_M_go_52 : aw_VS y_M_go 52 [o_ald 0, o_ald 0, o_getI 9 4, o_putI 9 5, o_ald 0, o_getI 9 3, o_c (.int (500 : Int32))] 67 := .cons (v_aload_n (i := 0) d_M_go_52 rfl) (.cons (v_aload_n (i := 0) d_M_go_53 rfl) (.cons (v_getI (k := 4) k_M (by decide) (Or.inl rfl) (Or.inl w_1465) d_M_go_54) (.cons (v_putI (k := 5) k_M (by decide) rfl (Or.inl ⟨rfl, Or.inl w_1466⟩) d_M_go_57) (.cons (v_aload_n (i := 0) d_M_go_60 rfl) (.cons (v_getI (k := 3) k_M (by decide) (Or.inl rfl) (Or.inl w_1464) d_M_go_61) (.cons (v_sipush (v := (500 : Int32)) d_M_go_64 (by decide +kernel)) .nil))))))
theorem d_M_go_67 : decode y_M_go.2.1 67 = .ok (.if_icmp .le (26), 3) := by decide +kernel
theorem d_M_go_70 : decode y_M_go.2.1 70 = .ok (.aload_n 0, 1) := by decide +kernel
theorem d_M_go_71 : decode y_M_go.2.1 71 = .ok (.getfield 176, 3) := by decide +kernel
theorem d_M_go_74 : decode y_M_go.2.1 74 = .ok (.sipush 500, 3) := by decide +kernel
theorem s_M_go_70 : aw_VS y_M_go 70 [o_ald 0, o_getI 9 5, o_c (.int (500 : Int32))] 77 := .cons (v_aload_n (i := 0) d_M_go_70 rfl) (.cons (v_getI (k := 5) k_M (by decide) (Or.inl rfl) (Or.inl w_1466) d_M_go_71) (.cons (v_sipush (v := (500 : Int32)) d_M_go_74 (by decide +kernel)) .nil))
theorem d_M_go_77 : decode y_M_go.2.1 77 = .ok (.if_icmp .lt (16), 3) := by decide +kernel
theorem d_M_go_80 : decode y_M_go.2.1 80 = .ok (.aload_n 0, 1) := by decide +kernel
theorem d_M_go_81 : decode y_M_go.2.1 81 = .ok (.sipush 500, 3) := by decide +kernel
theorem d_M_go_84 : decode y_M_go.2.1 84 = .ok (.putfield 176, 3) := by decide +kernel
theorem d_M_go_87 : decode y_M_go.2.1 87 = .ok (.aload_n 0, 1) := by decide +kernel
theorem d_M_go_88 : decode y_M_go.2.1 88 = .ok (.iconst 1, 1) := by decide +kernel
theorem d_M_go_89 : decode y_M_go.2.1 89 = .ok (.putfield 179, 3) := by decide +kernel
theorem s_M_go_80 : aw_VS y_M_go 80 [o_ald 0, o_c (.int (500 : Int32)), o_putI 9 5, o_ald 0, o_c (.int (1 : Int32)), o_putI 9 6] 92 := .cons (v_aload_n (i := 0) d_M_go_80 rfl) (.cons (v_sipush (v := (500 : Int32)) d_M_go_81 (by decide +kernel)) (.cons (v_putI (k := 5) k_M (by decide) rfl (Or.inl ⟨rfl, Or.inl w_1466⟩) d_M_go_84) (.cons (v_aload_n (i := 0) d_M_go_87 rfl) (.cons (v_iconst (v := (1 : Int32)) d_M_go_88 (by decide +kernel)) (.cons (v_putI (k := 6) k_M (by decide) rfl (Or.inl ⟨rfl, Or.inl w_1467⟩) d_M_go_89) .nil)))))
theorem d_M_go_92 : decode y_M_go.2.1 92 = .ok (.return_, 1) := by decide +kernel
theorem b_M_go_52 {X : aw_X} {d : Nat} {Q : Option Value → aw_H → Prop} {I : Nat → Nat → Int32} {L : Nat → Nat → Int64} {D : Nat → Nat} 
    (h1 : (I 69 3) ≤ (500 : Int32) → aw_z X (d + 1) y_M_go Q 93 [some (.ref 69), none, none, none, none] [] (aw_s (aw_u I 69 5 (I 69 4)) L D))
    (h2 : ¬ (I 69 3) ≤ (500 : Int32) → (I 69 4) < (500 : Int32) → aw_z X (d + 1) y_M_go Q 93 [some (.ref 69), none, none, none, none] [] (aw_s (aw_u I 69 5 (I 69 4)) L D))
    (h3 : ¬ (I 69 3) ≤ (500 : Int32) → ¬ (I 69 4) < (500 : Int32) → Q none (aw_s (aw_u (aw_u (aw_u I 69 5 (I 69 4)) 69 5 (500 : Int32)) 69 6 (1 : Int32)) L D)) :
    aw_z X (d + 1) y_M_go Q 52 [some (.ref 69), none, none, none, none] [] (aw_s I L D) :=
  (s_M_go_52.go [some (.ref 69), none, none, none, none] [.int (500 : Int32), .int (I 69 3)] (aw_s (aw_u I 69 5 (I 69 4)) L D) rfl (z_icmp_le (tgt := 93) d_M_go_67 rfl (fun q1 => (h1 q1)) (fun q2 => (s_M_go_70.go [some (.ref 69), none, none, none, none] [.int (500 : Int32), .int (I 69 4)] (aw_s (aw_u I 69 5 (I 69 4)) L D) rfl (z_icmp_lt (tgt := 93) d_M_go_77 rfl (fun q3 => (h2 q2 q3)) (fun q4 => (s_M_go_80.go [some (.ref 69), none, none, none, none] [] (aw_s (aw_u (aw_u (aw_u I 69 5 (I 69 4)) 69 5 (500 : Int32)) 69 6 (1 : Int32)) L D) rfl (z_vret d_M_go_92 rfl (h3 q2 q4)))))))))
theorem d_M_go_39 : decode y_M_go.2.1 39 = .ok (.aload_n 0, 1) := by decide +kernel
theorem d_M_go_40 : decode y_M_go.2.1 40 = .ok (.dup, 1) := by decide +kernel
theorem d_M_go_41 : decode y_M_go.2.1 41 = .ok (.getfield 173, 3) := by decide +kernel
theorem d_M_go_44 : decode y_M_go.2.1 44 = .ok (.iconst 1, 1) := by decide +kernel
theorem d_M_go_45 : decode y_M_go.2.1 45 = .ok (.iadd, 1) := by decide +kernel
theorem d_M_go_46 : decode y_M_go.2.1 46 = .ok (.putfield 173, 3) := by decide +kernel
theorem s_M_go_39 : aw_VS y_M_go 39 [o_ald 0, o_dup, o_getI 9 4, o_c (.int (1 : Int32)), o_i2 (fun x z => x + z), o_putI 9 4] 49 := .cons (v_aload_n (i := 0) d_M_go_39 rfl) (.cons (v_dup d_M_go_40) (.cons (v_getI (k := 4) k_M (by decide) (Or.inl rfl) (Or.inl w_1465) d_M_go_41) (.cons (v_iconst (v := (1 : Int32)) d_M_go_44 (by decide +kernel)) (.cons (v_iadd d_M_go_45) (.cons (v_putI (k := 4) k_M (by decide) rfl (Or.inl ⟨rfl, Or.inl w_1465⟩) d_M_go_46) .nil)))))
theorem d_M_go_49 : decode y_M_go.2.1 49 = .ok (.goto (-49), 3) := by decide +kernel
theorem b_M_go_39 {X : aw_X} {d : Nat} {Q : Option Value → aw_H → Prop} {I : Nat → Nat → Int32} {L : Nat → Nat → Int64} {D : Nat → Nat} 
    (h1 : aw_z X (d + 1) y_M_go Q 0 [some (.ref 69), none, none, none, none] [] (aw_s (aw_u I 69 4 ((I 69 4) + (1 : Int32))) L D)) :
    aw_z X (d + 1) y_M_go Q 39 [some (.ref 69), none, none, none, none] [] (aw_s I L D) :=
  (s_M_go_39.go [some (.ref 69), none, none, none, none] [] (aw_s (aw_u I 69 4 ((I 69 4) + (1 : Int32))) L D) rfl (z_goto (tgt := 0) d_M_go_49 rfl (h1)))
theorem d_M_go_93 : decode y_M_go.2.1 93 = .ok (.aload_n 0, 1) := by decide +kernel
theorem d_M_go_94 : decode y_M_go.2.1 94 = .ok (.getfield 173, 3) := by decide +kernel
theorem d_M_go_97 : decode y_M_go.2.1 97 = .ok (.aload_n 0, 1) := by decide +kernel
theorem d_M_go_98 : decode y_M_go.2.1 98 = .ok (.getfield 170, 3) := by decide +kernel
theorem s_M_go_93 : aw_VS y_M_go 93 [o_ald 0, o_getI 9 4, o_ald 0, o_getI 9 3] 101 := .cons (v_aload_n (i := 0) d_M_go_93 rfl) (.cons (v_getI (k := 4) k_M (by decide) (Or.inl rfl) (Or.inl w_1465) d_M_go_94) (.cons (v_aload_n (i := 0) d_M_go_97 rfl) (.cons (v_getI (k := 3) k_M (by decide) (Or.inl rfl) (Or.inl w_1464) d_M_go_98) .nil)))
theorem d_M_go_101 : decode y_M_go.2.1 101 = .ok (.if_icmp .lt (9), 3) := by decide +kernel
theorem d_M_go_110 : decode y_M_go.2.1 110 = .ok (.aload_n 0, 1) := by decide +kernel
theorem d_M_go_111 : decode y_M_go.2.1 111 = .ok (.getfield 7, 3) := by decide +kernel
theorem d_M_go_114 : decode y_M_go.2.1 114 = .ok (.aload_n 0, 1) := by decide +kernel
theorem d_M_go_115 : decode y_M_go.2.1 115 = .ok (.getfield 173, 3) := by decide +kernel
theorem s_M_go_110 : aw_VS y_M_go 110 [o_ald 0, o_getA 9 1, o_ald 0, o_getI 9 4] 118 := .cons (v_aload_n (i := 0) d_M_go_110 rfl) (.cons (v_getA (k := 1) k_M (by decide) rfl (Or.inl w_1462) d_M_go_111) (.cons (v_aload_n (i := 0) d_M_go_114 rfl) (.cons (v_getI (k := 4) k_M (by decide) (Or.inl rfl) (Or.inl w_1465) d_M_go_115) .nil)))
theorem d_M_go_118 : decode y_M_go.2.1 118 = .ok (.iaload, 1) := by decide +kernel
theorem d_M_go_119 : decode y_M_go.2.1 119 = .ok (.istore_n 1, 1) := by decide +kernel
theorem d_M_go_120 : decode y_M_go.2.1 120 = .ok (.iload_n 1, 1) := by decide +kernel
theorem s_M_go_119 : aw_VS y_M_go 119 [o_ist 1, o_ild 1] 121 := .cons (v_istore_n d_M_go_119) (.cons (v_iload_n (i := 1) d_M_go_120 rfl) .nil)
theorem d_M_go_121 : decode y_M_go.2.1 121 = .ok (.invokestatic 182, 3) := by decide +kernel
theorem d_M_go_104 : decode y_M_go.2.1 104 = .ok (.aload_n 0, 1) := by decide +kernel
theorem d_M_go_105 : decode y_M_go.2.1 105 = .ok (.iconst 0, 1) := by decide +kernel
theorem d_M_go_106 : decode y_M_go.2.1 106 = .ok (.putfield 179, 3) := by decide +kernel
theorem s_M_go_104 : aw_VS y_M_go 104 [o_ald 0, o_c (.int (0 : Int32)), o_putI 9 6] 109 := .cons (v_aload_n (i := 0) d_M_go_104 rfl) (.cons (v_iconst (v := (0 : Int32)) d_M_go_105 (by decide +kernel)) (.cons (v_putI (k := 6) k_M (by decide) rfl (Or.inl ⟨rfl, Or.inl w_1467⟩) d_M_go_106) .nil))
theorem d_M_go_109 : decode y_M_go.2.1 109 = .ok (.return_, 1) := by decide +kernel
theorem b_M_go_93 {X : aw_X} {d : Nat} {Q : Option Value → aw_H → Prop} {I : Nat → Nat → Int32} {L : Nat → Nat → Int64} {D : Nat → Nat} 
    (h1 : (I 69 4) < (I 69 3) → vp_in (I 69 4) 540)
    (h2 : (I 69 4) < (I 69 3) → aw_m X d y_M_isLetter [.int (I 70 ((I 69 4).toNatClampNeg))] (aw_s I L D) (fun r A => aw_z X (d + 1) y_M_go Q 124 [some (.ref 69), some (.int (I 70 ((I 69 4).toNatClampNeg))), none, none, none] (r.toList ++ []) A))
    (h3 : ¬ (I 69 4) < (I 69 3) → Q none (aw_s (aw_u I 69 6 (0 : Int32)) L D)) :
    aw_z X (d + 1) y_M_go Q 93 [some (.ref 69), none, none, none, none] [] (aw_s I L D) :=
  (s_M_go_93.go [some (.ref 69), none, none, none, none] [.int (I 69 3), .int (I 69 4)] (aw_s I L D) rfl (z_icmp_lt (tgt := 110) d_M_go_101 rfl (fun q1 => (s_M_go_110.go [some (.ref 69), none, none, none, none] [.int (I 69 4), .ref 70] (aw_s I L D) rfl (z_iald (n := 540) rfl (aw_lt (o := 70) rfl) (h1 q1) d_M_go_118 (s_M_go_119.go [some (.ref 69), some (.int (I 70 ((I 69 4).toNatClampNeg))), none, none, none] [.int (I 70 ((I 69 4).toNatClampNeg))] (aw_s I L D) rfl (z_callS (av := [.int (I 70 ((I 69 4).toNatClampNeg))]) (st := []) ok_M_isLetter (Or.inl w_1764) w_1765 d_M_go_121 rfl rfl (Nat.le_of_ble_eq_true rfl) (Nat.le_refl _) (Nat.le_refl _) (h2 q1)))))) (fun q2 => (s_M_go_104.go [some (.ref 69), none, none, none, none] [] (aw_s (aw_u I 69 6 (0 : Int32)) L D) rfl (z_vret d_M_go_109 rfl (h3 q2))))))
theorem d_M_go_124 : decode y_M_go.2.1 124 = .ok (.ifCond .ne (42), 3) := by decide +kernel
theorem d_M_go_127 : decode y_M_go.2.1 127 = .ok (.iload_n 1, 1) := by decide +kernel
theorem s_M_go_127 : aw_VS y_M_go 127 [o_ild 1] 128 := .cons (v_iload_n (i := 1) d_M_go_127 rfl) .nil
theorem d_M_go_128 : decode y_M_go.2.1 128 = .ok (.invokestatic 186, 3) := by decide +kernel
theorem b_M_go_124 {X : aw_X} {d : Nat} {Q : Option Value → aw_H → Prop} {I : Nat → Nat → Int32} {L : Nat → Nat → Int64} {D : Nat → Nat} {v1 : Int32} {s0 : Int32}
    (h1 : ¬ s0 = 0 → aw_z X (d + 1) y_M_go Q 166 [some (.ref 69), some (.int v1), none, none, none] [] (aw_s I L D))
    (h2 : s0 = 0 → aw_m X d y_M_isDigit [.int v1] (aw_s I L D) (fun r A => aw_z X (d + 1) y_M_go Q 131 [some (.ref 69), some (.int v1), none, none, none] (r.toList ++ []) A)) :
    aw_z X (d + 1) y_M_go Q 124 [some (.ref 69), some (.int v1), none, none, none] [.int s0] (aw_s I L D) :=
  (z_if_ne (tgt := 166) d_M_go_124 rfl (fun q1 => (h1 q1)) (fun q2 => (s_M_go_127.go [some (.ref 69), some (.int v1), none, none, none] [.int v1] (aw_s I L D) rfl (z_callS (av := [.int v1]) (st := []) ok_M_isDigit (Or.inl w_1767) w_1768 d_M_go_128 rfl rfl (Nat.le_of_ble_eq_true rfl) (Nat.le_refl _) (Nat.le_refl _) (h2 q2)))))
theorem d_M_go_166 : decode y_M_go.2.1 166 = .ok (.iload_n 1, 1) := by decide +kernel
theorem s_M_go_166 : aw_VS y_M_go 166 [o_ild 1] 167 := .cons (v_iload_n (i := 1) d_M_go_166 rfl) .nil
theorem d_M_go_167 : decode y_M_go.2.1 167 = .ok (.invokestatic 182, 3) := by decide +kernel
theorem b_M_go_166 {X : aw_X} {d : Nat} {Q : Option Value → aw_H → Prop} {I : Nat → Nat → Int32} {L : Nat → Nat → Int64} {D : Nat → Nat} {v1 : Int32}
    (h1 : aw_m X d y_M_isLetter [.int v1] (aw_s I L D) (fun r A => aw_z X (d + 1) y_M_go Q 170 [some (.ref 69), none, none, none, none] (r.toList ++ []) A)) :
    aw_z X (d + 1) y_M_go Q 166 [some (.ref 69), some (.int v1), none, none, none] [] (aw_s I L D) :=
  (s_M_go_166.go [some (.ref 69), some (.int v1), none, none, none] [.int v1] (aw_s I L D) rfl (z_callS (av := [.int v1]) (st := []) ok_M_isLetter (Or.inl w_1764) w_1765 d_M_go_167 rfl rfl (Nat.le_of_ble_eq_true rfl) (Nat.le_refl _) (Nat.le_refl _) (aw_C.mono (h1) (fun _ _ zz => aw_Z.weak (ls' := [some (.ref 69), none, none, none, none]) zz (Nat.le_of_ble_eq_true rfl) ⟨Or.inr rfl, ⟨Or.inl rfl, ⟨Or.inl rfl, ⟨Or.inl rfl, ⟨Or.inl rfl, trivial⟩⟩⟩⟩⟩))))
theorem d_M_go_131 : decode y_M_go.2.1 131 = .ok (.ifCond .ne (35), 3) := by decide +kernel
theorem d_M_go_134 : decode y_M_go.2.1 134 = .ok (.aload_n 0, 1) := by decide +kernel
theorem d_M_go_135 : decode y_M_go.2.1 135 = .ok (.iload_n 1, 1) := by decide +kernel
theorem s_M_go_134 : aw_VS y_M_go 134 [o_ald 0, o_ild 1] 136 := .cons (v_aload_n (i := 0) d_M_go_134 rfl) (.cons (v_iload_n (i := 1) d_M_go_135 rfl) .nil)
theorem d_M_go_136 : decode y_M_go.2.1 136 = .ok (.invokestatic 189, 3) := by decide +kernel
theorem b_M_go_131 {X : aw_X} {d : Nat} {Q : Option Value → aw_H → Prop} {I : Nat → Nat → Int32} {L : Nat → Nat → Int64} {D : Nat → Nat} {v1 : Int32} {s0 : Int32}
    (h1 : ¬ s0 = 0 → aw_z X (d + 1) y_M_go Q 166 [some (.ref 69), some (.int v1), none, none, none] [] (aw_s I L D))
    (h2 : s0 = 0 → aw_m X d y_M_isMark [.int v1] (aw_s I L D) (fun r A => aw_z X (d + 1) y_M_go Q 139 [some (.ref 69), some (.int v1), none, none, none] (r.toList ++ [.ref 69]) A)) :
    aw_z X (d + 1) y_M_go Q 131 [some (.ref 69), some (.int v1), none, none, none] [.int s0] (aw_s I L D) :=
  (z_if_ne (tgt := 166) d_M_go_131 rfl (fun q1 => (h1 q1)) (fun q2 => (s_M_go_134.go [some (.ref 69), some (.int v1), none, none, none] [.int v1, .ref 69] (aw_s I L D) rfl (z_callS (av := [.int v1]) (st := [.ref 69]) ok_M_isMark (Or.inl w_1770) w_1771 d_M_go_136 rfl rfl (Nat.le_of_ble_eq_true rfl) (Nat.le_refl _) (Nat.le_refl _) (h2 q2)))))
theorem d_M_go_170 : decode y_M_go.2.1 170 = .ok (.istore_n 2, 1) := by decide +kernel
theorem d_M_go_171 : decode y_M_go.2.1 171 = .ok (.iconst 1, 1) := by decide +kernel
theorem d_M_go_172 : decode y_M_go.2.1 172 = .ok (.istore_n 3, 1) := by decide +kernel
theorem d_M_go_173 : decode y_M_go.2.1 173 = .ok (.aload_n 0, 1) := by decide +kernel
theorem d_M_go_174 : decode y_M_go.2.1 174 = .ok (.lconst 0, 1) := by decide +kernel
theorem d_M_go_175 : decode y_M_go.2.1 175 = .ok (.putfield 195, 3) := by decide +kernel
theorem d_M_go_178 : decode y_M_go.2.1 178 = .ok (.aload_n 0, 1) := by decide +kernel
theorem d_M_go_179 : decode y_M_go.2.1 179 = .ok (.iconst 0, 1) := by decide +kernel
theorem d_M_go_180 : decode y_M_go.2.1 180 = .ok (.putfield 199, 3) := by decide +kernel
theorem s_M_go_170 : aw_VS y_M_go 170 [o_ist 2, o_c (.int (1 : Int32)), o_ist 3, o_ald 0, o_c (.long (0 : Int64)), o_putJ 9 11, o_ald 0, o_c (.int (0 : Int32)), o_putI 9 7] 183 := .cons (v_istore_n d_M_go_170) (.cons (v_iconst (v := (1 : Int32)) d_M_go_171 (by decide +kernel)) (.cons (v_istore_n d_M_go_172) (.cons (v_aload_n (i := 0) d_M_go_173 rfl) (.cons (v_lconst (v := (0 : Int64)) d_M_go_174 (by decide +kernel)) (.cons (v_putJ (k := 11) k_M (by decide) rfl (Or.inl ⟨rfl, Or.inl w_1472⟩) d_M_go_175) (.cons (v_aload_n (i := 0) d_M_go_178 rfl) (.cons (v_iconst (v := (0 : Int32)) d_M_go_179 (by decide +kernel)) (.cons (v_putI (k := 7) k_M (by decide) rfl (Or.inl ⟨rfl, Or.inl w_1468⟩) d_M_go_180) .nil))))))))
theorem b_M_go_170 {X : aw_X} {d : Nat} {Q : Option Value → aw_H → Prop} {I : Nat → Nat → Int32} {L : Nat → Nat → Int64} {D : Nat → Nat} {s0 : Int32}
    (h1 : aw_z X (d + 1) y_M_go Q 183 [some (.ref 69), none, some (.int s0), some (.int (1 : Int32)), none] [] (aw_s (aw_u I 69 7 (0 : Int32)) (aw_u L 69 11 (0 : Int64)) D)) :
    aw_z X (d + 1) y_M_go Q 170 [some (.ref 69), none, none, none, none] [.int s0] (aw_s I L D) :=
  (s_M_go_170.go [some (.ref 69), none, some (.int s0), some (.int (1 : Int32)), none] [] (aw_s (aw_u I 69 7 (0 : Int32)) (aw_u L 69 11 (0 : Int64)) D) rfl (h1))
theorem d_M_go_139 : decode y_M_go.2.1 139 = .ok (.ifCond .eq (7), 3) := by decide +kernel
theorem d_M_go_146 : decode y_M_go.2.1 146 = .ok (.iconst 1, 1) := by decide +kernel
theorem s_M_go_146 : aw_VS y_M_go 146 [o_c (.int (1 : Int32))] 147 := .cons (v_iconst (v := (1 : Int32)) d_M_go_146 (by decide +kernel)) .nil
theorem d_M_go_147 : decode y_M_go.2.1 147 = .ok (.putfield 179, 3) := by decide +kernel
theorem d_M_go_150 : decode y_M_go.2.1 150 = .ok (.aload_n 0, 1) := by decide +kernel
theorem d_M_go_151 : decode y_M_go.2.1 151 = .ok (.iload_n 1, 1) := by decide +kernel
theorem d_M_go_152 : decode y_M_go.2.1 152 = .ok (.putfield 192, 3) := by decide +kernel
theorem d_M_go_155 : decode y_M_go.2.1 155 = .ok (.aload_n 0, 1) := by decide +kernel
theorem d_M_go_156 : decode y_M_go.2.1 156 = .ok (.dup, 1) := by decide +kernel
theorem d_M_go_157 : decode y_M_go.2.1 157 = .ok (.getfield 173, 3) := by decide +kernel
theorem d_M_go_160 : decode y_M_go.2.1 160 = .ok (.iconst 1, 1) := by decide +kernel
theorem d_M_go_161 : decode y_M_go.2.1 161 = .ok (.iadd, 1) := by decide +kernel
theorem d_M_go_162 : decode y_M_go.2.1 162 = .ok (.putfield 173, 3) := by decide +kernel
theorem s_M_go_147 : aw_VS y_M_go 147 [o_putI 9 6, o_ald 0, o_ild 1, o_putI 9 8, o_ald 0, o_dup, o_getI 9 4, o_c (.int (1 : Int32)), o_i2 (fun x z => x + z), o_putI 9 4] 165 := .cons (v_putI (k := 6) k_M (by decide) rfl (Or.inl ⟨rfl, Or.inl w_1467⟩) d_M_go_147) (.cons (v_aload_n (i := 0) d_M_go_150 rfl) (.cons (v_iload_n (i := 1) d_M_go_151 rfl) (.cons (v_putI (k := 8) k_M (by decide) rfl (Or.inl ⟨rfl, Or.inl w_1469⟩) d_M_go_152) (.cons (v_aload_n (i := 0) d_M_go_155 rfl) (.cons (v_dup d_M_go_156) (.cons (v_getI (k := 4) k_M (by decide) (Or.inl rfl) (Or.inl w_1465) d_M_go_157) (.cons (v_iconst (v := (1 : Int32)) d_M_go_160 (by decide +kernel)) (.cons (v_iadd d_M_go_161) (.cons (v_putI (k := 4) k_M (by decide) rfl (Or.inl ⟨rfl, Or.inl w_1465⟩) d_M_go_162) .nil)))))))))
theorem d_M_go_165 : decode y_M_go.2.1 165 = .ok (.return_, 1) := by decide +kernel
theorem d_M_go_142 : decode y_M_go.2.1 142 = .ok (.iconst 4, 1) := by decide +kernel
theorem s_M_go_142 : aw_VS y_M_go 142 [o_c (.int (4 : Int32))] 143 := .cons (v_iconst (v := (4 : Int32)) d_M_go_142 (by decide +kernel)) .nil
theorem d_M_go_143 : decode y_M_go.2.1 143 = .ok (.goto (4), 3) := by decide +kernel
theorem b_M_go_139 {X : aw_X} {d : Nat} {Q : Option Value → aw_H → Prop} {I : Nat → Nat → Int32} {L : Nat → Nat → Int64} {D : Nat → Nat} {v1 : Int32} {s1 : Int32}
    (h1 : s1 = 0 → Q none (aw_s (aw_u (aw_u (aw_u I 69 6 (1 : Int32)) 69 8 v1) 69 4 ((I 69 4) + (1 : Int32))) L D))
    (h2 : ¬ s1 = 0 → Q none (aw_s (aw_u (aw_u (aw_u I 69 6 (4 : Int32)) 69 8 v1) 69 4 ((I 69 4) + (1 : Int32))) L D)) :
    aw_z X (d + 1) y_M_go Q 139 [some (.ref 69), some (.int v1), none, none, none] [.int s1, .ref 69] (aw_s I L D) :=
  (z_if_eq (tgt := 146) d_M_go_139 rfl (fun q1 => (s_M_go_146.go [some (.ref 69), some (.int v1), none, none, none] [.int (1 : Int32), .ref 69] (aw_s I L D) rfl (s_M_go_147.go [some (.ref 69), some (.int v1), none, none, none] [] (aw_s (aw_u (aw_u (aw_u I 69 6 (1 : Int32)) 69 8 v1) 69 4 ((I 69 4) + (1 : Int32))) L D) rfl (z_vret d_M_go_165 rfl (h1 q1))))) (fun q2 => (s_M_go_142.go [some (.ref 69), some (.int v1), none, none, none] [.int (4 : Int32), .ref 69] (aw_s I L D) rfl (z_goto (tgt := 147) d_M_go_143 rfl (s_M_go_147.go [some (.ref 69), some (.int v1), none, none, none] [] (aw_s (aw_u (aw_u (aw_u I 69 6 (4 : Int32)) 69 8 v1) 69 4 ((I 69 4) + (1 : Int32))) L D) rfl (z_vret d_M_go_165 rfl (h2 q2)))))))
theorem d_M_go_183 : decode y_M_go.2.1 183 = .ok (.aload_n 0, 1) := by decide +kernel
theorem d_M_go_184 : decode y_M_go.2.1 184 = .ok (.aload_n 0, 1) := by decide +kernel
theorem d_M_go_185 : decode y_M_go.2.1 185 = .ok (.getfield 173, 3) := by decide +kernel
theorem s_M_go_183 : aw_VS y_M_go 183 [o_ald 0, o_ald 0, o_getI 9 4] 188 := .cons (v_aload_n (i := 0) d_M_go_183 rfl) (.cons (v_aload_n (i := 0) d_M_go_184 rfl) (.cons (v_getI (k := 4) k_M (by decide) (Or.inl rfl) (Or.inl w_1465) d_M_go_185) .nil))
theorem d_M_go_188 : decode y_M_go.2.1 188 = .ok (.invokevirtual 202, 3) := by decide +kernel
theorem b_M_go_183 {X : aw_X} {d : Nat} {Q : Option Value → aw_H → Prop} {I : Nat → Nat → Int32} {L : Nat → Nat → Int64} {D : Nat → Nat} {v2 : Int32} {v3 : Int32}
    (h1 : aw_m X d y_M_byteAt [.ref 69, .int (I 69 4)] (aw_s I L D) (fun r A => aw_z X (d + 1) y_M_go Q 191 [some (.ref 69), none, some (.int v2), some (.int v3), none] (r.toList ++ []) A)) :
    aw_z X (d + 1) y_M_go Q 183 [some (.ref 69), none, some (.int v2), some (.int v3), none] [] (aw_s I L D) :=
  (s_M_go_183.go [some (.ref 69), none, some (.int v2), some (.int v3), none] [.int (I 69 4), .ref 69] (aw_s I L D) rfl (z_callV (av := [.int (I 69 4)]) (st := []) ok_M_byteAt (Or.inl w_1773) w_1775 w_76 k_M d_M_go_188 rfl (aw_lt (o := 69) rfl) rfl rfl (Nat.le_of_ble_eq_true rfl) (Nat.le_refl _) (Nat.le_refl _) (h1)))
theorem d_M_go_191 : decode y_M_go.2.1 191 = .ok (.invokestatic 182, 3) := by decide +kernel
theorem b_M_go_191 {X : aw_X} {d : Nat} {Q : Option Value → aw_H → Prop} {I : Nat → Nat → Int32} {L : Nat → Nat → Int64} {D : Nat → Nat} {v2 : Int32} {v3 : Int32} {s0 : Int32}
    (h1 : aw_m X d y_M_isLetter [.int s0] (aw_s I L D) (fun r A => aw_z X (d + 1) y_M_go Q 194 [some (.ref 69), none, some (.int v2), some (.int v3), none] (r.toList ++ []) A)) :
    aw_z X (d + 1) y_M_go Q 191 [some (.ref 69), none, some (.int v2), some (.int v3), none] [.int s0] (aw_s I L D) :=
  (z_callS (av := [.int s0]) (st := []) ok_M_isLetter (Or.inl w_1764) w_1765 d_M_go_191 rfl rfl (Nat.le_of_ble_eq_true rfl) (Nat.le_refl _) (Nat.le_refl _) (h1))
theorem d_M_go_194 : decode y_M_go.2.1 194 = .ok (.ifCond .ne (17), 3) := by decide +kernel
theorem d_M_go_197 : decode y_M_go.2.1 197 = .ok (.aload_n 0, 1) := by decide +kernel
theorem d_M_go_198 : decode y_M_go.2.1 198 = .ok (.aload_n 0, 1) := by decide +kernel
theorem d_M_go_199 : decode y_M_go.2.1 199 = .ok (.getfield 173, 3) := by decide +kernel
theorem s_M_go_197 : aw_VS y_M_go 197 [o_ald 0, o_ald 0, o_getI 9 4] 202 := .cons (v_aload_n (i := 0) d_M_go_197 rfl) (.cons (v_aload_n (i := 0) d_M_go_198 rfl) (.cons (v_getI (k := 4) k_M (by decide) (Or.inl rfl) (Or.inl w_1465) d_M_go_199) .nil))
theorem d_M_go_202 : decode y_M_go.2.1 202 = .ok (.invokevirtual 202, 3) := by decide +kernel
theorem b_M_go_194 {X : aw_X} {d : Nat} {Q : Option Value → aw_H → Prop} {I : Nat → Nat → Int32} {L : Nat → Nat → Int64} {D : Nat → Nat} {v2 : Int32} {v3 : Int32} {s0 : Int32}
    (h1 : ¬ s0 = 0 → aw_z X (d + 1) y_M_go Q 211 [some (.ref 69), none, some (.int v2), some (.int v3), none] [] (aw_s I L D))
    (h2 : s0 = 0 → aw_m X d y_M_byteAt [.ref 69, .int (I 69 4)] (aw_s I L D) (fun r A => aw_z X (d + 1) y_M_go Q 205 [some (.ref 69), none, some (.int v2), some (.int v3), none] (r.toList ++ []) A)) :
    aw_z X (d + 1) y_M_go Q 194 [some (.ref 69), none, some (.int v2), some (.int v3), none] [.int s0] (aw_s I L D) :=
  (z_if_ne (tgt := 211) d_M_go_194 rfl (fun q1 => (h1 q1)) (fun q2 => (s_M_go_197.go [some (.ref 69), none, some (.int v2), some (.int v3), none] [.int (I 69 4), .ref 69] (aw_s I L D) rfl (z_callV (av := [.int (I 69 4)]) (st := []) ok_M_byteAt (Or.inl w_1773) w_1775 w_76 k_M d_M_go_202 rfl (aw_lt (o := 69) rfl) rfl rfl (Nat.le_of_ble_eq_true rfl) (Nat.le_refl _) (Nat.le_refl _) (h2 q2)))))
theorem d_M_go_211 : decode y_M_go.2.1 211 = .ok (.aload_n 0, 1) := by decide +kernel
theorem d_M_go_212 : decode y_M_go.2.1 212 = .ok (.getfield 7, 3) := by decide +kernel
theorem d_M_go_215 : decode y_M_go.2.1 215 = .ok (.aload_n 0, 1) := by decide +kernel
theorem d_M_go_216 : decode y_M_go.2.1 216 = .ok (.getfield 173, 3) := by decide +kernel
theorem s_M_go_211 : aw_VS y_M_go 211 [o_ald 0, o_getA 9 1, o_ald 0, o_getI 9 4] 219 := .cons (v_aload_n (i := 0) d_M_go_211 rfl) (.cons (v_getA (k := 1) k_M (by decide) rfl (Or.inl w_1462) d_M_go_212) (.cons (v_aload_n (i := 0) d_M_go_215 rfl) (.cons (v_getI (k := 4) k_M (by decide) (Or.inl rfl) (Or.inl w_1465) d_M_go_216) .nil)))
theorem d_M_go_219 : decode y_M_go.2.1 219 = .ok (.iaload, 1) := by decide +kernel
theorem d_M_go_220 : decode y_M_go.2.1 220 = .ok (.istore 4, 2) := by decide +kernel
theorem d_M_go_222 : decode y_M_go.2.1 222 = .ok (.iload_n 3, 1) := by decide +kernel
theorem s_M_go_220 : aw_VS y_M_go 220 [o_ist 4, o_ild 3] 223 := .cons (v_istore d_M_go_220) (.cons (v_iload_n (i := 3) d_M_go_222 rfl) .nil)
theorem d_M_go_223 : decode y_M_go.2.1 223 = .ok (.ifCond .eq (16), 3) := by decide +kernel
theorem d_M_go_226 : decode y_M_go.2.1 226 = .ok (.iload 4, 2) := by decide +kernel
theorem s_M_go_226 : aw_VS y_M_go 226 [o_ild 4] 228 := .cons (v_iload (i := 4) d_M_go_226) .nil
theorem d_M_go_228 : decode y_M_go.2.1 228 = .ok (.invokestatic 182, 3) := by decide +kernel
theorem b_M_go_211 {X : aw_X} {d : Nat} {Q : Option Value → aw_H → Prop} {I : Nat → Nat → Int32} {L : Nat → Nat → Int64} {D : Nat → Nat} {v2 : Int32} {v3 : Int32}
    (h1 : vp_in (I 69 4) 540)
    (h2 : v3 = 0 → aw_z X (d + 1) y_M_go Q 239 [some (.ref 69), none, some (.int v2), none, some (.int (I 70 ((I 69 4).toNatClampNeg)))] [] (aw_s I L D))
    (h3 : ¬ v3 = 0 → aw_m X d y_M_isLetter [.int (I 70 ((I 69 4).toNatClampNeg))] (aw_s I L D) (fun r A => aw_z X (d + 1) y_M_go Q 231 [some (.ref 69), none, some (.int v2), none, some (.int (I 70 ((I 69 4).toNatClampNeg)))] (r.toList ++ []) A)) :
    aw_z X (d + 1) y_M_go Q 211 [some (.ref 69), none, some (.int v2), some (.int v3), none] [] (aw_s I L D) :=
  (s_M_go_211.go [some (.ref 69), none, some (.int v2), some (.int v3), none] [.int (I 69 4), .ref 70] (aw_s I L D) rfl (z_iald (n := 540) rfl (aw_lt (o := 70) rfl) (h1) d_M_go_219 (s_M_go_220.go [some (.ref 69), none, some (.int v2), some (.int v3), some (.int (I 70 ((I 69 4).toNatClampNeg)))] [.int v3] (aw_s I L D) rfl (z_if_eq (tgt := 239) d_M_go_223 rfl (fun q1 => (aw_Z.weak (ls' := [some (.ref 69), none, some (.int v2), none, some (.int (I 70 ((I 69 4).toNatClampNeg)))]) (h2 q1) (Nat.le_of_ble_eq_true rfl) ⟨Or.inr rfl, ⟨Or.inl rfl, ⟨Or.inr rfl, ⟨Or.inl rfl, ⟨Or.inr rfl, trivial⟩⟩⟩⟩⟩)) (fun q2 => (s_M_go_226.go [some (.ref 69), none, some (.int v2), some (.int v3), some (.int (I 70 ((I 69 4).toNatClampNeg)))] [.int (I 70 ((I 69 4).toNatClampNeg))] (aw_s I L D) rfl (z_callS (av := [.int (I 70 ((I 69 4).toNatClampNeg))]) (st := []) ok_M_isLetter (Or.inl w_1764) w_1765 d_M_go_228 rfl rfl (Nat.le_of_ble_eq_true rfl) (Nat.le_refl _) (Nat.le_refl _) (aw_C.mono (h3 q2) (fun _ _ zz => aw_Z.weak (ls' := [some (.ref 69), none, some (.int v2), none, some (.int (I 70 ((I 69 4).toNatClampNeg)))]) zz (Nat.le_of_ble_eq_true rfl) ⟨Or.inr rfl, ⟨Or.inl rfl, ⟨Or.inr rfl, ⟨Or.inl rfl, ⟨Or.inr rfl, trivial⟩⟩⟩⟩⟩)))))))))
theorem d_M_go_205 : decode y_M_go.2.1 205 = .ok (.invokestatic 186, 3) := by decide +kernel
theorem b_M_go_205 {X : aw_X} {d : Nat} {Q : Option Value → aw_H → Prop} {I : Nat → Nat → Int32} {L : Nat → Nat → Int64} {D : Nat → Nat} {v2 : Int32} {v3 : Int32} {s0 : Int32}
    (h1 : aw_m X d y_M_isDigit [.int s0] (aw_s I L D) (fun r A => aw_z X (d + 1) y_M_go Q 208 [some (.ref 69), none, some (.int v2), some (.int v3), none] (r.toList ++ []) A)) :
    aw_z X (d + 1) y_M_go Q 205 [some (.ref 69), none, some (.int v2), some (.int v3), none] [.int s0] (aw_s I L D) :=
  (z_callS (av := [.int s0]) (st := []) ok_M_isDigit (Or.inl w_1767) w_1768 d_M_go_205 rfl rfl (Nat.le_of_ble_eq_true rfl) (Nat.le_refl _) (Nat.le_refl _) (h1))
theorem d_M_go_239 : decode y_M_go.2.1 239 = .ok (.iconst 0, 1) := by decide +kernel
theorem s_M_go_239 : aw_VS y_M_go 239 [o_c (.int (0 : Int32))] 240 := .cons (v_iconst (v := (0 : Int32)) d_M_go_239 (by decide +kernel)) .nil
theorem b_M_go_239 {X : aw_X} {d : Nat} {Q : Option Value → aw_H → Prop} {I : Nat → Nat → Int32} {L : Nat → Nat → Int64} {D : Nat → Nat} {v2 : Int32} {v4 : Int32}
    (h1 : aw_z X (d + 1) y_M_go Q 240 [some (.ref 69), none, some (.int v2), none, some (.int v4)] [.int (0 : Int32)] (aw_s I L D)) :
    aw_z X (d + 1) y_M_go Q 239 [some (.ref 69), none, some (.int v2), none, some (.int v4)] [] (aw_s I L D) :=
  (s_M_go_239.go [some (.ref 69), none, some (.int v2), none, some (.int v4)] [.int (0 : Int32)] (aw_s I L D) rfl (h1))
theorem d_M_go_231 : decode y_M_go.2.1 231 = .ok (.iload_n 2, 1) := by decide +kernel
theorem s_M_go_231 : aw_VS y_M_go 231 [o_ild 2] 232 := .cons (v_iload_n (i := 2) d_M_go_231 rfl) .nil
theorem d_M_go_232 : decode y_M_go.2.1 232 = .ok (.if_icmp .ne (7), 3) := by decide +kernel
theorem d_M_go_235 : decode y_M_go.2.1 235 = .ok (.iconst 1, 1) := by decide +kernel
theorem s_M_go_235 : aw_VS y_M_go 235 [o_c (.int (1 : Int32))] 236 := .cons (v_iconst (v := (1 : Int32)) d_M_go_235 (by decide +kernel)) .nil
theorem d_M_go_236 : decode y_M_go.2.1 236 = .ok (.goto (4), 3) := by decide +kernel
theorem b_M_go_231 {X : aw_X} {d : Nat} {Q : Option Value → aw_H → Prop} {I : Nat → Nat → Int32} {L : Nat → Nat → Int64} {D : Nat → Nat} {v2 : Int32} {v4 : Int32} {s0 : Int32}
    (h1 : ¬ s0 = v2 → aw_z X (d + 1) y_M_go Q 239 [some (.ref 69), none, some (.int v2), none, some (.int v4)] [] (aw_s I L D))
    (h2 : s0 = v2 → aw_z X (d + 1) y_M_go Q 240 [some (.ref 69), none, some (.int v2), none, some (.int v4)] [.int (1 : Int32)] (aw_s I L D)) :
    aw_z X (d + 1) y_M_go Q 231 [some (.ref 69), none, some (.int v2), none, some (.int v4)] [.int s0] (aw_s I L D) :=
  (s_M_go_231.go [some (.ref 69), none, some (.int v2), none, some (.int v4)] [.int v2, .int s0] (aw_s I L D) rfl (z_icmp_ne (tgt := 239) d_M_go_232 rfl (fun q1 => (h1 q1)) (fun q2 => (s_M_go_235.go [some (.ref 69), none, some (.int v2), none, some (.int v4)] [.int (1 : Int32)] (aw_s I L D) rfl (z_goto (tgt := 240) d_M_go_236 rfl (h2 q2))))))
theorem d_M_go_208 : decode y_M_go.2.1 208 = .ok (.ifCond .eq (109), 3) := by decide +kernel
theorem d_M_go_317 : decode y_M_go.2.1 317 = .ok (.aload_n 0, 1) := by decide +kernel
theorem d_M_go_318 : decode y_M_go.2.1 318 = .ok (.iload_n 3, 1) := by decide +kernel
theorem s_M_go_317 : aw_VS y_M_go 317 [o_ald 0, o_ild 3] 319 := .cons (v_aload_n (i := 0) d_M_go_317 rfl) (.cons (v_iload_n (i := 3) d_M_go_318 rfl) .nil)
theorem d_M_go_319 : decode y_M_go.2.1 319 = .ok (.ifCond .eq (24), 3) := by decide +kernel
theorem d_M_go_343 : decode y_M_go.2.1 343 = .ok (.iconst 1, 1) := by decide +kernel
theorem s_M_go_343 : aw_VS y_M_go 343 [o_c (.int (1 : Int32))] 344 := .cons (v_iconst (v := (1 : Int32)) d_M_go_343 (by decide +kernel)) .nil
theorem d_M_go_344 : decode y_M_go.2.1 344 = .ok (.goto (12), 3) := by decide +kernel
theorem d_M_go_356 : decode y_M_go.2.1 356 = .ok (.putfield 179, 3) := by decide +kernel
theorem s_M_go_356 : aw_VS y_M_go 356 [o_putI 9 6] 359 := .cons (v_putI (k := 6) k_M (by decide) rfl (Or.inl ⟨rfl, Or.inl w_1467⟩) d_M_go_356) .nil
theorem d_M_go_359 : decode y_M_go.2.1 359 = .ok (.return_, 1) := by decide +kernel
theorem d_M_go_322 : decode y_M_go.2.1 322 = .ok (.aload_n 0, 1) := by decide +kernel
theorem d_M_go_323 : decode y_M_go.2.1 323 = .ok (.getfield 173, 3) := by decide +kernel
theorem d_M_go_326 : decode y_M_go.2.1 326 = .ok (.aload_n 0, 1) := by decide +kernel
theorem d_M_go_327 : decode y_M_go.2.1 327 = .ok (.getfield 176, 3) := by decide +kernel
theorem d_M_go_330 : decode y_M_go.2.1 330 = .ok (.isub, 1) := by decide +kernel
theorem d_M_go_331 : decode y_M_go.2.1 331 = .ok (.iload_n 2, 1) := by decide +kernel
theorem s_M_go_322 : aw_VS y_M_go 322 [o_ald 0, o_getI 9 4, o_ald 0, o_getI 9 5, o_i2 (fun x z => x - z), o_ild 2] 332 := .cons (v_aload_n (i := 0) d_M_go_322 rfl) (.cons (v_getI (k := 4) k_M (by decide) (Or.inl rfl) (Or.inl w_1465) d_M_go_323) (.cons (v_aload_n (i := 0) d_M_go_326 rfl) (.cons (v_getI (k := 5) k_M (by decide) (Or.inl rfl) (Or.inl w_1466) d_M_go_327) (.cons (v_isub d_M_go_330) (.cons (v_iload_n (i := 2) d_M_go_331 rfl) .nil)))))
theorem d_M_go_332 : decode y_M_go.2.1 332 = .ok (.ifCond .eq (7), 3) := by decide +kernel
theorem d_M_go_339 : decode y_M_go.2.1 339 = .ok (.iconst 3, 1) := by decide +kernel
theorem s_M_go_339 : aw_VS y_M_go 339 [o_c (.int (3 : Int32))] 340 := .cons (v_iconst (v := (3 : Int32)) d_M_go_339 (by decide +kernel)) .nil
theorem d_M_go_335 : decode y_M_go.2.1 335 = .ok (.iconst 5, 1) := by decide +kernel
theorem s_M_go_335 : aw_VS y_M_go 335 [o_c (.int (5 : Int32))] 336 := .cons (v_iconst (v := (5 : Int32)) d_M_go_335 (by decide +kernel)) .nil
theorem d_M_go_336 : decode y_M_go.2.1 336 = .ok (.goto (4), 3) := by decide +kernel
theorem b_M_go_208 {X : aw_X} {d : Nat} {Q : Option Value → aw_H → Prop} {I : Nat → Nat → Int32} {L : Nat → Nat → Int64} {D : Nat → Nat} {v2 : Int32} {v3 : Int32} {s0 : Int32}
    (h1 : s0 = 0 → v3 = 0 → Q none (aw_s (aw_u I 69 6 (1 : Int32)) L D))
    (h2 : s0 = 0 → ¬ v3 = 0 → v2 = 0 → aw_z X (d + 1) y_M_go Q 340 [none, none, some (.int v2), none, none] [.int (3 : Int32), .int ((I 69 4) - (I 69 5)), .ref 69] (aw_s I L D))
    (h3 : s0 = 0 → ¬ v3 = 0 → ¬ v2 = 0 → aw_z X (d + 1) y_M_go Q 340 [none, none, some (.int v2), none, none] [.int (5 : Int32), .int ((I 69 4) - (I 69 5)), .ref 69] (aw_s I L D))
    (h4 : ¬ s0 = 0 → aw_z X (d + 1) y_M_go Q 211 [some (.ref 69), none, some (.int v2), some (.int v3), none] [] (aw_s I L D)) :
    aw_z X (d + 1) y_M_go Q 208 [some (.ref 69), none, some (.int v2), some (.int v3), none] [.int s0] (aw_s I L D) :=
  (z_if_eq (tgt := 317) d_M_go_208 rfl (fun q1 => (s_M_go_317.go [some (.ref 69), none, some (.int v2), some (.int v3), none] [.int v3, .ref 69] (aw_s I L D) rfl (z_if_eq (tgt := 343) d_M_go_319 rfl (fun q3 => (s_M_go_343.go [some (.ref 69), none, some (.int v2), some (.int v3), none] [.int (1 : Int32), .ref 69] (aw_s I L D) rfl (z_goto (tgt := 356) d_M_go_344 rfl (s_M_go_356.go [some (.ref 69), none, some (.int v2), some (.int v3), none] [] (aw_s (aw_u I 69 6 (1 : Int32)) L D) rfl (z_vret d_M_go_359 rfl (h1 q1 q3)))))) (fun q4 => (s_M_go_322.go [some (.ref 69), none, some (.int v2), some (.int v3), none] [.int v2, .int ((I 69 4) - (I 69 5)), .ref 69] (aw_s I L D) rfl (z_if_eq (tgt := 339) d_M_go_332 rfl (fun q5 => (s_M_go_339.go [some (.ref 69), none, some (.int v2), some (.int v3), none] [.int (3 : Int32), .int ((I 69 4) - (I 69 5)), .ref 69] (aw_s I L D) rfl (aw_Z.weak (ls' := [none, none, some (.int v2), none, none]) (h2 q1 q4 q5) (Nat.le_of_ble_eq_true rfl) ⟨Or.inl rfl, ⟨Or.inl rfl, ⟨Or.inr rfl, ⟨Or.inl rfl, ⟨Or.inl rfl, trivial⟩⟩⟩⟩⟩))) (fun q6 => (s_M_go_335.go [some (.ref 69), none, some (.int v2), some (.int v3), none] [.int (5 : Int32), .int ((I 69 4) - (I 69 5)), .ref 69] (aw_s I L D) rfl (z_goto (tgt := 340) d_M_go_336 rfl (aw_Z.weak (ls' := [none, none, some (.int v2), none, none]) (h3 q1 q4 q6) (Nat.le_of_ble_eq_true rfl) ⟨Or.inl rfl, ⟨Or.inl rfl, ⟨Or.inr rfl, ⟨Or.inl rfl, ⟨Or.inl rfl, trivial⟩⟩⟩⟩⟩)))))))))) (fun q2 => (h4 q2)))
theorem d_M_go_240 : decode y_M_go.2.1 240 = .ok (.istore_n 3, 1) := by decide +kernel
theorem d_M_go_241 : decode y_M_go.2.1 241 = .ok (.aload_n 0, 1) := by decide +kernel
theorem d_M_go_242 : decode y_M_go.2.1 242 = .ok (.getfield 173, 3) := by decide +kernel
theorem d_M_go_245 : decode y_M_go.2.1 245 = .ok (.aload_n 0, 1) := by decide +kernel
theorem d_M_go_246 : decode y_M_go.2.1 246 = .ok (.getfield 176, 3) := by decide +kernel
theorem d_M_go_249 : decode y_M_go.2.1 249 = .ok (.isub, 1) := by decide +kernel
theorem d_M_go_250 : decode y_M_go.2.1 250 = .ok (.iconst 5, 1) := by decide +kernel
theorem s_M_go_240 : aw_VS y_M_go 240 [o_ist 3, o_ald 0, o_getI 9 4, o_ald 0, o_getI 9 5, o_i2 (fun x z => x - z), o_c (.int (5 : Int32))] 251 := .cons (v_istore_n d_M_go_240) (.cons (v_aload_n (i := 0) d_M_go_241 rfl) (.cons (v_getI (k := 4) k_M (by decide) (Or.inl rfl) (Or.inl w_1465) d_M_go_242) (.cons (v_aload_n (i := 0) d_M_go_245 rfl) (.cons (v_getI (k := 5) k_M (by decide) (Or.inl rfl) (Or.inl w_1466) d_M_go_246) (.cons (v_isub d_M_go_249) (.cons (v_iconst (v := (5 : Int32)) d_M_go_250 (by decide +kernel)) .nil))))))
theorem d_M_go_251 : decode y_M_go.2.1 251 = .ok (.if_icmp .ge (23), 3) := by decide +kernel
theorem d_M_go_254 : decode y_M_go.2.1 254 = .ok (.aload_n 0, 1) := by decide +kernel
theorem d_M_go_255 : decode y_M_go.2.1 255 = .ok (.ldc2_w 206, 3) := by decide +kernel
theorem d_M_go_258 : decode y_M_go.2.1 258 = .ok (.aload_n 0, 1) := by decide +kernel
theorem d_M_go_259 : decode y_M_go.2.1 259 = .ok (.getfield 195, 3) := by decide +kernel
theorem d_M_go_262 : decode y_M_go.2.1 262 = .ok (.lmul, 1) := by decide +kernel
theorem d_M_go_263 : decode y_M_go.2.1 263 = .ok (.iload 4, 2) := by decide +kernel
theorem d_M_go_265 : decode y_M_go.2.1 265 = .ok (.i2l, 1) := by decide +kernel
theorem d_M_go_266 : decode y_M_go.2.1 266 = .ok (.ladd, 1) := by decide +kernel
theorem d_M_go_267 : decode y_M_go.2.1 267 = .ok (.ldc2_w 208, 3) := by decide +kernel
theorem d_M_go_270 : decode y_M_go.2.1 270 = .ok (.lsub, 1) := by decide +kernel
theorem d_M_go_271 : decode y_M_go.2.1 271 = .ok (.putfield 195, 3) := by decide +kernel
theorem s_M_go_254 : aw_VS y_M_go 254 [o_ald 0, o_c (.long (27 : Int64)), o_ald 0, o_getJ 9 11, o_l2 (fun x z => x * z), o_ild 4, o_il (fun x => x.toInt64), o_l2 (fun x z => x + z), o_c (.long (96 : Int64)), o_l2 (fun x z => x - z), o_putJ 9 11] 274 := .cons (v_aload_n (i := 0) d_M_go_254 rfl) (.cons (v_ldc2 d_M_go_255 w_1777) (.cons (v_aload_n (i := 0) d_M_go_258 rfl) (.cons (v_getJ (k := 11) k_M (by decide) rfl (Or.inl w_1472) d_M_go_259) (.cons (v_lmul d_M_go_262) (.cons (v_iload (i := 4) d_M_go_263) (.cons (v_i2l d_M_go_265) (.cons (v_ladd d_M_go_266) (.cons (v_ldc2 d_M_go_267 w_1778) (.cons (v_lsub d_M_go_270) (.cons (v_putJ (k := 11) k_M (by decide) rfl (Or.inl ⟨rfl, Or.inl w_1472⟩) d_M_go_271) .nil))))))))))
theorem b_M_go_240 {X : aw_X} {d : Nat} {Q : Option Value → aw_H → Prop} {I : Nat → Nat → Int32} {L : Nat → Nat → Int64} {D : Nat → Nat} {v2 : Int32} {v4 : Int32} {s0 : Int32}
    (h1 : (5 : Int32) ≤ ((I 69 4) - (I 69 5)) → aw_z X (d + 1) y_M_go Q 274 [some (.ref 69), none, some (.int v2), some (.int s0), some (.int v4)] [] (aw_s I L D))
    (h2 : ¬ (5 : Int32) ≤ ((I 69 4) - (I 69 5)) → aw_z X (d + 1) y_M_go Q 274 [some (.ref 69), none, some (.int v2), some (.int s0), some (.int v4)] [] (aw_s I (aw_u L 69 11 ((((27 : Int64) * (L 69 11)) + v4.toInt64) - (96 : Int64))) D)) :
    aw_z X (d + 1) y_M_go Q 240 [some (.ref 69), none, some (.int v2), none, some (.int v4)] [.int s0] (aw_s I L D) :=
  (s_M_go_240.go [some (.ref 69), none, some (.int v2), some (.int s0), some (.int v4)] [.int (5 : Int32), .int ((I 69 4) - (I 69 5))] (aw_s I L D) rfl (z_icmp_ge (tgt := 274) d_M_go_251 rfl (fun q1 => (h1 q1)) (fun q2 => (s_M_go_254.go [some (.ref 69), none, some (.int v2), some (.int s0), some (.int v4)] [] (aw_s I (aw_u L 69 11 ((((27 : Int64) * (L 69 11)) + v4.toInt64) - (96 : Int64))) D) rfl (h2 q2)))))
theorem d_M_go_340 : decode y_M_go.2.1 340 = .ok (.if_icmp .le (7), 3) := by decide +kernel
theorem d_M_go_347 : decode y_M_go.2.1 347 = .ok (.iload_n 2, 1) := by decide +kernel
theorem s_M_go_347 : aw_VS y_M_go 347 [o_ild 2] 348 := .cons (v_iload_n (i := 2) d_M_go_347 rfl) .nil
theorem d_M_go_348 : decode y_M_go.2.1 348 = .ok (.ifCond .eq (7), 3) := by decide +kernel
theorem d_M_go_355 : decode y_M_go.2.1 355 = .ok (.iconst 3, 1) := by decide +kernel
theorem s_M_go_355 : aw_VS y_M_go 355 [o_c (.int (3 : Int32))] 356 := .cons (v_iconst (v := (3 : Int32)) d_M_go_355 (by decide +kernel)) .nil
theorem d_M_go_351 : decode y_M_go.2.1 351 = .ok (.iconst 2, 1) := by decide +kernel
theorem s_M_go_351 : aw_VS y_M_go 351 [o_c (.int (2 : Int32))] 352 := .cons (v_iconst (v := (2 : Int32)) d_M_go_351 (by decide +kernel)) .nil
theorem d_M_go_352 : decode y_M_go.2.1 352 = .ok (.goto (4), 3) := by decide +kernel
theorem b_M_go_340 {X : aw_X} {d : Nat} {Q : Option Value → aw_H → Prop} {I : Nat → Nat → Int32} {L : Nat → Nat → Int64} {D : Nat → Nat} {v2 : Int32} {s2 : Int32} {s1 : Int32}
    (h1 : s1 ≤ s2 → v2 = 0 → Q none (aw_s (aw_u I 69 6 (3 : Int32)) L D))
    (h2 : s1 ≤ s2 → ¬ v2 = 0 → Q none (aw_s (aw_u I 69 6 (2 : Int32)) L D))
    (h3 : ¬ s1 ≤ s2 → Q none (aw_s (aw_u I 69 6 (1 : Int32)) L D)) :
    aw_z X (d + 1) y_M_go Q 340 [none, none, some (.int v2), none, none] [.int s2, .int s1, .ref 69] (aw_s I L D) :=
  (z_icmp_le (tgt := 347) d_M_go_340 rfl (fun q1 => (s_M_go_347.go [none, none, some (.int v2), none, none] [.int v2, .ref 69] (aw_s I L D) rfl (z_if_eq (tgt := 355) d_M_go_348 rfl (fun q3 => (s_M_go_355.go [none, none, some (.int v2), none, none] [.int (3 : Int32), .ref 69] (aw_s I L D) rfl (s_M_go_356.go [none, none, some (.int v2), none, none] [] (aw_s (aw_u I 69 6 (3 : Int32)) L D) rfl (z_vret d_M_go_359 rfl (h1 q1 q3))))) (fun q4 => (s_M_go_351.go [none, none, some (.int v2), none, none] [.int (2 : Int32), .ref 69] (aw_s I L D) rfl (z_goto (tgt := 356) d_M_go_352 rfl (s_M_go_356.go [none, none, some (.int v2), none, none] [] (aw_s (aw_u I 69 6 (2 : Int32)) L D) rfl (z_vret d_M_go_359 rfl (h2 q1 q4))))))))) (fun q2 => (s_M_go_343.go [none, none, some (.int v2), none, none] [.int (1 : Int32), .ref 69] (aw_s I L D) rfl (z_goto (tgt := 356) d_M_go_344 rfl (s_M_go_356.go [none, none, some (.int v2), none, none] [] (aw_s (aw_u I 69 6 (1 : Int32)) L D) rfl (z_vret d_M_go_359 rfl (h3 q2)))))))
theorem d_M_go_274 : decode y_M_go.2.1 274 = .ok (.aload_n 0, 1) := by decide +kernel
theorem d_M_go_275 : decode y_M_go.2.1 275 = .ok (.getfield 173, 3) := by decide +kernel
theorem d_M_go_278 : decode y_M_go.2.1 278 = .ok (.aload_n 0, 1) := by decide +kernel
theorem d_M_go_279 : decode y_M_go.2.1 279 = .ok (.getfield 176, 3) := by decide +kernel
theorem d_M_go_282 : decode y_M_go.2.1 282 = .ok (.isub, 1) := by decide +kernel
theorem d_M_go_283 : decode y_M_go.2.1 283 = .ok (.iconst 3, 1) := by decide +kernel
theorem s_M_go_274 : aw_VS y_M_go 274 [o_ald 0, o_getI 9 4, o_ald 0, o_getI 9 5, o_i2 (fun x z => x - z), o_c (.int (3 : Int32))] 284 := .cons (v_aload_n (i := 0) d_M_go_274 rfl) (.cons (v_getI (k := 4) k_M (by decide) (Or.inl rfl) (Or.inl w_1465) d_M_go_275) (.cons (v_aload_n (i := 0) d_M_go_278 rfl) (.cons (v_getI (k := 5) k_M (by decide) (Or.inl rfl) (Or.inl w_1466) d_M_go_279) (.cons (v_isub d_M_go_282) (.cons (v_iconst (v := (3 : Int32)) d_M_go_283 (by decide +kernel)) .nil)))))
theorem d_M_go_284 : decode y_M_go.2.1 284 = .ok (.if_icmp .ge (20), 3) := by decide +kernel
theorem d_M_go_287 : decode y_M_go.2.1 287 = .ok (.aload_n 0, 1) := by decide +kernel
theorem d_M_go_288 : decode y_M_go.2.1 288 = .ok (.bipush 10, 2) := by decide +kernel
theorem d_M_go_290 : decode y_M_go.2.1 290 = .ok (.aload_n 0, 1) := by decide +kernel
theorem d_M_go_291 : decode y_M_go.2.1 291 = .ok (.getfield 199, 3) := by decide +kernel
theorem d_M_go_294 : decode y_M_go.2.1 294 = .ok (.imul, 1) := by decide +kernel
theorem d_M_go_295 : decode y_M_go.2.1 295 = .ok (.iload 4, 2) := by decide +kernel
theorem d_M_go_297 : decode y_M_go.2.1 297 = .ok (.iadd, 1) := by decide +kernel
theorem d_M_go_298 : decode y_M_go.2.1 298 = .ok (.bipush 48, 2) := by decide +kernel
theorem d_M_go_300 : decode y_M_go.2.1 300 = .ok (.isub, 1) := by decide +kernel
theorem d_M_go_301 : decode y_M_go.2.1 301 = .ok (.putfield 199, 3) := by decide +kernel
theorem s_M_go_287 : aw_VS y_M_go 287 [o_ald 0, o_c (.int (10 : Int32)), o_ald 0, o_getI 9 7, o_i2 (fun x z => x * z), o_ild 4, o_i2 (fun x z => x + z), o_c (.int (48 : Int32)), o_i2 (fun x z => x - z), o_putI 9 7] 304 := .cons (v_aload_n (i := 0) d_M_go_287 rfl) (.cons (v_bipush (v := (10 : Int32)) d_M_go_288 (by decide +kernel)) (.cons (v_aload_n (i := 0) d_M_go_290 rfl) (.cons (v_getI (k := 7) k_M (by decide) (Or.inl rfl) (Or.inl w_1468) d_M_go_291) (.cons (v_imul d_M_go_294) (.cons (v_iload (i := 4) d_M_go_295) (.cons (v_iadd d_M_go_297) (.cons (v_bipush (v := (48 : Int32)) d_M_go_298 (by decide +kernel)) (.cons (v_isub d_M_go_300) (.cons (v_putI (k := 7) k_M (by decide) rfl (Or.inl ⟨rfl, Or.inl w_1468⟩) d_M_go_301) .nil)))))))))
theorem b_M_go_274 {X : aw_X} {d : Nat} {Q : Option Value → aw_H → Prop} {I : Nat → Nat → Int32} {L : Nat → Nat → Int64} {D : Nat → Nat} {v2 : Int32} {v3 : Int32} {v4 : Int32}
    (h1 : (3 : Int32) ≤ ((I 69 4) - (I 69 5)) → aw_z X (d + 1) y_M_go Q 304 [some (.ref 69), none, some (.int v2), some (.int v3), none] [] (aw_s I L D))
    (h2 : ¬ (3 : Int32) ≤ ((I 69 4) - (I 69 5)) → aw_z X (d + 1) y_M_go Q 304 [some (.ref 69), none, some (.int v2), some (.int v3), none] [] (aw_s (aw_u I 69 7 ((((10 : Int32) * (I 69 7)) + v4) - (48 : Int32))) L D)) :
    aw_z X (d + 1) y_M_go Q 274 [some (.ref 69), none, some (.int v2), some (.int v3), some (.int v4)] [] (aw_s I L D) :=
  (s_M_go_274.go [some (.ref 69), none, some (.int v2), some (.int v3), some (.int v4)] [.int (3 : Int32), .int ((I 69 4) - (I 69 5))] (aw_s I L D) rfl (z_icmp_ge (tgt := 304) d_M_go_284 rfl (fun q1 => (aw_Z.weak (ls' := [some (.ref 69), none, some (.int v2), some (.int v3), none]) (h1 q1) (Nat.le_of_ble_eq_true rfl) ⟨Or.inr rfl, ⟨Or.inl rfl, ⟨Or.inr rfl, ⟨Or.inr rfl, ⟨Or.inl rfl, trivial⟩⟩⟩⟩⟩)) (fun q2 => (s_M_go_287.go [some (.ref 69), none, some (.int v2), some (.int v3), some (.int v4)] [] (aw_s (aw_u I 69 7 ((((10 : Int32) * (I 69 7)) + v4) - (48 : Int32))) L D) rfl (aw_Z.weak (ls' := [some (.ref 69), none, some (.int v2), some (.int v3), none]) (h2 q2) (Nat.le_of_ble_eq_true rfl) ⟨Or.inr rfl, ⟨Or.inl rfl, ⟨Or.inr rfl, ⟨Or.inr rfl, ⟨Or.inl rfl, trivial⟩⟩⟩⟩⟩)))))
theorem d_M_go_304 : decode y_M_go.2.1 304 = .ok (.aload_n 0, 1) := by decide +kernel
theorem d_M_go_305 : decode y_M_go.2.1 305 = .ok (.dup, 1) := by decide +kernel
theorem d_M_go_306 : decode y_M_go.2.1 306 = .ok (.getfield 173, 3) := by decide +kernel
theorem d_M_go_309 : decode y_M_go.2.1 309 = .ok (.iconst 1, 1) := by decide +kernel
theorem d_M_go_310 : decode y_M_go.2.1 310 = .ok (.iadd, 1) := by decide +kernel
theorem d_M_go_311 : decode y_M_go.2.1 311 = .ok (.putfield 173, 3) := by decide +kernel
theorem s_M_go_304 : aw_VS y_M_go 304 [o_ald 0, o_dup, o_getI 9 4, o_c (.int (1 : Int32)), o_i2 (fun x z => x + z), o_putI 9 4] 314 := .cons (v_aload_n (i := 0) d_M_go_304 rfl) (.cons (v_dup d_M_go_305) (.cons (v_getI (k := 4) k_M (by decide) (Or.inl rfl) (Or.inl w_1465) d_M_go_306) (.cons (v_iconst (v := (1 : Int32)) d_M_go_309 (by decide +kernel)) (.cons (v_iadd d_M_go_310) (.cons (v_putI (k := 4) k_M (by decide) rfl (Or.inl ⟨rfl, Or.inl w_1465⟩) d_M_go_311) .nil)))))
theorem d_M_go_314 : decode y_M_go.2.1 314 = .ok (.goto (-131), 3) := by decide +kernel
theorem b_M_go_304 {X : aw_X} {d : Nat} {Q : Option Value → aw_H → Prop} {I : Nat → Nat → Int32} {L : Nat → Nat → Int64} {D : Nat → Nat} {v2 : Int32} {v3 : Int32}
    (h1 : aw_z X (d + 1) y_M_go Q 183 [some (.ref 69), none, some (.int v2), some (.int v3), none] [] (aw_s (aw_u I 69 4 ((I 69 4) + (1 : Int32))) L D)) :
    aw_z X (d + 1) y_M_go Q 304 [some (.ref 69), none, some (.int v2), some (.int v3), none] [] (aw_s I L D) :=
  (s_M_go_304.go [some (.ref 69), none, some (.int v2), some (.int v3), none] [] (aw_s (aw_u I 69 4 ((I 69 4) + (1 : Int32))) L D) rfl (z_goto (tgt := 183) d_M_go_314 rfl (h1)))
/-! M_isLetter -/
theorem d_M_isLetter_0 : decode y_M_isLetter.2.1 0 = .ok (.iload_n 0, 1) := by decide +kernel
theorem d_M_isLetter_1 : decode y_M_isLetter.2.1 1 = .ok (.bipush 97, 2) := by decide +kernel
theorem s_M_isLetter_0 : aw_VS y_M_isLetter 0 [o_ild 0, o_c (.int (97 : Int32))] 3 := .cons (v_iload_n (i := 0) d_M_isLetter_0 rfl) (.cons (v_bipush (v := (97 : Int32)) d_M_isLetter_1 (by decide +kernel)) .nil)
theorem d_M_isLetter_3 : decode y_M_isLetter.2.1 3 = .ok (.if_icmp .lt (13), 3) := by decide +kernel
theorem d_M_isLetter_16 : decode y_M_isLetter.2.1 16 = .ok (.iconst 0, 1) := by decide +kernel
theorem s_M_isLetter_16 : aw_VS y_M_isLetter 16 [o_c (.int (0 : Int32))] 17 := .cons (v_iconst (v := (0 : Int32)) d_M_isLetter_16 (by decide +kernel)) .nil
theorem d_M_isLetter_17 : decode y_M_isLetter.2.1 17 = .ok (.ireturn, 1) := by decide +kernel
theorem d_M_isLetter_6 : decode y_M_isLetter.2.1 6 = .ok (.iload_n 0, 1) := by decide +kernel
theorem d_M_isLetter_7 : decode y_M_isLetter.2.1 7 = .ok (.bipush 122, 2) := by decide +kernel
theorem s_M_isLetter_6 : aw_VS y_M_isLetter 6 [o_ild 0, o_c (.int (122 : Int32))] 9 := .cons (v_iload_n (i := 0) d_M_isLetter_6 rfl) (.cons (v_bipush (v := (122 : Int32)) d_M_isLetter_7 (by decide +kernel)) .nil)
theorem d_M_isLetter_9 : decode y_M_isLetter.2.1 9 = .ok (.if_icmp .gt (7), 3) := by decide +kernel
theorem d_M_isLetter_12 : decode y_M_isLetter.2.1 12 = .ok (.iconst 1, 1) := by decide +kernel
theorem s_M_isLetter_12 : aw_VS y_M_isLetter 12 [o_c (.int (1 : Int32))] 13 := .cons (v_iconst (v := (1 : Int32)) d_M_isLetter_12 (by decide +kernel)) .nil
theorem d_M_isLetter_13 : decode y_M_isLetter.2.1 13 = .ok (.goto (4), 3) := by decide +kernel
theorem b_M_isLetter_0 {X : aw_X} {d : Nat} {Q : Option Value → aw_H → Prop} {I : Nat → Nat → Int32} {L : Nat → Nat → Int64} {D : Nat → Nat} {v0 : Int32}
    (h1 : v0 < (97 : Int32) → Q (some (.int (0 : Int32))) (aw_s I L D))
    (h2 : ¬ v0 < (97 : Int32) → (122 : Int32) < v0 → Q (some (.int (0 : Int32))) (aw_s I L D))
    (h3 : ¬ v0 < (97 : Int32) → ¬ (122 : Int32) < v0 → Q (some (.int (1 : Int32))) (aw_s I L D)) :
    aw_z X d y_M_isLetter Q 0 [some (.int v0)] [] (aw_s I L D) :=
  (s_M_isLetter_0.go [some (.int v0)] [.int (97 : Int32), .int v0] (aw_s I L D) rfl (z_icmp_lt (tgt := 16) d_M_isLetter_3 rfl (fun q1 => (s_M_isLetter_16.go [some (.int v0)] [.int (0 : Int32)] (aw_s I L D) rfl (z_iret d_M_isLetter_17 rfl (aw_nz (by decide +kernel)) (h1 q1)))) (fun q2 => (s_M_isLetter_6.go [some (.int v0)] [.int (122 : Int32), .int v0] (aw_s I L D) rfl (z_icmp_gt (tgt := 16) d_M_isLetter_9 rfl (fun q3 => (s_M_isLetter_16.go [some (.int v0)] [.int (0 : Int32)] (aw_s I L D) rfl (z_iret d_M_isLetter_17 rfl (aw_nz (by decide +kernel)) (h2 q2 q3)))) (fun q4 => (s_M_isLetter_12.go [some (.int v0)] [.int (1 : Int32)] (aw_s I L D) rfl (z_goto (tgt := 17) d_M_isLetter_13 rfl (z_iret d_M_isLetter_17 rfl (aw_nz (by decide +kernel)) (h3 q2 q4))))))))))
/-! M_isDigit -/
theorem d_M_isDigit_0 : decode y_M_isDigit.2.1 0 = .ok (.iload_n 0, 1) := by decide +kernel
theorem d_M_isDigit_1 : decode y_M_isDigit.2.1 1 = .ok (.bipush 48, 2) := by decide +kernel
theorem s_M_isDigit_0 : aw_VS y_M_isDigit 0 [o_ild 0, o_c (.int (48 : Int32))] 3 := .cons (v_iload_n (i := 0) d_M_isDigit_0 rfl) (.cons (v_bipush (v := (48 : Int32)) d_M_isDigit_1 (by decide +kernel)) .nil)
theorem d_M_isDigit_3 : decode y_M_isDigit.2.1 3 = .ok (.if_icmp .lt (13), 3) := by decide +kernel
theorem d_M_isDigit_16 : decode y_M_isDigit.2.1 16 = .ok (.iconst 0, 1) := by decide +kernel
theorem s_M_isDigit_16 : aw_VS y_M_isDigit 16 [o_c (.int (0 : Int32))] 17 := .cons (v_iconst (v := (0 : Int32)) d_M_isDigit_16 (by decide +kernel)) .nil
theorem d_M_isDigit_17 : decode y_M_isDigit.2.1 17 = .ok (.ireturn, 1) := by decide +kernel
theorem d_M_isDigit_6 : decode y_M_isDigit.2.1 6 = .ok (.iload_n 0, 1) := by decide +kernel
theorem d_M_isDigit_7 : decode y_M_isDigit.2.1 7 = .ok (.bipush 57, 2) := by decide +kernel
theorem s_M_isDigit_6 : aw_VS y_M_isDigit 6 [o_ild 0, o_c (.int (57 : Int32))] 9 := .cons (v_iload_n (i := 0) d_M_isDigit_6 rfl) (.cons (v_bipush (v := (57 : Int32)) d_M_isDigit_7 (by decide +kernel)) .nil)
theorem d_M_isDigit_9 : decode y_M_isDigit.2.1 9 = .ok (.if_icmp .gt (7), 3) := by decide +kernel
theorem d_M_isDigit_12 : decode y_M_isDigit.2.1 12 = .ok (.iconst 1, 1) := by decide +kernel
theorem s_M_isDigit_12 : aw_VS y_M_isDigit 12 [o_c (.int (1 : Int32))] 13 := .cons (v_iconst (v := (1 : Int32)) d_M_isDigit_12 (by decide +kernel)) .nil
theorem d_M_isDigit_13 : decode y_M_isDigit.2.1 13 = .ok (.goto (4), 3) := by decide +kernel
theorem b_M_isDigit_0 {X : aw_X} {d : Nat} {Q : Option Value → aw_H → Prop} {I : Nat → Nat → Int32} {L : Nat → Nat → Int64} {D : Nat → Nat} {v0 : Int32}
    (h1 : v0 < (48 : Int32) → Q (some (.int (0 : Int32))) (aw_s I L D))
    (h2 : ¬ v0 < (48 : Int32) → (57 : Int32) < v0 → Q (some (.int (0 : Int32))) (aw_s I L D))
    (h3 : ¬ v0 < (48 : Int32) → ¬ (57 : Int32) < v0 → Q (some (.int (1 : Int32))) (aw_s I L D)) :
    aw_z X d y_M_isDigit Q 0 [some (.int v0)] [] (aw_s I L D) :=
  (s_M_isDigit_0.go [some (.int v0)] [.int (48 : Int32), .int v0] (aw_s I L D) rfl (z_icmp_lt (tgt := 16) d_M_isDigit_3 rfl (fun q1 => (s_M_isDigit_16.go [some (.int v0)] [.int (0 : Int32)] (aw_s I L D) rfl (z_iret d_M_isDigit_17 rfl (aw_nz (by decide +kernel)) (h1 q1)))) (fun q2 => (s_M_isDigit_6.go [some (.int v0)] [.int (57 : Int32), .int v0] (aw_s I L D) rfl (z_icmp_gt (tgt := 16) d_M_isDigit_9 rfl (fun q3 => (s_M_isDigit_16.go [some (.int v0)] [.int (0 : Int32)] (aw_s I L D) rfl (z_iret d_M_isDigit_17 rfl (aw_nz (by decide +kernel)) (h2 q2 q3)))) (fun q4 => (s_M_isDigit_12.go [some (.int v0)] [.int (1 : Int32)] (aw_s I L D) rfl (z_goto (tgt := 17) d_M_isDigit_13 rfl (z_iret d_M_isDigit_17 rfl (aw_nz (by decide +kernel)) (h3 q2 q4))))))))))
/-! M_isMark -/
theorem d_M_isMark_0 : decode y_M_isMark.2.1 0 = .ok (.iload_n 0, 1) := by decide +kernel
theorem d_M_isMark_1 : decode y_M_isMark.2.1 1 = .ok (.bipush 59, 2) := by decide +kernel
theorem s_M_isMark_0 : aw_VS y_M_isMark 0 [o_ild 0, o_c (.int (59 : Int32))] 3 := .cons (v_iload_n (i := 0) d_M_isMark_0 rfl) (.cons (v_bipush (v := (59 : Int32)) d_M_isMark_1 (by decide +kernel)) .nil)
theorem d_M_isMark_3 : decode y_M_isMark.2.1 3 = .ok (.if_icmp .eq (39), 3) := by decide +kernel
theorem d_M_isMark_42 : decode y_M_isMark.2.1 42 = .ok (.iconst 1, 1) := by decide +kernel
theorem s_M_isMark_42 : aw_VS y_M_isMark 42 [o_c (.int (1 : Int32))] 43 := .cons (v_iconst (v := (1 : Int32)) d_M_isMark_42 (by decide +kernel)) .nil
theorem d_M_isMark_43 : decode y_M_isMark.2.1 43 = .ok (.ireturn, 1) := by decide +kernel
theorem d_M_isMark_6 : decode y_M_isMark.2.1 6 = .ok (.iload_n 0, 1) := by decide +kernel
theorem d_M_isMark_7 : decode y_M_isMark.2.1 7 = .ok (.bipush 123, 2) := by decide +kernel
theorem s_M_isMark_6 : aw_VS y_M_isMark 6 [o_ild 0, o_c (.int (123 : Int32))] 9 := .cons (v_iload_n (i := 0) d_M_isMark_6 rfl) (.cons (v_bipush (v := (123 : Int32)) d_M_isMark_7 (by decide +kernel)) .nil)
theorem d_M_isMark_9 : decode y_M_isMark.2.1 9 = .ok (.if_icmp .eq (33), 3) := by decide +kernel
theorem d_M_isMark_12 : decode y_M_isMark.2.1 12 = .ok (.iload_n 0, 1) := by decide +kernel
theorem d_M_isMark_13 : decode y_M_isMark.2.1 13 = .ok (.bipush 125, 2) := by decide +kernel
theorem s_M_isMark_12 : aw_VS y_M_isMark 12 [o_ild 0, o_c (.int (125 : Int32))] 15 := .cons (v_iload_n (i := 0) d_M_isMark_12 rfl) (.cons (v_bipush (v := (125 : Int32)) d_M_isMark_13 (by decide +kernel)) .nil)
theorem d_M_isMark_15 : decode y_M_isMark.2.1 15 = .ok (.if_icmp .eq (27), 3) := by decide +kernel
theorem d_M_isMark_18 : decode y_M_isMark.2.1 18 = .ok (.iload_n 0, 1) := by decide +kernel
theorem d_M_isMark_19 : decode y_M_isMark.2.1 19 = .ok (.bipush 40, 2) := by decide +kernel
theorem s_M_isMark_18 : aw_VS y_M_isMark 18 [o_ild 0, o_c (.int (40 : Int32))] 21 := .cons (v_iload_n (i := 0) d_M_isMark_18 rfl) (.cons (v_bipush (v := (40 : Int32)) d_M_isMark_19 (by decide +kernel)) .nil)
theorem d_M_isMark_21 : decode y_M_isMark.2.1 21 = .ok (.if_icmp .eq (21), 3) := by decide +kernel
theorem d_M_isMark_24 : decode y_M_isMark.2.1 24 = .ok (.iload_n 0, 1) := by decide +kernel
theorem d_M_isMark_25 : decode y_M_isMark.2.1 25 = .ok (.bipush 41, 2) := by decide +kernel
theorem s_M_isMark_24 : aw_VS y_M_isMark 24 [o_ild 0, o_c (.int (41 : Int32))] 27 := .cons (v_iload_n (i := 0) d_M_isMark_24 rfl) (.cons (v_bipush (v := (41 : Int32)) d_M_isMark_25 (by decide +kernel)) .nil)
theorem d_M_isMark_27 : decode y_M_isMark.2.1 27 = .ok (.if_icmp .eq (15), 3) := by decide +kernel
theorem d_M_isMark_30 : decode y_M_isMark.2.1 30 = .ok (.iload_n 0, 1) := by decide +kernel
theorem d_M_isMark_31 : decode y_M_isMark.2.1 31 = .ok (.bipush 91, 2) := by decide +kernel
theorem s_M_isMark_30 : aw_VS y_M_isMark 30 [o_ild 0, o_c (.int (91 : Int32))] 33 := .cons (v_iload_n (i := 0) d_M_isMark_30 rfl) (.cons (v_bipush (v := (91 : Int32)) d_M_isMark_31 (by decide +kernel)) .nil)
theorem d_M_isMark_33 : decode y_M_isMark.2.1 33 = .ok (.if_icmp .eq (9), 3) := by decide +kernel
theorem d_M_isMark_36 : decode y_M_isMark.2.1 36 = .ok (.iload_n 0, 1) := by decide +kernel
theorem d_M_isMark_37 : decode y_M_isMark.2.1 37 = .ok (.bipush 93, 2) := by decide +kernel
theorem s_M_isMark_36 : aw_VS y_M_isMark 36 [o_ild 0, o_c (.int (93 : Int32))] 39 := .cons (v_iload_n (i := 0) d_M_isMark_36 rfl) (.cons (v_bipush (v := (93 : Int32)) d_M_isMark_37 (by decide +kernel)) .nil)
theorem d_M_isMark_39 : decode y_M_isMark.2.1 39 = .ok (.if_icmp .ne (5), 3) := by decide +kernel
theorem d_M_isMark_44 : decode y_M_isMark.2.1 44 = .ok (.iload_n 0, 1) := by decide +kernel
theorem d_M_isMark_45 : decode y_M_isMark.2.1 45 = .ok (.bipush 43, 2) := by decide +kernel
theorem s_M_isMark_44 : aw_VS y_M_isMark 44 [o_ild 0, o_c (.int (43 : Int32))] 47 := .cons (v_iload_n (i := 0) d_M_isMark_44 rfl) (.cons (v_bipush (v := (43 : Int32)) d_M_isMark_45 (by decide +kernel)) .nil)
theorem d_M_isMark_47 : decode y_M_isMark.2.1 47 = .ok (.if_icmp .eq (45), 3) := by decide +kernel
theorem d_M_isMark_92 : decode y_M_isMark.2.1 92 = .ok (.iconst 1, 1) := by decide +kernel
theorem s_M_isMark_92 : aw_VS y_M_isMark 92 [o_c (.int (1 : Int32))] 93 := .cons (v_iconst (v := (1 : Int32)) d_M_isMark_92 (by decide +kernel)) .nil
theorem d_M_isMark_93 : decode y_M_isMark.2.1 93 = .ok (.goto (4), 3) := by decide +kernel
theorem d_M_isMark_97 : decode y_M_isMark.2.1 97 = .ok (.ireturn, 1) := by decide +kernel
theorem d_M_isMark_50 : decode y_M_isMark.2.1 50 = .ok (.iload_n 0, 1) := by decide +kernel
theorem d_M_isMark_51 : decode y_M_isMark.2.1 51 = .ok (.bipush 45, 2) := by decide +kernel
theorem s_M_isMark_50 : aw_VS y_M_isMark 50 [o_ild 0, o_c (.int (45 : Int32))] 53 := .cons (v_iload_n (i := 0) d_M_isMark_50 rfl) (.cons (v_bipush (v := (45 : Int32)) d_M_isMark_51 (by decide +kernel)) .nil)
theorem d_M_isMark_53 : decode y_M_isMark.2.1 53 = .ok (.if_icmp .eq (39), 3) := by decide +kernel
theorem d_M_isMark_56 : decode y_M_isMark.2.1 56 = .ok (.iload_n 0, 1) := by decide +kernel
theorem d_M_isMark_57 : decode y_M_isMark.2.1 57 = .ok (.bipush 42, 2) := by decide +kernel
theorem s_M_isMark_56 : aw_VS y_M_isMark 56 [o_ild 0, o_c (.int (42 : Int32))] 59 := .cons (v_iload_n (i := 0) d_M_isMark_56 rfl) (.cons (v_bipush (v := (42 : Int32)) d_M_isMark_57 (by decide +kernel)) .nil)
theorem d_M_isMark_59 : decode y_M_isMark.2.1 59 = .ok (.if_icmp .eq (33), 3) := by decide +kernel
theorem d_M_isMark_62 : decode y_M_isMark.2.1 62 = .ok (.iload_n 0, 1) := by decide +kernel
theorem d_M_isMark_63 : decode y_M_isMark.2.1 63 = .ok (.bipush 47, 2) := by decide +kernel
theorem s_M_isMark_62 : aw_VS y_M_isMark 62 [o_ild 0, o_c (.int (47 : Int32))] 65 := .cons (v_iload_n (i := 0) d_M_isMark_62 rfl) (.cons (v_bipush (v := (47 : Int32)) d_M_isMark_63 (by decide +kernel)) .nil)
theorem d_M_isMark_65 : decode y_M_isMark.2.1 65 = .ok (.if_icmp .eq (27), 3) := by decide +kernel
theorem d_M_isMark_68 : decode y_M_isMark.2.1 68 = .ok (.iload_n 0, 1) := by decide +kernel
theorem d_M_isMark_69 : decode y_M_isMark.2.1 69 = .ok (.bipush 61, 2) := by decide +kernel
theorem s_M_isMark_68 : aw_VS y_M_isMark 68 [o_ild 0, o_c (.int (61 : Int32))] 71 := .cons (v_iload_n (i := 0) d_M_isMark_68 rfl) (.cons (v_bipush (v := (61 : Int32)) d_M_isMark_69 (by decide +kernel)) .nil)
theorem d_M_isMark_71 : decode y_M_isMark.2.1 71 = .ok (.if_icmp .eq (21), 3) := by decide +kernel
theorem d_M_isMark_74 : decode y_M_isMark.2.1 74 = .ok (.iload_n 0, 1) := by decide +kernel
theorem d_M_isMark_75 : decode y_M_isMark.2.1 75 = .ok (.bipush 60, 2) := by decide +kernel
theorem s_M_isMark_74 : aw_VS y_M_isMark 74 [o_ild 0, o_c (.int (60 : Int32))] 77 := .cons (v_iload_n (i := 0) d_M_isMark_74 rfl) (.cons (v_bipush (v := (60 : Int32)) d_M_isMark_75 (by decide +kernel)) .nil)
theorem d_M_isMark_77 : decode y_M_isMark.2.1 77 = .ok (.if_icmp .eq (15), 3) := by decide +kernel
theorem d_M_isMark_80 : decode y_M_isMark.2.1 80 = .ok (.iload_n 0, 1) := by decide +kernel
theorem d_M_isMark_81 : decode y_M_isMark.2.1 81 = .ok (.bipush 62, 2) := by decide +kernel
theorem s_M_isMark_80 : aw_VS y_M_isMark 80 [o_ild 0, o_c (.int (62 : Int32))] 83 := .cons (v_iload_n (i := 0) d_M_isMark_80 rfl) (.cons (v_bipush (v := (62 : Int32)) d_M_isMark_81 (by decide +kernel)) .nil)
theorem d_M_isMark_83 : decode y_M_isMark.2.1 83 = .ok (.if_icmp .eq (9), 3) := by decide +kernel
theorem d_M_isMark_86 : decode y_M_isMark.2.1 86 = .ok (.iload_n 0, 1) := by decide +kernel
theorem d_M_isMark_87 : decode y_M_isMark.2.1 87 = .ok (.bipush 35, 2) := by decide +kernel
theorem s_M_isMark_86 : aw_VS y_M_isMark 86 [o_ild 0, o_c (.int (35 : Int32))] 89 := .cons (v_iload_n (i := 0) d_M_isMark_86 rfl) (.cons (v_bipush (v := (35 : Int32)) d_M_isMark_87 (by decide +kernel)) .nil)
theorem d_M_isMark_89 : decode y_M_isMark.2.1 89 = .ok (.if_icmp .ne (7), 3) := by decide +kernel
theorem d_M_isMark_96 : decode y_M_isMark.2.1 96 = .ok (.iconst 0, 1) := by decide +kernel
theorem s_M_isMark_96 : aw_VS y_M_isMark 96 [o_c (.int (0 : Int32))] 97 := .cons (v_iconst (v := (0 : Int32)) d_M_isMark_96 (by decide +kernel)) .nil
theorem b_M_isMark_0 {X : aw_X} {d : Nat} {Q : Option Value → aw_H → Prop} {I : Nat → Nat → Int32} {L : Nat → Nat → Int64} {D : Nat → Nat} {v0 : Int32}
    (h1 : v0 = (59 : Int32) → Q (some (.int (1 : Int32))) (aw_s I L D))
    (h2 : ¬ v0 = (59 : Int32) → v0 = (123 : Int32) → Q (some (.int (1 : Int32))) (aw_s I L D))
    (h3 : ¬ v0 = (59 : Int32) → ¬ v0 = (123 : Int32) → v0 = (125 : Int32) → Q (some (.int (1 : Int32))) (aw_s I L D))
    (h4 : ¬ v0 = (59 : Int32) → ¬ v0 = (123 : Int32) → ¬ v0 = (125 : Int32) → v0 = (40 : Int32) → Q (some (.int (1 : Int32))) (aw_s I L D))
    (h5 : ¬ v0 = (59 : Int32) → ¬ v0 = (123 : Int32) → ¬ v0 = (125 : Int32) → ¬ v0 = (40 : Int32) → v0 = (41 : Int32) → Q (some (.int (1 : Int32))) (aw_s I L D))
    (h6 : ¬ v0 = (59 : Int32) → ¬ v0 = (123 : Int32) → ¬ v0 = (125 : Int32) → ¬ v0 = (40 : Int32) → ¬ v0 = (41 : Int32) → v0 = (91 : Int32) → Q (some (.int (1 : Int32))) (aw_s I L D))
    (h7 : ¬ v0 = (59 : Int32) → ¬ v0 = (123 : Int32) → ¬ v0 = (125 : Int32) → ¬ v0 = (40 : Int32) → ¬ v0 = (41 : Int32) → ¬ v0 = (91 : Int32) → ¬ v0 = (93 : Int32) → v0 = (43 : Int32) → Q (some (.int (1 : Int32))) (aw_s I L D))
    (h8 : ¬ v0 = (59 : Int32) → ¬ v0 = (123 : Int32) → ¬ v0 = (125 : Int32) → ¬ v0 = (40 : Int32) → ¬ v0 = (41 : Int32) → ¬ v0 = (91 : Int32) → ¬ v0 = (93 : Int32) → ¬ v0 = (43 : Int32) → v0 = (45 : Int32) → Q (some (.int (1 : Int32))) (aw_s I L D))
    (h9 : ¬ v0 = (59 : Int32) → ¬ v0 = (123 : Int32) → ¬ v0 = (125 : Int32) → ¬ v0 = (40 : Int32) → ¬ v0 = (41 : Int32) → ¬ v0 = (91 : Int32) → ¬ v0 = (93 : Int32) → ¬ v0 = (43 : Int32) → ¬ v0 = (45 : Int32) → v0 = (42 : Int32) → Q (some (.int (1 : Int32))) (aw_s I L D))
    (h10 : ¬ v0 = (59 : Int32) → ¬ v0 = (123 : Int32) → ¬ v0 = (125 : Int32) → ¬ v0 = (40 : Int32) → ¬ v0 = (41 : Int32) → ¬ v0 = (91 : Int32) → ¬ v0 = (93 : Int32) → ¬ v0 = (43 : Int32) → ¬ v0 = (45 : Int32) → ¬ v0 = (42 : Int32) → v0 = (47 : Int32) → Q (some (.int (1 : Int32))) (aw_s I L D))
    (h11 : ¬ v0 = (59 : Int32) → ¬ v0 = (123 : Int32) → ¬ v0 = (125 : Int32) → ¬ v0 = (40 : Int32) → ¬ v0 = (41 : Int32) → ¬ v0 = (91 : Int32) → ¬ v0 = (93 : Int32) → ¬ v0 = (43 : Int32) → ¬ v0 = (45 : Int32) → ¬ v0 = (42 : Int32) → ¬ v0 = (47 : Int32) → v0 = (61 : Int32) → Q (some (.int (1 : Int32))) (aw_s I L D))
    (h12 : ¬ v0 = (59 : Int32) → ¬ v0 = (123 : Int32) → ¬ v0 = (125 : Int32) → ¬ v0 = (40 : Int32) → ¬ v0 = (41 : Int32) → ¬ v0 = (91 : Int32) → ¬ v0 = (93 : Int32) → ¬ v0 = (43 : Int32) → ¬ v0 = (45 : Int32) → ¬ v0 = (42 : Int32) → ¬ v0 = (47 : Int32) → ¬ v0 = (61 : Int32) → v0 = (60 : Int32) → Q (some (.int (1 : Int32))) (aw_s I L D))
    (h13 : ¬ v0 = (59 : Int32) → ¬ v0 = (123 : Int32) → ¬ v0 = (125 : Int32) → ¬ v0 = (40 : Int32) → ¬ v0 = (41 : Int32) → ¬ v0 = (91 : Int32) → ¬ v0 = (93 : Int32) → ¬ v0 = (43 : Int32) → ¬ v0 = (45 : Int32) → ¬ v0 = (42 : Int32) → ¬ v0 = (47 : Int32) → ¬ v0 = (61 : Int32) → ¬ v0 = (60 : Int32) → v0 = (62 : Int32) → Q (some (.int (1 : Int32))) (aw_s I L D))
    (h14 : ¬ v0 = (59 : Int32) → ¬ v0 = (123 : Int32) → ¬ v0 = (125 : Int32) → ¬ v0 = (40 : Int32) → ¬ v0 = (41 : Int32) → ¬ v0 = (91 : Int32) → ¬ v0 = (93 : Int32) → ¬ v0 = (43 : Int32) → ¬ v0 = (45 : Int32) → ¬ v0 = (42 : Int32) → ¬ v0 = (47 : Int32) → ¬ v0 = (61 : Int32) → ¬ v0 = (60 : Int32) → ¬ v0 = (62 : Int32) → ¬ v0 = (35 : Int32) → Q (some (.int (0 : Int32))) (aw_s I L D))
    (h15 : ¬ v0 = (59 : Int32) → ¬ v0 = (123 : Int32) → ¬ v0 = (125 : Int32) → ¬ v0 = (40 : Int32) → ¬ v0 = (41 : Int32) → ¬ v0 = (91 : Int32) → ¬ v0 = (93 : Int32) → ¬ v0 = (43 : Int32) → ¬ v0 = (45 : Int32) → ¬ v0 = (42 : Int32) → ¬ v0 = (47 : Int32) → ¬ v0 = (61 : Int32) → ¬ v0 = (60 : Int32) → ¬ v0 = (62 : Int32) → v0 = (35 : Int32) → Q (some (.int (1 : Int32))) (aw_s I L D))
    (h16 : ¬ v0 = (59 : Int32) → ¬ v0 = (123 : Int32) → ¬ v0 = (125 : Int32) → ¬ v0 = (40 : Int32) → ¬ v0 = (41 : Int32) → ¬ v0 = (91 : Int32) → v0 = (93 : Int32) → Q (some (.int (1 : Int32))) (aw_s I L D)) :
    aw_z X d y_M_isMark Q 0 [some (.int v0)] [] (aw_s I L D) :=
  (s_M_isMark_0.go [some (.int v0)] [.int (59 : Int32), .int v0] (aw_s I L D) rfl (z_icmp_eq (tgt := 42) d_M_isMark_3 rfl (fun q1 => (s_M_isMark_42.go [some (.int v0)] [.int (1 : Int32)] (aw_s I L D) rfl (z_iret d_M_isMark_43 rfl (aw_nz (by decide +kernel)) (h1 q1)))) (fun q2 => (s_M_isMark_6.go [some (.int v0)] [.int (123 : Int32), .int v0] (aw_s I L D) rfl (z_icmp_eq (tgt := 42) d_M_isMark_9 rfl (fun q3 => (s_M_isMark_42.go [some (.int v0)] [.int (1 : Int32)] (aw_s I L D) rfl (z_iret d_M_isMark_43 rfl (aw_nz (by decide +kernel)) (h2 q2 q3)))) (fun q4 => (s_M_isMark_12.go [some (.int v0)] [.int (125 : Int32), .int v0] (aw_s I L D) rfl (z_icmp_eq (tgt := 42) d_M_isMark_15 rfl (fun q5 => (s_M_isMark_42.go [some (.int v0)] [.int (1 : Int32)] (aw_s I L D) rfl (z_iret d_M_isMark_43 rfl (aw_nz (by decide +kernel)) (h3 q2 q4 q5)))) (fun q6 => (s_M_isMark_18.go [some (.int v0)] [.int (40 : Int32), .int v0] (aw_s I L D) rfl (z_icmp_eq (tgt := 42) d_M_isMark_21 rfl (fun q7 => (s_M_isMark_42.go [some (.int v0)] [.int (1 : Int32)] (aw_s I L D) rfl (z_iret d_M_isMark_43 rfl (aw_nz (by decide +kernel)) (h4 q2 q4 q6 q7)))) (fun q8 => (s_M_isMark_24.go [some (.int v0)] [.int (41 : Int32), .int v0] (aw_s I L D) rfl (z_icmp_eq (tgt := 42) d_M_isMark_27 rfl (fun q9 => (s_M_isMark_42.go [some (.int v0)] [.int (1 : Int32)] (aw_s I L D) rfl (z_iret d_M_isMark_43 rfl (aw_nz (by decide +kernel)) (h5 q2 q4 q6 q8 q9)))) (fun q10 => (s_M_isMark_30.go [some (.int v0)] [.int (91 : Int32), .int v0] (aw_s I L D) rfl (z_icmp_eq (tgt := 42) d_M_isMark_33 rfl (fun q11 => (s_M_isMark_42.go [some (.int v0)] [.int (1 : Int32)] (aw_s I L D) rfl (z_iret d_M_isMark_43 rfl (aw_nz (by decide +kernel)) (h6 q2 q4 q6 q8 q10 q11)))) (fun q12 => (s_M_isMark_36.go [some (.int v0)] [.int (93 : Int32), .int v0] (aw_s I L D) rfl (z_icmp_ne (tgt := 44) d_M_isMark_39 rfl (fun q13 => (s_M_isMark_44.go [some (.int v0)] [.int (43 : Int32), .int v0] (aw_s I L D) rfl (z_icmp_eq (tgt := 92) d_M_isMark_47 rfl (fun q15 => (s_M_isMark_92.go [some (.int v0)] [.int (1 : Int32)] (aw_s I L D) rfl (z_goto (tgt := 97) d_M_isMark_93 rfl (z_iret d_M_isMark_97 rfl (aw_nz (by decide +kernel)) (h7 q2 q4 q6 q8 q10 q12 q13 q15))))) (fun q16 => (s_M_isMark_50.go [some (.int v0)] [.int (45 : Int32), .int v0] (aw_s I L D) rfl (z_icmp_eq (tgt := 92) d_M_isMark_53 rfl (fun q17 => (s_M_isMark_92.go [some (.int v0)] [.int (1 : Int32)] (aw_s I L D) rfl (z_goto (tgt := 97) d_M_isMark_93 rfl (z_iret d_M_isMark_97 rfl (aw_nz (by decide +kernel)) (h8 q2 q4 q6 q8 q10 q12 q13 q16 q17))))) (fun q18 => (s_M_isMark_56.go [some (.int v0)] [.int (42 : Int32), .int v0] (aw_s I L D) rfl (z_icmp_eq (tgt := 92) d_M_isMark_59 rfl (fun q19 => (s_M_isMark_92.go [some (.int v0)] [.int (1 : Int32)] (aw_s I L D) rfl (z_goto (tgt := 97) d_M_isMark_93 rfl (z_iret d_M_isMark_97 rfl (aw_nz (by decide +kernel)) (h9 q2 q4 q6 q8 q10 q12 q13 q16 q18 q19))))) (fun q20 => (s_M_isMark_62.go [some (.int v0)] [.int (47 : Int32), .int v0] (aw_s I L D) rfl (z_icmp_eq (tgt := 92) d_M_isMark_65 rfl (fun q21 => (s_M_isMark_92.go [some (.int v0)] [.int (1 : Int32)] (aw_s I L D) rfl (z_goto (tgt := 97) d_M_isMark_93 rfl (z_iret d_M_isMark_97 rfl (aw_nz (by decide +kernel)) (h10 q2 q4 q6 q8 q10 q12 q13 q16 q18 q20 q21))))) (fun q22 => (s_M_isMark_68.go [some (.int v0)] [.int (61 : Int32), .int v0] (aw_s I L D) rfl (z_icmp_eq (tgt := 92) d_M_isMark_71 rfl (fun q23 => (s_M_isMark_92.go [some (.int v0)] [.int (1 : Int32)] (aw_s I L D) rfl (z_goto (tgt := 97) d_M_isMark_93 rfl (z_iret d_M_isMark_97 rfl (aw_nz (by decide +kernel)) (h11 q2 q4 q6 q8 q10 q12 q13 q16 q18 q20 q22 q23))))) (fun q24 => (s_M_isMark_74.go [some (.int v0)] [.int (60 : Int32), .int v0] (aw_s I L D) rfl (z_icmp_eq (tgt := 92) d_M_isMark_77 rfl (fun q25 => (s_M_isMark_92.go [some (.int v0)] [.int (1 : Int32)] (aw_s I L D) rfl (z_goto (tgt := 97) d_M_isMark_93 rfl (z_iret d_M_isMark_97 rfl (aw_nz (by decide +kernel)) (h12 q2 q4 q6 q8 q10 q12 q13 q16 q18 q20 q22 q24 q25))))) (fun q26 => (s_M_isMark_80.go [some (.int v0)] [.int (62 : Int32), .int v0] (aw_s I L D) rfl (z_icmp_eq (tgt := 92) d_M_isMark_83 rfl (fun q27 => (s_M_isMark_92.go [some (.int v0)] [.int (1 : Int32)] (aw_s I L D) rfl (z_goto (tgt := 97) d_M_isMark_93 rfl (z_iret d_M_isMark_97 rfl (aw_nz (by decide +kernel)) (h13 q2 q4 q6 q8 q10 q12 q13 q16 q18 q20 q22 q24 q26 q27))))) (fun q28 => (s_M_isMark_86.go [some (.int v0)] [.int (35 : Int32), .int v0] (aw_s I L D) rfl (z_icmp_ne (tgt := 96) d_M_isMark_89 rfl (fun q29 => (s_M_isMark_96.go [some (.int v0)] [.int (0 : Int32)] (aw_s I L D) rfl (z_iret d_M_isMark_97 rfl (aw_nz (by decide +kernel)) (h14 q2 q4 q6 q8 q10 q12 q13 q16 q18 q20 q22 q24 q26 q28 q29)))) (fun q30 => (s_M_isMark_92.go [some (.int v0)] [.int (1 : Int32)] (aw_s I L D) rfl (z_goto (tgt := 97) d_M_isMark_93 rfl (z_iret d_M_isMark_97 rfl (aw_nz (by decide +kernel)) (h15 q2 q4 q6 q8 q10 q12 q13 q16 q18 q20 q22 q24 q26 q28 q30))))))))))))))))))))))))))))) (fun q14 => (s_M_isMark_42.go [some (.int v0)] [.int (1 : Int32)] (aw_s I L D) rfl (z_iret d_M_isMark_43 rfl (aw_nz (by decide +kernel)) (h16 q2 q4 q6 q8 q10 q12 q14))))))))))))))))))))))))
/-! M_byteAt -/
theorem d_M_byteAt_0 : decode y_M_byteAt.2.1 0 = .ok (.iload_n 1, 1) := by decide +kernel
theorem d_M_byteAt_1 : decode y_M_byteAt.2.1 1 = .ok (.aload_n 0, 1) := by decide +kernel
theorem d_M_byteAt_2 : decode y_M_byteAt.2.1 2 = .ok (.getfield 170, 3) := by decide +kernel
theorem s_M_byteAt_0 : aw_VS y_M_byteAt 0 [o_ild 1, o_ald 0, o_getI 9 3] 5 := .cons (v_iload_n (i := 1) d_M_byteAt_0 rfl) (.cons (v_aload_n (i := 0) d_M_byteAt_1 rfl) (.cons (v_getI (k := 3) k_M (by decide) (Or.inl rfl) (Or.inl w_1464) d_M_byteAt_2) .nil))
theorem d_M_byteAt_5 : decode y_M_byteAt.2.1 5 = .ok (.if_icmp .ge (12), 3) := by decide +kernel
theorem d_M_byteAt_17 : decode y_M_byteAt.2.1 17 = .ok (.iconst 0, 1) := by decide +kernel
theorem s_M_byteAt_17 : aw_VS y_M_byteAt 17 [o_c (.int (0 : Int32))] 18 := .cons (v_iconst (v := (0 : Int32)) d_M_byteAt_17 (by decide +kernel)) .nil
theorem d_M_byteAt_18 : decode y_M_byteAt.2.1 18 = .ok (.ireturn, 1) := by decide +kernel
theorem d_M_byteAt_8 : decode y_M_byteAt.2.1 8 = .ok (.aload_n 0, 1) := by decide +kernel
theorem d_M_byteAt_9 : decode y_M_byteAt.2.1 9 = .ok (.getfield 7, 3) := by decide +kernel
theorem d_M_byteAt_12 : decode y_M_byteAt.2.1 12 = .ok (.iload_n 1, 1) := by decide +kernel
theorem s_M_byteAt_8 : aw_VS y_M_byteAt 8 [o_ald 0, o_getA 9 1, o_ild 1] 13 := .cons (v_aload_n (i := 0) d_M_byteAt_8 rfl) (.cons (v_getA (k := 1) k_M (by decide) rfl (Or.inl w_1462) d_M_byteAt_9) (.cons (v_iload_n (i := 1) d_M_byteAt_12 rfl) .nil))
theorem d_M_byteAt_13 : decode y_M_byteAt.2.1 13 = .ok (.iaload, 1) := by decide +kernel
theorem d_M_byteAt_14 : decode y_M_byteAt.2.1 14 = .ok (.goto (4), 3) := by decide +kernel
theorem b_M_byteAt_0 {X : aw_X} {d : Nat} {Q : Option Value → aw_H → Prop} {I : Nat → Nat → Int32} {L : Nat → Nat → Int64} {D : Nat → Nat} {v1 : Int32}
    (h1 : (I 69 3) ≤ v1 → Q (some (.int (0 : Int32))) (aw_s I L D))
    (h2 : ¬ (I 69 3) ≤ v1 → vp_in v1 540)
    (h3 : ¬ (I 69 3) ≤ v1 → Q (some (.int (I 70 v1.toNatClampNeg))) (aw_s I L D)) :
    aw_z X d y_M_byteAt Q 0 [some (.ref 69), some (.int v1)] [] (aw_s I L D) :=
  (s_M_byteAt_0.go [some (.ref 69), some (.int v1)] [.int (I 69 3), .int v1] (aw_s I L D) rfl (z_icmp_ge (tgt := 17) d_M_byteAt_5 rfl (fun q1 => (s_M_byteAt_17.go [some (.ref 69), some (.int v1)] [.int (0 : Int32)] (aw_s I L D) rfl (z_iret d_M_byteAt_18 rfl rfl (h1 q1)))) (fun q2 => (s_M_byteAt_8.go [some (.ref 69), some (.int v1)] [.int v1, .ref 70] (aw_s I L D) rfl (z_iald (n := 540) rfl (aw_lt (o := 70) rfl) (h2 q2) d_M_byteAt_13 (z_goto (tgt := 18) d_M_byteAt_14 rfl (z_iret d_M_byteAt_18 rfl rfl (h3 q2))))))))
/-! M_isSign -/
theorem d_M_isSign_0 : decode y_M_isSign.2.1 0 = .ok (.aload_n 0, 1) := by decide +kernel
theorem d_M_isSign_1 : decode y_M_isSign.2.1 1 = .ok (.getfield 179, 3) := by decide +kernel
theorem d_M_isSign_4 : decode y_M_isSign.2.1 4 = .ok (.iconst 4, 1) := by decide +kernel
theorem s_M_isSign_0 : aw_VS y_M_isSign 0 [o_ald 0, o_getI 9 6, o_c (.int (4 : Int32))] 5 := .cons (v_aload_n (i := 0) d_M_isSign_0 rfl) (.cons (v_getI (k := 6) k_M (by decide) (Or.inl rfl) (Or.inl w_1467) d_M_isSign_1) (.cons (v_iconst (v := (4 : Int32)) d_M_isSign_4 (by decide +kernel)) .nil))
theorem d_M_isSign_5 : decode y_M_isSign.2.1 5 = .ok (.if_icmp .ne (15), 3) := by decide +kernel
theorem d_M_isSign_20 : decode y_M_isSign.2.1 20 = .ok (.iconst 0, 1) := by decide +kernel
theorem s_M_isSign_20 : aw_VS y_M_isSign 20 [o_c (.int (0 : Int32))] 21 := .cons (v_iconst (v := (0 : Int32)) d_M_isSign_20 (by decide +kernel)) .nil
theorem d_M_isSign_21 : decode y_M_isSign.2.1 21 = .ok (.ireturn, 1) := by decide +kernel
theorem d_M_isSign_8 : decode y_M_isSign.2.1 8 = .ok (.aload_n 0, 1) := by decide +kernel
theorem d_M_isSign_9 : decode y_M_isSign.2.1 9 = .ok (.getfield 192, 3) := by decide +kernel
theorem d_M_isSign_12 : decode y_M_isSign.2.1 12 = .ok (.iload_n 1, 1) := by decide +kernel
theorem s_M_isSign_8 : aw_VS y_M_isSign 8 [o_ald 0, o_getI 9 8, o_ild 1] 13 := .cons (v_aload_n (i := 0) d_M_isSign_8 rfl) (.cons (v_getI (k := 8) k_M (by decide) (Or.inl rfl) (Or.inl w_1469) d_M_isSign_9) (.cons (v_iload_n (i := 1) d_M_isSign_12 rfl) .nil))
theorem d_M_isSign_13 : decode y_M_isSign.2.1 13 = .ok (.if_icmp .ne (7), 3) := by decide +kernel
theorem d_M_isSign_16 : decode y_M_isSign.2.1 16 = .ok (.iconst 1, 1) := by decide +kernel
theorem s_M_isSign_16 : aw_VS y_M_isSign 16 [o_c (.int (1 : Int32))] 17 := .cons (v_iconst (v := (1 : Int32)) d_M_isSign_16 (by decide +kernel)) .nil
theorem d_M_isSign_17 : decode y_M_isSign.2.1 17 = .ok (.goto (4), 3) := by decide +kernel
theorem b_M_isSign_0 {X : aw_X} {d : Nat} {Q : Option Value → aw_H → Prop} {I : Nat → Nat → Int32} {L : Nat → Nat → Int64} {D : Nat → Nat} {v1 : Int32}
    (h1 : ¬ (I 69 6) = (4 : Int32) → Q (some (.int (0 : Int32))) (aw_s I L D))
    (h2 : (I 69 6) = (4 : Int32) → ¬ (I 69 8) = v1 → Q (some (.int (0 : Int32))) (aw_s I L D))
    (h3 : (I 69 6) = (4 : Int32) → (I 69 8) = v1 → Q (some (.int (1 : Int32))) (aw_s I L D)) :
    aw_z X d y_M_isSign Q 0 [some (.ref 69), some (.int v1)] [] (aw_s I L D) :=
  (s_M_isSign_0.go [some (.ref 69), some (.int v1)] [.int (4 : Int32), .int (I 69 6)] (aw_s I L D) rfl (z_icmp_ne (tgt := 20) d_M_isSign_5 rfl (fun q1 => (s_M_isSign_20.go [some (.ref 69), some (.int v1)] [.int (0 : Int32)] (aw_s I L D) rfl (z_iret d_M_isSign_21 rfl (aw_nz (by decide +kernel)) (h1 q1)))) (fun q2 => (s_M_isSign_8.go [some (.ref 69), some (.int v1)] [.int v1, .int (I 69 8)] (aw_s I L D) rfl (z_icmp_ne (tgt := 20) d_M_isSign_13 rfl (fun q3 => (s_M_isSign_20.go [some (.ref 69), some (.int v1)] [.int (0 : Int32)] (aw_s I L D) rfl (z_iret d_M_isSign_21 rfl (aw_nz (by decide +kernel)) (h2 q2 q3)))) (fun q4 => (s_M_isSign_16.go [some (.ref 69), some (.int v1)] [.int (1 : Int32)] (aw_s I L D) rfl (z_goto (tgt := 21) d_M_isSign_17 rfl (z_iret d_M_isSign_21 rfl (aw_nz (by decide +kernel)) (h3 q2 q4))))))))))
/-! M_close -/
theorem d_M_close_0 : decode y_M_close.2.1 0 = .ok (.aload_n 0, 1) := by decide +kernel
theorem d_M_close_1 : decode y_M_close.2.1 1 = .ok (.dup, 1) := by decide +kernel
theorem d_M_close_2 : decode y_M_close.2.1 2 = .ok (.getfield 285, 3) := by decide +kernel
theorem d_M_close_5 : decode y_M_close.2.1 5 = .ok (.iconst 1, 1) := by decide +kernel
theorem d_M_close_6 : decode y_M_close.2.1 6 = .ok (.isub, 1) := by decide +kernel
theorem d_M_close_7 : decode y_M_close.2.1 7 = .ok (.putfield 285, 3) := by decide +kernel
theorem d_M_close_10 : decode y_M_close.2.1 10 = .ok (.aload_n 0, 1) := by decide +kernel
theorem d_M_close_11 : decode y_M_close.2.1 11 = .ok (.dup, 1) := by decide +kernel
theorem d_M_close_12 : decode y_M_close.2.1 12 = .ok (.getfield 259, 3) := by decide +kernel
theorem d_M_close_15 : decode y_M_close.2.1 15 = .ok (.iconst 1, 1) := by decide +kernel
theorem d_M_close_16 : decode y_M_close.2.1 16 = .ok (.isub, 1) := by decide +kernel
theorem d_M_close_17 : decode y_M_close.2.1 17 = .ok (.putfield 259, 3) := by decide +kernel
theorem d_M_close_20 : decode y_M_close.2.1 20 = .ok (.aload_n 0, 1) := by decide +kernel
theorem d_M_close_21 : decode y_M_close.2.1 21 = .ok (.getfield 41, 3) := by decide +kernel
theorem d_M_close_24 : decode y_M_close.2.1 24 = .ok (.aload_n 0, 1) := by decide +kernel
theorem d_M_close_25 : decode y_M_close.2.1 25 = .ok (.getfield 285, 3) := by decide +kernel
theorem s_M_close_0 : aw_VS y_M_close 0 [o_ald 0, o_dup, o_getI 9 26, o_c (.int (1 : Int32)), o_i2 (fun x z => x - z), o_putI 9 26, o_ald 0, o_dup, o_getI 9 27, o_c (.int (1 : Int32)), o_i2 (fun x z => x - z), o_putI 9 27, o_ald 0, o_getA 9 21, o_ald 0, o_getI 9 26] 28 := .cons (v_aload_n (i := 0) d_M_close_0 rfl) (.cons (v_dup d_M_close_1) (.cons (v_getI (k := 26) k_M (by decide) (Or.inl rfl) (Or.inl w_1487) d_M_close_2) (.cons (v_iconst (v := (1 : Int32)) d_M_close_5 (by decide +kernel)) (.cons (v_isub d_M_close_6) (.cons (v_putI (k := 26) k_M (by decide) rfl (Or.inl ⟨rfl, Or.inl w_1487⟩) d_M_close_7) (.cons (v_aload_n (i := 0) d_M_close_10 rfl) (.cons (v_dup d_M_close_11) (.cons (v_getI (k := 27) k_M (by decide) (Or.inl rfl) (Or.inl w_1488) d_M_close_12) (.cons (v_iconst (v := (1 : Int32)) d_M_close_15 (by decide +kernel)) (.cons (v_isub d_M_close_16) (.cons (v_putI (k := 27) k_M (by decide) rfl (Or.inl ⟨rfl, Or.inl w_1488⟩) d_M_close_17) (.cons (v_aload_n (i := 0) d_M_close_20 rfl) (.cons (v_getA (k := 21) k_M (by decide) rfl (Or.inl w_1482) d_M_close_21) (.cons (v_aload_n (i := 0) d_M_close_24 rfl) (.cons (v_getI (k := 26) k_M (by decide) (Or.inl rfl) (Or.inl w_1487) d_M_close_25) .nil)))))))))))))))
theorem d_M_close_28 : decode y_M_close.2.1 28 = .ok (.iaload, 1) := by decide +kernel
theorem d_M_close_29 : decode y_M_close.2.1 29 = .ok (.istore_n 1, 1) := by decide +kernel
theorem d_M_close_30 : decode y_M_close.2.1 30 = .ok (.aload_n 0, 1) := by decide +kernel
theorem s_M_close_29 : aw_VS y_M_close 29 [o_ist 1, o_ald 0] 31 := .cons (v_istore_n d_M_close_29) (.cons (v_aload_n (i := 0) d_M_close_30 rfl) .nil)
theorem d_M_close_31 : decode y_M_close.2.1 31 = .ok (.invokevirtual 222, 3) := by decide +kernel
theorem b_M_close_0 {X : aw_X} {d : Nat} {Q : Option Value → aw_H → Prop} {I : Nat → Nat → Int32} {L : Nat → Nat → Int64} {D : Nat → Nat} 
    (h1 : vp_in ((I 69 26) - (1 : Int32)) 16)
    (h2 : aw_m X d y_M_go [.ref 69] (aw_s (aw_u (aw_u I 69 26 ((I 69 26) - (1 : Int32))) 69 27 ((I 69 27) - (1 : Int32))) L D) (fun r A => aw_z X (d + 1) y_M_close Q 34 [some (.ref 69), some (.int (I 80 (((I 69 26) - (1 : Int32)).toNatClampNeg))), none, none] (r.toList ++ []) A)) :
    aw_z X (d + 1) y_M_close Q 0 [some (.ref 69), none, none, none] [] (aw_s I L D) :=
  (s_M_close_0.go [some (.ref 69), none, none, none] [.int ((I 69 26) - (1 : Int32)), .ref 80] (aw_s (aw_u (aw_u I 69 26 ((I 69 26) - (1 : Int32))) 69 27 ((I 69 27) - (1 : Int32))) L D) rfl (z_iald (n := 16) rfl (aw_lt (o := 80) rfl) (h1) d_M_close_28 (s_M_close_29.go [some (.ref 69), some (.int (I 80 (((I 69 26) - (1 : Int32)).toNatClampNeg))), none, none] [.ref 69] (aw_s (aw_u (aw_u I 69 26 ((I 69 26) - (1 : Int32))) 69 27 ((I 69 27) - (1 : Int32))) L D) rfl (z_callV (av := []) (st := []) ok_M_go (Or.inl w_1760) w_1762 w_75 k_M d_M_close_31 rfl (aw_lt (o := 69) rfl) rfl rfl (Nat.le_of_ble_eq_true rfl) (Nat.le_refl _) (Nat.le_refl _) (h2)))))
theorem d_M_close_34 : decode y_M_close.2.1 34 = .ok (.iload_n 1, 1) := by decide +kernel
theorem s_M_close_34 : aw_VS y_M_close 34 [o_ild 1] 35 := .cons (v_iload_n (i := 1) d_M_close_34 rfl) .nil
theorem d_M_close_35 : decode y_M_close.2.1 35 = .ok (.ifCond .ne (32), 3) := by decide +kernel
theorem d_M_close_67 : decode y_M_close.2.1 67 = .ok (.iload_n 1, 1) := by decide +kernel
theorem d_M_close_68 : decode y_M_close.2.1 68 = .ok (.iconst 3, 1) := by decide +kernel
theorem s_M_close_67 : aw_VS y_M_close 67 [o_ild 1, o_c (.int (3 : Int32))] 69 := .cons (v_iload_n (i := 1) d_M_close_67 rfl) (.cons (v_iconst (v := (3 : Int32)) d_M_close_68 (by decide +kernel)) .nil)
theorem d_M_close_69 : decode y_M_close.2.1 69 = .ok (.if_icmp .ne (35), 3) := by decide +kernel
theorem d_M_close_104 : decode y_M_close.2.1 104 = .ok (.iload_n 1, 1) := by decide +kernel
theorem d_M_close_105 : decode y_M_close.2.1 105 = .ok (.iconst 2, 1) := by decide +kernel
theorem s_M_close_104 : aw_VS y_M_close 104 [o_ild 1, o_c (.int (2 : Int32))] 106 := .cons (v_iload_n (i := 1) d_M_close_104 rfl) (.cons (v_iconst (v := (2 : Int32)) d_M_close_105 (by decide +kernel)) .nil)
theorem d_M_close_106 : decode y_M_close.2.1 106 = .ok (.if_icmp .ne (19), 3) := by decide +kernel
theorem d_M_close_125 : decode y_M_close.2.1 125 = .ok (.aload_n 0, 1) := by decide +kernel
theorem d_M_close_126 : decode y_M_close.2.1 126 = .ok (.bipush 101, 2) := by decide +kernel
theorem d_M_close_128 : decode y_M_close.2.1 128 = .ok (.bipush 108, 2) := by decide +kernel
theorem d_M_close_130 : decode y_M_close.2.1 130 = .ok (.bipush 115, 2) := by decide +kernel
theorem d_M_close_132 : decode y_M_close.2.1 132 = .ok (.bipush 101, 2) := by decide +kernel
theorem d_M_close_134 : decode y_M_close.2.1 134 = .ok (.iconst 0, 1) := by decide +kernel
theorem s_M_close_125 : aw_VS y_M_close 125 [o_ald 0, o_c (.int (101 : Int32)), o_c (.int (108 : Int32)), o_c (.int (115 : Int32)), o_c (.int (101 : Int32)), o_c (.int (0 : Int32))] 135 := .cons (v_aload_n (i := 0) d_M_close_125 rfl) (.cons (v_bipush (v := (101 : Int32)) d_M_close_126 (by decide +kernel)) (.cons (v_bipush (v := (108 : Int32)) d_M_close_128 (by decide +kernel)) (.cons (v_bipush (v := (115 : Int32)) d_M_close_130 (by decide +kernel)) (.cons (v_bipush (v := (101 : Int32)) d_M_close_132 (by decide +kernel)) (.cons (v_iconst (v := (0 : Int32)) d_M_close_134 (by decide +kernel)) .nil)))))
theorem d_M_close_135 : decode y_M_close.2.1 135 = .ok (.invokestatic 244, 3) := by decide +kernel
theorem d_M_close_109 : decode y_M_close.2.1 109 = .ok (.aload_n 0, 1) := by decide +kernel
theorem d_M_close_110 : decode y_M_close.2.1 110 = .ok (.aload_n 0, 1) := by decide +kernel
theorem d_M_close_111 : decode y_M_close.2.1 111 = .ok (.getfield 44, 3) := by decide +kernel
theorem d_M_close_114 : decode y_M_close.2.1 114 = .ok (.aload_n 0, 1) := by decide +kernel
theorem d_M_close_115 : decode y_M_close.2.1 115 = .ok (.getfield 285, 3) := by decide +kernel
theorem s_M_close_109 : aw_VS y_M_close 109 [o_ald 0, o_ald 0, o_getA 9 22, o_ald 0, o_getI 9 26] 118 := .cons (v_aload_n (i := 0) d_M_close_109 rfl) (.cons (v_aload_n (i := 0) d_M_close_110 rfl) (.cons (v_getA (k := 22) k_M (by decide) rfl (Or.inl w_1483) d_M_close_111) (.cons (v_aload_n (i := 0) d_M_close_114 rfl) (.cons (v_getI (k := 26) k_M (by decide) (Or.inl rfl) (Or.inl w_1487) d_M_close_115) .nil))))
theorem d_M_close_118 : decode y_M_close.2.1 118 = .ok (.iaload, 1) := by decide +kernel
theorem d_M_close_119 : decode y_M_close.2.1 119 = .ok (.invokevirtual 291, 3) := by decide +kernel
theorem d_M_close_72 : decode y_M_close.2.1 72 = .ok (.aload_n 0, 1) := by decide +kernel
theorem d_M_close_73 : decode y_M_close.2.1 73 = .ok (.bipush 22, 2) := by decide +kernel
theorem d_M_close_75 : decode y_M_close.2.1 75 = .ok (.aload_n 0, 1) := by decide +kernel
theorem d_M_close_76 : decode y_M_close.2.1 76 = .ok (.getfield 47, 3) := by decide +kernel
theorem d_M_close_79 : decode y_M_close.2.1 79 = .ok (.aload_n 0, 1) := by decide +kernel
theorem d_M_close_80 : decode y_M_close.2.1 80 = .ok (.getfield 285, 3) := by decide +kernel
theorem s_M_close_72 : aw_VS y_M_close 72 [o_ald 0, o_c (.int (22 : Int32)), o_ald 0, o_getA 9 23, o_ald 0, o_getI 9 26] 83 := .cons (v_aload_n (i := 0) d_M_close_72 rfl) (.cons (v_bipush (v := (22 : Int32)) d_M_close_73 (by decide +kernel)) (.cons (v_aload_n (i := 0) d_M_close_75 rfl) (.cons (v_getA (k := 23) k_M (by decide) rfl (Or.inl w_1484) d_M_close_76) (.cons (v_aload_n (i := 0) d_M_close_79 rfl) (.cons (v_getI (k := 26) k_M (by decide) (Or.inl rfl) (Or.inl w_1487) d_M_close_80) .nil)))))
theorem d_M_close_83 : decode y_M_close.2.1 83 = .ok (.iaload, 1) := by decide +kernel
theorem d_M_close_84 : decode y_M_close.2.1 84 = .ok (.invokevirtual 238, 3) := by decide +kernel
theorem d_M_close_38 : decode y_M_close.2.1 38 = .ok (.aload_n 0, 1) := by decide +kernel
theorem d_M_close_39 : decode y_M_close.2.1 39 = .ok (.bipush 24, 2) := by decide +kernel
theorem d_M_close_41 : decode y_M_close.2.1 41 = .ok (.iconst 0, 1) := by decide +kernel
theorem s_M_close_38 : aw_VS y_M_close 38 [o_ald 0, o_c (.int (24 : Int32)), o_c (.int (0 : Int32))] 42 := .cons (v_aload_n (i := 0) d_M_close_38 rfl) (.cons (v_bipush (v := (24 : Int32)) d_M_close_39 (by decide +kernel)) (.cons (v_iconst (v := (0 : Int32)) d_M_close_41 (by decide +kernel)) .nil))
theorem d_M_close_42 : decode y_M_close.2.1 42 = .ok (.invokevirtual 238, 3) := by decide +kernel
theorem b_M_close_34 {X : aw_X} {d : Nat} {Q : Option Value → aw_H → Prop} {I : Nat → Nat → Int32} {L : Nat → Nat → Int64} {D : Nat → Nat} {v1 : Int32}
    (h1 : ¬ v1 = 0 → ¬ v1 = (3 : Int32) → ¬ v1 = (2 : Int32) → aw_m X d y_M_spelt [.int (101 : Int32), .int (108 : Int32), .int (115 : Int32), .int (101 : Int32), .int (0 : Int32)] (aw_s I L D) (fun r A => aw_z X (d + 1) y_M_close Q 138 [some (.ref 69), none, none, none] (r.toList ++ [.ref 69]) A))
    (h2 : ¬ v1 = 0 → ¬ v1 = (3 : Int32) → v1 = (2 : Int32) → vp_in (I 69 26) 16)
    (h3 : ¬ v1 = 0 → ¬ v1 = (3 : Int32) → v1 = (2 : Int32) → aw_m X d y_M_patch [.ref 69, .int (I 81 ((I 69 26).toNatClampNeg))] (aw_s I L D) (fun r A => aw_z X (d + 1) y_M_close Q 122 [none, none, none, none] (r.toList ++ []) A))
    (h4 : ¬ v1 = 0 → v1 = (3 : Int32) → vp_in (I 69 26) 16)
    (h5 : ¬ v1 = 0 → v1 = (3 : Int32) → aw_m X d y_M_emit [.ref 69, .int (22 : Int32), .int (I 82 ((I 69 26).toNatClampNeg))] (aw_s I L D) (fun r A => aw_z X (d + 1) y_M_close Q 87 [some (.ref 69), none, none, none] (r.toList ++ []) A))
    (h6 : v1 = 0 → aw_m X d y_M_emit [.ref 69, .int (24 : Int32), .int (0 : Int32)] (aw_s I L D) (fun r A => aw_z X (d + 1) y_M_close Q 45 [some (.ref 69), none, none, none] (r.toList ++ []) A)) :
    aw_z X (d + 1) y_M_close Q 34 [some (.ref 69), some (.int v1), none, none] [] (aw_s I L D) :=
  (s_M_close_34.go [some (.ref 69), some (.int v1), none, none] [.int v1] (aw_s I L D) rfl (z_if_ne (tgt := 67) d_M_close_35 rfl (fun q1 => (s_M_close_67.go [some (.ref 69), some (.int v1), none, none] [.int (3 : Int32), .int v1] (aw_s I L D) rfl (z_icmp_ne (tgt := 104) d_M_close_69 rfl (fun q3 => (s_M_close_104.go [some (.ref 69), some (.int v1), none, none] [.int (2 : Int32), .int v1] (aw_s I L D) rfl (z_icmp_ne (tgt := 125) d_M_close_106 rfl (fun q5 => (s_M_close_125.go [some (.ref 69), some (.int v1), none, none] [.int (0 : Int32), .int (101 : Int32), .int (115 : Int32), .int (108 : Int32), .int (101 : Int32), .ref 69] (aw_s I L D) rfl (z_callS (av := [.int (101 : Int32), .int (108 : Int32), .int (115 : Int32), .int (101 : Int32), .int (0 : Int32)]) (st := [.ref 69]) ok_M_spelt (Or.inl w_1795) w_1796 d_M_close_135 rfl rfl (Nat.le_of_ble_eq_true rfl) (Nat.le_refl _) (Nat.le_refl _) (aw_C.mono (h1 q1 q3 q5) (fun _ _ zz => aw_Z.weak (ls' := [some (.ref 69), none, none, none]) zz (Nat.le_of_ble_eq_true rfl) ⟨Or.inr rfl, ⟨Or.inl rfl, ⟨Or.inl rfl, ⟨Or.inl rfl, trivial⟩⟩⟩⟩))))) (fun q6 => (s_M_close_109.go [some (.ref 69), some (.int v1), none, none] [.int (I 69 26), .ref 81, .ref 69] (aw_s I L D) rfl (z_iald (n := 16) rfl (aw_lt (o := 81) rfl) (h2 q1 q3 q6) d_M_close_118 (z_callV (av := [.int (I 81 ((I 69 26).toNatClampNeg))]) (st := []) ok_M_patch (Or.inl w_1791) w_1793 w_80 k_M d_M_close_119 rfl (aw_lt (o := 69) rfl) rfl rfl (Nat.le_of_ble_eq_true rfl) (Nat.le_refl _) (Nat.le_refl _) (aw_C.mono (h3 q1 q3 q6) (fun _ _ zz => aw_Z.weak (ls' := [none, none, none, none]) zz (Nat.le_of_ble_eq_true rfl) ⟨Or.inl rfl, ⟨Or.inl rfl, ⟨Or.inl rfl, ⟨Or.inl rfl, trivial⟩⟩⟩⟩))))))))) (fun q4 => (s_M_close_72.go [some (.ref 69), some (.int v1), none, none] [.int (I 69 26), .ref 82, .int (22 : Int32), .ref 69] (aw_s I L D) rfl (z_iald (n := 16) rfl (aw_lt (o := 82) rfl) (h4 q1 q4) d_M_close_83 (z_callV (av := [.int (22 : Int32), .int (I 82 ((I 69 26).toNatClampNeg))]) (st := []) ok_M_emit (Or.inl w_1787) w_1789 w_79 k_M d_M_close_84 rfl (aw_lt (o := 69) rfl) rfl rfl (Nat.le_of_ble_eq_true rfl) (Nat.le_refl _) (Nat.le_refl _) (aw_C.mono (h5 q1 q4) (fun _ _ zz => aw_Z.weak (ls' := [some (.ref 69), none, none, none]) zz (Nat.le_of_ble_eq_true rfl) ⟨Or.inr rfl, ⟨Or.inl rfl, ⟨Or.inl rfl, ⟨Or.inl rfl, trivial⟩⟩⟩⟩))))))))) (fun q2 => (s_M_close_38.go [some (.ref 69), some (.int v1), none, none] [.int (0 : Int32), .int (24 : Int32), .ref 69] (aw_s I L D) rfl (z_callV (av := [.int (24 : Int32), .int (0 : Int32)]) (st := []) ok_M_emit (Or.inl w_1787) w_1789 w_79 k_M d_M_close_42 rfl (aw_lt (o := 69) rfl) rfl rfl (Nat.le_of_ble_eq_true rfl) (Nat.le_refl _) (Nat.le_refl _) (aw_C.mono (h6 q2) (fun _ _ zz => aw_Z.weak (ls' := [some (.ref 69), none, none, none]) zz (Nat.le_of_ble_eq_true rfl) ⟨Or.inr rfl, ⟨Or.inl rfl, ⟨Or.inl rfl, ⟨Or.inl rfl, trivial⟩⟩⟩⟩)))))))
theorem d_M_close_138 : decode y_M_close.2.1 138 = .ok (.invokevirtual 248, 3) := by decide +kernel
theorem b_M_close_138 {X : aw_X} {d : Nat} {Q : Option Value → aw_H → Prop} {I : Nat → Nat → Int32} {L : Nat → Nat → Int64} {D : Nat → Nat} {s1 : Int64}
    (h1 : aw_m X d y_M_isKey [.ref 69, .long s1] (aw_s I L D) (fun r A => aw_z X (d + 1) y_M_close Q 141 [some (.ref 69), none, none, none] (r.toList ++ []) A)) :
    aw_z X (d + 1) y_M_close Q 138 [some (.ref 69), none, none, none] [.long s1, .ref 69] (aw_s I L D) :=
  (z_callV (av := [.long s1]) (st := []) ok_M_isKey (Or.inl w_1798) w_1800 w_81 k_M d_M_close_138 rfl (aw_lt (o := 69) rfl) rfl rfl (Nat.le_of_ble_eq_true rfl) (Nat.le_refl _) (Nat.le_refl _) (h1))
theorem d_M_close_122 : decode y_M_close.2.1 122 = .ok (.goto (70), 3) := by decide +kernel
theorem b_M_close_122 {X : aw_X} {d : Nat} {Q : Option Value → aw_H → Prop} {I : Nat → Nat → Int32} {L : Nat → Nat → Int64} {D : Nat → Nat} 
    (h1 : aw_z X (d + 1) y_M_close Q 192 [none, none, none, none] [] (aw_s I L D)) :
    aw_z X (d + 1) y_M_close Q 122 [none, none, none, none] [] (aw_s I L D) :=
  (z_goto (tgt := 192) d_M_close_122 rfl (h1))
theorem d_M_close_87 : decode y_M_close.2.1 87 = .ok (.pop, 1) := by decide +kernel
theorem d_M_close_88 : decode y_M_close.2.1 88 = .ok (.aload_n 0, 1) := by decide +kernel
theorem d_M_close_89 : decode y_M_close.2.1 89 = .ok (.aload_n 0, 1) := by decide +kernel
theorem d_M_close_90 : decode y_M_close.2.1 90 = .ok (.getfield 44, 3) := by decide +kernel
theorem d_M_close_93 : decode y_M_close.2.1 93 = .ok (.aload_n 0, 1) := by decide +kernel
theorem d_M_close_94 : decode y_M_close.2.1 94 = .ok (.getfield 285, 3) := by decide +kernel
theorem s_M_close_87 : aw_VS y_M_close 87 [o_pop, o_ald 0, o_ald 0, o_getA 9 22, o_ald 0, o_getI 9 26] 97 := .cons (v_pop d_M_close_87) (.cons (v_aload_n (i := 0) d_M_close_88 rfl) (.cons (v_aload_n (i := 0) d_M_close_89 rfl) (.cons (v_getA (k := 22) k_M (by decide) rfl (Or.inl w_1483) d_M_close_90) (.cons (v_aload_n (i := 0) d_M_close_93 rfl) (.cons (v_getI (k := 26) k_M (by decide) (Or.inl rfl) (Or.inl w_1487) d_M_close_94) .nil)))))
theorem d_M_close_97 : decode y_M_close.2.1 97 = .ok (.iaload, 1) := by decide +kernel
theorem d_M_close_98 : decode y_M_close.2.1 98 = .ok (.invokevirtual 291, 3) := by decide +kernel
theorem b_M_close_87 {X : aw_X} {d : Nat} {Q : Option Value → aw_H → Prop} {I : Nat → Nat → Int32} {L : Nat → Nat → Int64} {D : Nat → Nat} {s0 : Int32}
    (h1 : vp_in (I 69 26) 16)
    (h2 : aw_m X d y_M_patch [.ref 69, .int (I 81 ((I 69 26).toNatClampNeg))] (aw_s I L D) (fun r A => aw_z X (d + 1) y_M_close Q 101 [none, none, none, none] (r.toList ++ []) A)) :
    aw_z X (d + 1) y_M_close Q 87 [some (.ref 69), none, none, none] [.int s0] (aw_s I L D) :=
  (s_M_close_87.go [some (.ref 69), none, none, none] [.int (I 69 26), .ref 81, .ref 69] (aw_s I L D) rfl (z_iald (n := 16) rfl (aw_lt (o := 81) rfl) (h1) d_M_close_97 (z_callV (av := [.int (I 81 ((I 69 26).toNatClampNeg))]) (st := []) ok_M_patch (Or.inl w_1791) w_1793 w_80 k_M d_M_close_98 rfl (aw_lt (o := 69) rfl) rfl rfl (Nat.le_of_ble_eq_true rfl) (Nat.le_refl _) (Nat.le_refl _) (aw_C.mono (h2) (fun _ _ zz => aw_Z.weak (ls' := [none, none, none, none]) zz (Nat.le_of_ble_eq_true rfl) ⟨Or.inl rfl, ⟨Or.inl rfl, ⟨Or.inl rfl, ⟨Or.inl rfl, trivial⟩⟩⟩⟩)))))
theorem d_M_close_45 : decode y_M_close.2.1 45 = .ok (.pop, 1) := by decide +kernel
theorem d_M_close_46 : decode y_M_close.2.1 46 = .ok (.aload_n 0, 1) := by decide +kernel
theorem d_M_close_47 : decode y_M_close.2.1 47 = .ok (.getfield 50, 3) := by decide +kernel
theorem d_M_close_50 : decode y_M_close.2.1 50 = .ok (.aload_n 0, 1) := by decide +kernel
theorem d_M_close_51 : decode y_M_close.2.1 51 = .ok (.getfield 288, 3) := by decide +kernel
theorem d_M_close_54 : decode y_M_close.2.1 54 = .ok (.aload_n 0, 1) := by decide +kernel
theorem d_M_close_55 : decode y_M_close.2.1 55 = .ok (.getfield 47, 3) := by decide +kernel
theorem d_M_close_58 : decode y_M_close.2.1 58 = .ok (.aload_n 0, 1) := by decide +kernel
theorem d_M_close_59 : decode y_M_close.2.1 59 = .ok (.getfield 285, 3) := by decide +kernel
theorem s_M_close_45 : aw_VS y_M_close 45 [o_pop, o_ald 0, o_getA 9 24, o_ald 0, o_getI 9 31, o_ald 0, o_getA 9 23, o_ald 0, o_getI 9 26] 62 := .cons (v_pop d_M_close_45) (.cons (v_aload_n (i := 0) d_M_close_46 rfl) (.cons (v_getA (k := 24) k_M (by decide) rfl (Or.inl w_1485) d_M_close_47) (.cons (v_aload_n (i := 0) d_M_close_50 rfl) (.cons (v_getI (k := 31) k_M (by decide) (Or.inl rfl) (Or.inl w_1492) d_M_close_51) (.cons (v_aload_n (i := 0) d_M_close_54 rfl) (.cons (v_getA (k := 23) k_M (by decide) rfl (Or.inl w_1484) d_M_close_55) (.cons (v_aload_n (i := 0) d_M_close_58 rfl) (.cons (v_getI (k := 26) k_M (by decide) (Or.inl rfl) (Or.inl w_1487) d_M_close_59) .nil))))))))
theorem d_M_close_62 : decode y_M_close.2.1 62 = .ok (.iaload, 1) := by decide +kernel
theorem d_M_close_63 : decode y_M_close.2.1 63 = .ok (.iastore, 1) := by decide +kernel
theorem d_M_close_64 : decode y_M_close.2.1 64 = .ok (.goto (128), 3) := by decide +kernel
theorem b_M_close_45 {X : aw_X} {d : Nat} {Q : Option Value → aw_H → Prop} {I : Nat → Nat → Int32} {L : Nat → Nat → Int64} {D : Nat → Nat} {s0 : Int32}
    (h1 : vp_in (I 69 26) 16)
    (h2 : vp_in (I 69 31) 4)
    (h3 : aw_z X (d + 1) y_M_close Q 192 [none, none, none, none] [] (aw_s (aw_u I 83 ((I 69 31).toNatClampNeg) (I 82 ((I 69 26).toNatClampNeg))) L D)) :
    aw_z X (d + 1) y_M_close Q 45 [some (.ref 69), none, none, none] [.int s0] (aw_s I L D) :=
  (s_M_close_45.go [some (.ref 69), none, none, none] [.int (I 69 26), .ref 82, .int (I 69 31), .ref 83] (aw_s I L D) rfl (z_iald (n := 16) rfl (aw_lt (o := 82) rfl) (h1) d_M_close_62 (z_iast (n := 4) rfl (aw_lt (o := 83) rfl) (h2) d_M_close_63 (z_goto (tgt := 192) d_M_close_64 rfl (aw_Z.weak (ls' := [none, none, none, none]) (h3) (Nat.le_of_ble_eq_true rfl) ⟨Or.inl rfl, ⟨Or.inl rfl, ⟨Or.inl rfl, ⟨Or.inl rfl, trivial⟩⟩⟩⟩)))))
theorem d_M_close_141 : decode y_M_close.2.1 141 = .ok (.ifCond .eq (38), 3) := by decide +kernel
theorem d_M_close_179 : decode y_M_close.2.1 179 = .ok (.aload_n 0, 1) := by decide +kernel
theorem d_M_close_180 : decode y_M_close.2.1 180 = .ok (.aload_n 0, 1) := by decide +kernel
theorem d_M_close_181 : decode y_M_close.2.1 181 = .ok (.getfield 44, 3) := by decide +kernel
theorem d_M_close_184 : decode y_M_close.2.1 184 = .ok (.aload_n 0, 1) := by decide +kernel
theorem d_M_close_185 : decode y_M_close.2.1 185 = .ok (.getfield 285, 3) := by decide +kernel
theorem s_M_close_179 : aw_VS y_M_close 179 [o_ald 0, o_ald 0, o_getA 9 22, o_ald 0, o_getI 9 26] 188 := .cons (v_aload_n (i := 0) d_M_close_179 rfl) (.cons (v_aload_n (i := 0) d_M_close_180 rfl) (.cons (v_getA (k := 22) k_M (by decide) rfl (Or.inl w_1483) d_M_close_181) (.cons (v_aload_n (i := 0) d_M_close_184 rfl) (.cons (v_getI (k := 26) k_M (by decide) (Or.inl rfl) (Or.inl w_1487) d_M_close_185) .nil))))
theorem d_M_close_188 : decode y_M_close.2.1 188 = .ok (.iaload, 1) := by decide +kernel
theorem d_M_close_189 : decode y_M_close.2.1 189 = .ok (.invokevirtual 291, 3) := by decide +kernel
theorem d_M_close_144 : decode y_M_close.2.1 144 = .ok (.aload_n 0, 1) := by decide +kernel
theorem d_M_close_145 : decode y_M_close.2.1 145 = .ok (.getfield 44, 3) := by decide +kernel
theorem d_M_close_148 : decode y_M_close.2.1 148 = .ok (.aload_n 0, 1) := by decide +kernel
theorem d_M_close_149 : decode y_M_close.2.1 149 = .ok (.getfield 285, 3) := by decide +kernel
theorem s_M_close_144 : aw_VS y_M_close 144 [o_ald 0, o_getA 9 22, o_ald 0, o_getI 9 26] 152 := .cons (v_aload_n (i := 0) d_M_close_144 rfl) (.cons (v_getA (k := 22) k_M (by decide) rfl (Or.inl w_1483) d_M_close_145) (.cons (v_aload_n (i := 0) d_M_close_148 rfl) (.cons (v_getI (k := 26) k_M (by decide) (Or.inl rfl) (Or.inl w_1487) d_M_close_149) .nil)))
theorem d_M_close_152 : decode y_M_close.2.1 152 = .ok (.iaload, 1) := by decide +kernel
theorem d_M_close_153 : decode y_M_close.2.1 153 = .ok (.istore_n 2, 1) := by decide +kernel
theorem d_M_close_154 : decode y_M_close.2.1 154 = .ok (.aload_n 0, 1) := by decide +kernel
theorem s_M_close_153 : aw_VS y_M_close 153 [o_ist 2, o_ald 0] 155 := .cons (v_istore_n d_M_close_153) (.cons (v_aload_n (i := 0) d_M_close_154 rfl) .nil)
theorem d_M_close_155 : decode y_M_close.2.1 155 = .ok (.invokevirtual 222, 3) := by decide +kernel
theorem b_M_close_141 {X : aw_X} {d : Nat} {Q : Option Value → aw_H → Prop} {I : Nat → Nat → Int32} {L : Nat → Nat → Int64} {D : Nat → Nat} {s0 : Int32}
    (h1 : s0 = 0 → vp_in (I 69 26) 16)
    (h2 : s0 = 0 → aw_m X d y_M_patch [.ref 69, .int (I 81 ((I 69 26).toNatClampNeg))] (aw_s I L D) (fun r A => aw_z X (d + 1) y_M_close Q 192 [none, none, none, none] (r.toList ++ []) A))
    (h3 : ¬ s0 = 0 → vp_in (I 69 26) 16)
    (h4 : ¬ s0 = 0 → aw_m X d y_M_go [.ref 69] (aw_s I L D) (fun r A => aw_z X (d + 1) y_M_close Q 158 [some (.ref 69), none, some (.int (I 81 ((I 69 26).toNatClampNeg))), none] (r.toList ++ []) A)) :
    aw_z X (d + 1) y_M_close Q 141 [some (.ref 69), none, none, none] [.int s0] (aw_s I L D) :=
  (z_if_eq (tgt := 179) d_M_close_141 rfl (fun q1 => (s_M_close_179.go [some (.ref 69), none, none, none] [.int (I 69 26), .ref 81, .ref 69] (aw_s I L D) rfl (z_iald (n := 16) rfl (aw_lt (o := 81) rfl) (h1 q1) d_M_close_188 (z_callV (av := [.int (I 81 ((I 69 26).toNatClampNeg))]) (st := []) ok_M_patch (Or.inl w_1791) w_1793 w_80 k_M d_M_close_189 rfl (aw_lt (o := 69) rfl) rfl rfl (Nat.le_of_ble_eq_true rfl) (Nat.le_refl _) (Nat.le_refl _) (aw_C.mono (h2 q1) (fun _ _ zz => aw_Z.weak (ls' := [none, none, none, none]) zz (Nat.le_of_ble_eq_true rfl) ⟨Or.inl rfl, ⟨Or.inl rfl, ⟨Or.inl rfl, ⟨Or.inl rfl, trivial⟩⟩⟩⟩)))))) (fun q2 => (s_M_close_144.go [some (.ref 69), none, none, none] [.int (I 69 26), .ref 81] (aw_s I L D) rfl (z_iald (n := 16) rfl (aw_lt (o := 81) rfl) (h3 q2) d_M_close_152 (s_M_close_153.go [some (.ref 69), none, some (.int (I 81 ((I 69 26).toNatClampNeg))), none] [.ref 69] (aw_s I L D) rfl (z_callV (av := []) (st := []) ok_M_go (Or.inl w_1760) w_1762 w_75 k_M d_M_close_155 rfl (aw_lt (o := 69) rfl) rfl rfl (Nat.le_of_ble_eq_true rfl) (Nat.le_refl _) (Nat.le_refl _) (h4 q2)))))))
theorem d_M_close_192 : decode y_M_close.2.1 192 = .ok (.iconst 1, 1) := by decide +kernel
theorem s_M_close_192 : aw_VS y_M_close 192 [o_c (.int (1 : Int32))] 193 := .cons (v_iconst (v := (1 : Int32)) d_M_close_192 (by decide +kernel)) .nil
theorem d_M_close_193 : decode y_M_close.2.1 193 = .ok (.ireturn, 1) := by decide +kernel
theorem b_M_close_192 {X : aw_X} {d : Nat} {Q : Option Value → aw_H → Prop} {I : Nat → Nat → Int32} {L : Nat → Nat → Int64} {D : Nat → Nat} 
    (h1 : Q (some (.int (1 : Int32))) (aw_s I L D)) :
    aw_z X (d + 1) y_M_close Q 192 [none, none, none, none] [] (aw_s I L D) :=
  (s_M_close_192.go [none, none, none, none] [.int (1 : Int32)] (aw_s I L D) rfl (z_iret d_M_close_193 rfl (aw_nz (by decide +kernel)) (h1)))
theorem d_M_close_101 : decode y_M_close.2.1 101 = .ok (.goto (91), 3) := by decide +kernel
theorem b_M_close_101 {X : aw_X} {d : Nat} {Q : Option Value → aw_H → Prop} {I : Nat → Nat → Int32} {L : Nat → Nat → Int64} {D : Nat → Nat} 
    (h1 : aw_z X (d + 1) y_M_close Q 192 [none, none, none, none] [] (aw_s I L D)) :
    aw_z X (d + 1) y_M_close Q 101 [none, none, none, none] [] (aw_s I L D) :=
  (z_goto (tgt := 192) d_M_close_101 rfl (h1))
theorem d_M_close_158 : decode y_M_close.2.1 158 = .ok (.aload_n 0, 1) := by decide +kernel
theorem d_M_close_159 : decode y_M_close.2.1 159 = .ok (.bipush 22, 2) := by decide +kernel
theorem d_M_close_161 : decode y_M_close.2.1 161 = .ok (.iconst 0, 1) := by decide +kernel
theorem s_M_close_158 : aw_VS y_M_close 158 [o_ald 0, o_c (.int (22 : Int32)), o_c (.int (0 : Int32))] 162 := .cons (v_aload_n (i := 0) d_M_close_158 rfl) (.cons (v_bipush (v := (22 : Int32)) d_M_close_159 (by decide +kernel)) (.cons (v_iconst (v := (0 : Int32)) d_M_close_161 (by decide +kernel)) .nil))
theorem d_M_close_162 : decode y_M_close.2.1 162 = .ok (.invokevirtual 238, 3) := by decide +kernel
theorem b_M_close_158 {X : aw_X} {d : Nat} {Q : Option Value → aw_H → Prop} {I : Nat → Nat → Int32} {L : Nat → Nat → Int64} {D : Nat → Nat} {v2 : Int32}
    (h1 : aw_m X d y_M_emit [.ref 69, .int (22 : Int32), .int (0 : Int32)] (aw_s I L D) (fun r A => aw_z X (d + 1) y_M_close Q 165 [some (.ref 69), none, some (.int v2), none] (r.toList ++ []) A)) :
    aw_z X (d + 1) y_M_close Q 158 [some (.ref 69), none, some (.int v2), none] [] (aw_s I L D) :=
  (s_M_close_158.go [some (.ref 69), none, some (.int v2), none] [.int (0 : Int32), .int (22 : Int32), .ref 69] (aw_s I L D) rfl (z_callV (av := [.int (22 : Int32), .int (0 : Int32)]) (st := []) ok_M_emit (Or.inl w_1787) w_1789 w_79 k_M d_M_close_162 rfl (aw_lt (o := 69) rfl) rfl rfl (Nat.le_of_ble_eq_true rfl) (Nat.le_refl _) (Nat.le_refl _) (h1)))
theorem d_M_close_165 : decode y_M_close.2.1 165 = .ok (.istore_n 3, 1) := by decide +kernel
theorem d_M_close_166 : decode y_M_close.2.1 166 = .ok (.aload_n 0, 1) := by decide +kernel
theorem d_M_close_167 : decode y_M_close.2.1 167 = .ok (.iload_n 2, 1) := by decide +kernel
theorem s_M_close_165 : aw_VS y_M_close 165 [o_ist 3, o_ald 0, o_ild 2] 168 := .cons (v_istore_n d_M_close_165) (.cons (v_aload_n (i := 0) d_M_close_166 rfl) (.cons (v_iload_n (i := 2) d_M_close_167 rfl) .nil))
theorem d_M_close_168 : decode y_M_close.2.1 168 = .ok (.invokevirtual 291, 3) := by decide +kernel
theorem b_M_close_165 {X : aw_X} {d : Nat} {Q : Option Value → aw_H → Prop} {I : Nat → Nat → Int32} {L : Nat → Nat → Int64} {D : Nat → Nat} {v2 : Int32} {s0 : Int32}
    (h1 : aw_m X d y_M_patch [.ref 69, .int v2] (aw_s I L D) (fun r A => aw_z X (d + 1) y_M_close Q 171 [some (.ref 69), none, none, some (.int s0)] (r.toList ++ []) A)) :
    aw_z X (d + 1) y_M_close Q 165 [some (.ref 69), none, some (.int v2), none] [.int s0] (aw_s I L D) :=
  (s_M_close_165.go [some (.ref 69), none, some (.int v2), some (.int s0)] [.int v2, .ref 69] (aw_s I L D) rfl (z_callV (av := [.int v2]) (st := []) ok_M_patch (Or.inl w_1791) w_1793 w_80 k_M d_M_close_168 rfl (aw_lt (o := 69) rfl) rfl rfl (Nat.le_of_ble_eq_true rfl) (Nat.le_refl _) (Nat.le_refl _) (aw_C.mono (h1) (fun _ _ zz => aw_Z.weak (ls' := [some (.ref 69), none, none, some (.int s0)]) zz (Nat.le_of_ble_eq_true rfl) ⟨Or.inr rfl, ⟨Or.inl rfl, ⟨Or.inl rfl, ⟨Or.inr rfl, trivial⟩⟩⟩⟩))))
theorem d_M_close_171 : decode y_M_close.2.1 171 = .ok (.aload_n 0, 1) := by decide +kernel
theorem d_M_close_172 : decode y_M_close.2.1 172 = .ok (.iconst 2, 1) := by decide +kernel
theorem d_M_close_173 : decode y_M_close.2.1 173 = .ok (.iload_n 3, 1) := by decide +kernel
theorem d_M_close_174 : decode y_M_close.2.1 174 = .ok (.iconst 0, 1) := by decide +kernel
theorem s_M_close_171 : aw_VS y_M_close 171 [o_ald 0, o_c (.int (2 : Int32)), o_ild 3, o_c (.int (0 : Int32))] 175 := .cons (v_aload_n (i := 0) d_M_close_171 rfl) (.cons (v_iconst (v := (2 : Int32)) d_M_close_172 (by decide +kernel)) (.cons (v_iload_n (i := 3) d_M_close_173 rfl) (.cons (v_iconst (v := (0 : Int32)) d_M_close_174 (by decide +kernel)) .nil)))
theorem d_M_close_175 : decode y_M_close.2.1 175 = .ok (.invokevirtual 294, 3) := by decide +kernel
theorem b_M_close_171 {X : aw_X} {d : Nat} {Q : Option Value → aw_H → Prop} {I : Nat → Nat → Int32} {L : Nat → Nat → Int64} {D : Nat → Nat} {v3 : Int32}
    (h1 : aw_m X d y_M_open [.ref 69, .int (2 : Int32), .int v3, .int (0 : Int32)] (aw_s I L D) (fun r A => aw_z X (d + 1) y_M_close Q 178 [none, none, none, none] (r.toList ++ []) A)) :
    aw_z X (d + 1) y_M_close Q 171 [some (.ref 69), none, none, some (.int v3)] [] (aw_s I L D) :=
  (s_M_close_171.go [some (.ref 69), none, none, some (.int v3)] [.int (0 : Int32), .int v3, .int (2 : Int32), .ref 69] (aw_s I L D) rfl (z_callV (av := [.int (2 : Int32), .int v3, .int (0 : Int32)]) (st := []) ok_M_open (Or.inl w_1802) w_1804 w_82 k_M d_M_close_175 rfl (aw_lt (o := 69) rfl) rfl rfl (Nat.le_of_ble_eq_true rfl) (Nat.le_refl _) (Nat.le_refl _) (aw_C.mono (h1) (fun _ _ zz => aw_Z.weak (ls' := [none, none, none, none]) zz (Nat.le_of_ble_eq_true rfl) ⟨Or.inl rfl, ⟨Or.inl rfl, ⟨Or.inl rfl, ⟨Or.inl rfl, trivial⟩⟩⟩⟩))))
theorem d_M_close_178 : decode y_M_close.2.1 178 = .ok (.ireturn, 1) := by decide +kernel
theorem b_M_close_178 {X : aw_X} {d : Nat} {Q : Option Value → aw_H → Prop} {I : Nat → Nat → Int32} {L : Nat → Nat → Int64} {D : Nat → Nat} {s0 : Int32}
    (h1 : (s0 = 0 ∨ s0 = 1))
    (h2 : Q (some (.int s0)) (aw_s I L D)) :
    aw_z X (d + 1) y_M_close Q 178 [none, none, none, none] [.int s0] (aw_s I L D) :=
  (z_iret d_M_close_178 rfl (aw_nz (h1)) (h2))
/-! M_emit -/
theorem d_M_emit_0 : decode y_M_emit.2.1 0 = .ok (.aload_n 0, 1) := by decide +kernel
theorem d_M_emit_1 : decode y_M_emit.2.1 1 = .ok (.getfield 13, 3) := by decide +kernel
theorem d_M_emit_4 : decode y_M_emit.2.1 4 = .ok (.sipush 800, 3) := by decide +kernel
theorem d_M_emit_7 : decode y_M_emit.2.1 7 = .ok (.aload_n 0, 1) := by decide +kernel
theorem d_M_emit_8 : decode y_M_emit.2.1 8 = .ok (.getfield 225, 3) := by decide +kernel
theorem d_M_emit_11 : decode y_M_emit.2.1 11 = .ok (.imul, 1) := by decide +kernel
theorem d_M_emit_12 : decode y_M_emit.2.1 12 = .ok (.aload_n 0, 1) := by decide +kernel
theorem d_M_emit_13 : decode y_M_emit.2.1 13 = .ok (.getfield 228, 3) := by decide +kernel
theorem d_M_emit_16 : decode y_M_emit.2.1 16 = .ok (.iadd, 1) := by decide +kernel
theorem d_M_emit_17 : decode y_M_emit.2.1 17 = .ok (.iload_n 1, 1) := by decide +kernel
theorem s_M_emit_0 : aw_VS y_M_emit 0 [o_ald 0, o_getA 9 12, o_c (.int (800 : Int32)), o_ald 0, o_getI 9 29, o_i2 (fun x z => x * z), o_ald 0, o_getI 9 30, o_i2 (fun x z => x + z), o_ild 1] 18 := .cons (v_aload_n (i := 0) d_M_emit_0 rfl) (.cons (v_getA (k := 12) k_M (by decide) rfl (Or.inl w_1473) d_M_emit_1) (.cons (v_sipush (v := (800 : Int32)) d_M_emit_4 (by decide +kernel)) (.cons (v_aload_n (i := 0) d_M_emit_7 rfl) (.cons (v_getI (k := 29) k_M (by decide) (Or.inl rfl) (Or.inl w_1490) d_M_emit_8) (.cons (v_imul d_M_emit_11) (.cons (v_aload_n (i := 0) d_M_emit_12 rfl) (.cons (v_getI (k := 30) k_M (by decide) (Or.inl rfl) (Or.inl w_1491) d_M_emit_13) (.cons (v_iadd d_M_emit_16) (.cons (v_iload_n (i := 1) d_M_emit_17 rfl) .nil)))))))))
theorem d_M_emit_18 : decode y_M_emit.2.1 18 = .ok (.iastore, 1) := by decide +kernel
theorem d_M_emit_19 : decode y_M_emit.2.1 19 = .ok (.aload_n 0, 1) := by decide +kernel
theorem d_M_emit_20 : decode y_M_emit.2.1 20 = .ok (.getfield 16, 3) := by decide +kernel
theorem d_M_emit_23 : decode y_M_emit.2.1 23 = .ok (.sipush 800, 3) := by decide +kernel
theorem d_M_emit_26 : decode y_M_emit.2.1 26 = .ok (.aload_n 0, 1) := by decide +kernel
theorem d_M_emit_27 : decode y_M_emit.2.1 27 = .ok (.getfield 225, 3) := by decide +kernel
theorem d_M_emit_30 : decode y_M_emit.2.1 30 = .ok (.imul, 1) := by decide +kernel
theorem d_M_emit_31 : decode y_M_emit.2.1 31 = .ok (.aload_n 0, 1) := by decide +kernel
theorem d_M_emit_32 : decode y_M_emit.2.1 32 = .ok (.getfield 228, 3) := by decide +kernel
theorem d_M_emit_35 : decode y_M_emit.2.1 35 = .ok (.iadd, 1) := by decide +kernel
theorem d_M_emit_36 : decode y_M_emit.2.1 36 = .ok (.iload_n 2, 1) := by decide +kernel
theorem s_M_emit_19 : aw_VS y_M_emit 19 [o_ald 0, o_getA 9 13, o_c (.int (800 : Int32)), o_ald 0, o_getI 9 29, o_i2 (fun x z => x * z), o_ald 0, o_getI 9 30, o_i2 (fun x z => x + z), o_ild 2] 37 := .cons (v_aload_n (i := 0) d_M_emit_19 rfl) (.cons (v_getA (k := 13) k_M (by decide) rfl (Or.inl w_1474) d_M_emit_20) (.cons (v_sipush (v := (800 : Int32)) d_M_emit_23 (by decide +kernel)) (.cons (v_aload_n (i := 0) d_M_emit_26 rfl) (.cons (v_getI (k := 29) k_M (by decide) (Or.inl rfl) (Or.inl w_1490) d_M_emit_27) (.cons (v_imul d_M_emit_30) (.cons (v_aload_n (i := 0) d_M_emit_31 rfl) (.cons (v_getI (k := 30) k_M (by decide) (Or.inl rfl) (Or.inl w_1491) d_M_emit_32) (.cons (v_iadd d_M_emit_35) (.cons (v_iload_n (i := 2) d_M_emit_36 rfl) .nil)))))))))
theorem d_M_emit_37 : decode y_M_emit.2.1 37 = .ok (.iastore, 1) := by decide +kernel
theorem d_M_emit_38 : decode y_M_emit.2.1 38 = .ok (.aload_n 0, 1) := by decide +kernel
theorem d_M_emit_39 : decode y_M_emit.2.1 39 = .ok (.dup, 1) := by decide +kernel
theorem d_M_emit_40 : decode y_M_emit.2.1 40 = .ok (.getfield 228, 3) := by decide +kernel
theorem d_M_emit_43 : decode y_M_emit.2.1 43 = .ok (.iconst 1, 1) := by decide +kernel
theorem d_M_emit_44 : decode y_M_emit.2.1 44 = .ok (.iadd, 1) := by decide +kernel
theorem d_M_emit_45 : decode y_M_emit.2.1 45 = .ok (.putfield 228, 3) := by decide +kernel
theorem d_M_emit_48 : decode y_M_emit.2.1 48 = .ok (.aload_n 0, 1) := by decide +kernel
theorem d_M_emit_49 : decode y_M_emit.2.1 49 = .ok (.getfield 228, 3) := by decide +kernel
theorem d_M_emit_52 : decode y_M_emit.2.1 52 = .ok (.iconst 1, 1) := by decide +kernel
theorem d_M_emit_53 : decode y_M_emit.2.1 53 = .ok (.isub, 1) := by decide +kernel
theorem s_M_emit_38 : aw_VS y_M_emit 38 [o_ald 0, o_dup, o_getI 9 30, o_c (.int (1 : Int32)), o_i2 (fun x z => x + z), o_putI 9 30, o_ald 0, o_getI 9 30, o_c (.int (1 : Int32)), o_i2 (fun x z => x - z)] 54 := .cons (v_aload_n (i := 0) d_M_emit_38 rfl) (.cons (v_dup d_M_emit_39) (.cons (v_getI (k := 30) k_M (by decide) (Or.inl rfl) (Or.inl w_1491) d_M_emit_40) (.cons (v_iconst (v := (1 : Int32)) d_M_emit_43 (by decide +kernel)) (.cons (v_iadd d_M_emit_44) (.cons (v_putI (k := 30) k_M (by decide) rfl (Or.inl ⟨rfl, Or.inl w_1491⟩) d_M_emit_45) (.cons (v_aload_n (i := 0) d_M_emit_48 rfl) (.cons (v_getI (k := 30) k_M (by decide) (Or.inl rfl) (Or.inl w_1491) d_M_emit_49) (.cons (v_iconst (v := (1 : Int32)) d_M_emit_52 (by decide +kernel)) (.cons (v_isub d_M_emit_53) .nil)))))))))
theorem d_M_emit_54 : decode y_M_emit.2.1 54 = .ok (.ireturn, 1) := by decide +kernel
theorem b_M_emit_0 {X : aw_X} {d : Nat} {Q : Option Value → aw_H → Prop} {I : Nat → Nat → Int32} {L : Nat → Nat → Int64} {D : Nat → Nat} {v1 : Int32} {v2 : Int32}
    (h1 : vp_in (((800 : Int32) * (I 69 29)) + (I 69 30)) 5600)
    (h2 : vp_in (((800 : Int32) * (I 69 29)) + (I 69 30)) 5600)
    (h3 : Q (some (.int (((I 69 30) + (1 : Int32)) - (1 : Int32)))) (aw_s (aw_u (aw_u (aw_u I 71 ((((800 : Int32) * (I 69 29)) + (I 69 30)).toNatClampNeg) v1) 72 ((((800 : Int32) * (I 69 29)) + (I 69 30)).toNatClampNeg) v2) 69 30 ((I 69 30) + (1 : Int32))) L D)) :
    aw_z X d y_M_emit Q 0 [some (.ref 69), some (.int v1), some (.int v2)] [] (aw_s I L D) :=
  (s_M_emit_0.go [some (.ref 69), some (.int v1), some (.int v2)] [.int v1, .int (((800 : Int32) * (I 69 29)) + (I 69 30)), .ref 71] (aw_s I L D) rfl (z_iast (n := 5600) rfl (aw_lt (o := 71) rfl) (h1) d_M_emit_18 (s_M_emit_19.go [some (.ref 69), some (.int v1), some (.int v2)] [.int v2, .int (((800 : Int32) * (I 69 29)) + (I 69 30)), .ref 72] (aw_s (aw_u I 71 ((((800 : Int32) * (I 69 29)) + (I 69 30)).toNatClampNeg) v1) L D) rfl (z_iast (n := 5600) rfl (aw_lt (o := 72) rfl) (h2) d_M_emit_37 (s_M_emit_38.go [some (.ref 69), some (.int v1), some (.int v2)] [.int (((I 69 30) + (1 : Int32)) - (1 : Int32))] (aw_s (aw_u (aw_u (aw_u I 71 ((((800 : Int32) * (I 69 29)) + (I 69 30)).toNatClampNeg) v1) 72 ((((800 : Int32) * (I 69 29)) + (I 69 30)).toNatClampNeg) v2) 69 30 ((I 69 30) + (1 : Int32))) L D) rfl (z_iret d_M_emit_54 rfl rfl (h3)))))))
/-! M_patch -/
theorem d_M_patch_0 : decode y_M_patch.2.1 0 = .ok (.aload_n 0, 1) := by decide +kernel
theorem d_M_patch_1 : decode y_M_patch.2.1 1 = .ok (.getfield 16, 3) := by decide +kernel
theorem d_M_patch_4 : decode y_M_patch.2.1 4 = .ok (.sipush 800, 3) := by decide +kernel
theorem d_M_patch_7 : decode y_M_patch.2.1 7 = .ok (.aload_n 0, 1) := by decide +kernel
theorem d_M_patch_8 : decode y_M_patch.2.1 8 = .ok (.getfield 225, 3) := by decide +kernel
theorem d_M_patch_11 : decode y_M_patch.2.1 11 = .ok (.imul, 1) := by decide +kernel
theorem d_M_patch_12 : decode y_M_patch.2.1 12 = .ok (.iload_n 1, 1) := by decide +kernel
theorem d_M_patch_13 : decode y_M_patch.2.1 13 = .ok (.iadd, 1) := by decide +kernel
theorem d_M_patch_14 : decode y_M_patch.2.1 14 = .ok (.aload_n 0, 1) := by decide +kernel
theorem d_M_patch_15 : decode y_M_patch.2.1 15 = .ok (.getfield 228, 3) := by decide +kernel
theorem s_M_patch_0 : aw_VS y_M_patch 0 [o_ald 0, o_getA 9 13, o_c (.int (800 : Int32)), o_ald 0, o_getI 9 29, o_i2 (fun x z => x * z), o_ild 1, o_i2 (fun x z => x + z), o_ald 0, o_getI 9 30] 18 := .cons (v_aload_n (i := 0) d_M_patch_0 rfl) (.cons (v_getA (k := 13) k_M (by decide) rfl (Or.inl w_1474) d_M_patch_1) (.cons (v_sipush (v := (800 : Int32)) d_M_patch_4 (by decide +kernel)) (.cons (v_aload_n (i := 0) d_M_patch_7 rfl) (.cons (v_getI (k := 29) k_M (by decide) (Or.inl rfl) (Or.inl w_1490) d_M_patch_8) (.cons (v_imul d_M_patch_11) (.cons (v_iload_n (i := 1) d_M_patch_12 rfl) (.cons (v_iadd d_M_patch_13) (.cons (v_aload_n (i := 0) d_M_patch_14 rfl) (.cons (v_getI (k := 30) k_M (by decide) (Or.inl rfl) (Or.inl w_1491) d_M_patch_15) .nil)))))))))
theorem d_M_patch_18 : decode y_M_patch.2.1 18 = .ok (.iastore, 1) := by decide +kernel
theorem d_M_patch_19 : decode y_M_patch.2.1 19 = .ok (.return_, 1) := by decide +kernel
theorem b_M_patch_0 {X : aw_X} {d : Nat} {Q : Option Value → aw_H → Prop} {I : Nat → Nat → Int32} {L : Nat → Nat → Int64} {D : Nat → Nat} {v1 : Int32}
    (h1 : vp_in (((800 : Int32) * (I 69 29)) + v1) 5600)
    (h2 : Q none (aw_s (aw_u I 72 ((((800 : Int32) * (I 69 29)) + v1).toNatClampNeg) (I 69 30)) L D)) :
    aw_z X d y_M_patch Q 0 [some (.ref 69), some (.int v1)] [] (aw_s I L D) :=
  (s_M_patch_0.go [some (.ref 69), some (.int v1)] [.int (I 69 30), .int (((800 : Int32) * (I 69 29)) + v1), .ref 72] (aw_s I L D) rfl (z_iast (n := 5600) rfl (aw_lt (o := 72) rfl) (h1) d_M_patch_18 (z_vret d_M_patch_19 rfl (h2))))
/-! M_spelt -/
theorem d_M_spelt_0 : decode y_M_spelt.2.1 0 = .ok (.ldc2_w 206, 3) := by decide +kernel
theorem d_M_spelt_3 : decode y_M_spelt.2.1 3 = .ok (.iload_n 0, 1) := by decide +kernel
theorem d_M_spelt_4 : decode y_M_spelt.2.1 4 = .ok (.i2l, 1) := by decide +kernel
theorem d_M_spelt_5 : decode y_M_spelt.2.1 5 = .ok (.ldc2_w 208, 3) := by decide +kernel
theorem d_M_spelt_8 : decode y_M_spelt.2.1 8 = .ok (.lsub, 1) := by decide +kernel
theorem d_M_spelt_9 : decode y_M_spelt.2.1 9 = .ok (.lmul, 1) := by decide +kernel
theorem d_M_spelt_10 : decode y_M_spelt.2.1 10 = .ok (.iload_n 1, 1) := by decide +kernel
theorem d_M_spelt_11 : decode y_M_spelt.2.1 11 = .ok (.i2l, 1) := by decide +kernel
theorem d_M_spelt_12 : decode y_M_spelt.2.1 12 = .ok (.ladd, 1) := by decide +kernel
theorem d_M_spelt_13 : decode y_M_spelt.2.1 13 = .ok (.ldc2_w 208, 3) := by decide +kernel
theorem d_M_spelt_16 : decode y_M_spelt.2.1 16 = .ok (.lsub, 1) := by decide +kernel
theorem d_M_spelt_17 : decode y_M_spelt.2.1 17 = .ok (.lstore 5, 2) := by decide +kernel
theorem d_M_spelt_19 : decode y_M_spelt.2.1 19 = .ok (.iload_n 2, 1) := by decide +kernel
theorem s_M_spelt_0 : aw_VS y_M_spelt 0 [o_c (.long (27 : Int64)), o_ild 0, o_il (fun x => x.toInt64), o_c (.long (96 : Int64)), o_l2 (fun x z => x - z), o_l2 (fun x z => x * z), o_ild 1, o_il (fun x => x.toInt64), o_l2 (fun x z => x + z), o_c (.long (96 : Int64)), o_l2 (fun x z => x - z), o_lst 5, o_ild 2] 20 := .cons (v_ldc2 d_M_spelt_0 w_1777) (.cons (v_iload_n (i := 0) d_M_spelt_3 rfl) (.cons (v_i2l d_M_spelt_4) (.cons (v_ldc2 d_M_spelt_5 w_1778) (.cons (v_lsub d_M_spelt_8) (.cons (v_lmul d_M_spelt_9) (.cons (v_iload_n (i := 1) d_M_spelt_10 rfl) (.cons (v_i2l d_M_spelt_11) (.cons (v_ladd d_M_spelt_12) (.cons (v_ldc2 d_M_spelt_13 w_1778) (.cons (v_lsub d_M_spelt_16) (.cons (v_lstore d_M_spelt_17) (.cons (v_iload_n (i := 2) d_M_spelt_19 rfl) .nil))))))))))))
theorem d_M_spelt_20 : decode y_M_spelt.2.1 20 = .ok (.ifCond .le (18), 3) := by decide +kernel
theorem d_M_spelt_23 : decode y_M_spelt.2.1 23 = .ok (.ldc2_w 206, 3) := by decide +kernel
theorem d_M_spelt_26 : decode y_M_spelt.2.1 26 = .ok (.lload 5, 2) := by decide +kernel
theorem d_M_spelt_28 : decode y_M_spelt.2.1 28 = .ok (.lmul, 1) := by decide +kernel
theorem d_M_spelt_29 : decode y_M_spelt.2.1 29 = .ok (.iload_n 2, 1) := by decide +kernel
theorem d_M_spelt_30 : decode y_M_spelt.2.1 30 = .ok (.i2l, 1) := by decide +kernel
theorem d_M_spelt_31 : decode y_M_spelt.2.1 31 = .ok (.ladd, 1) := by decide +kernel
theorem d_M_spelt_32 : decode y_M_spelt.2.1 32 = .ok (.ldc2_w 208, 3) := by decide +kernel
theorem d_M_spelt_35 : decode y_M_spelt.2.1 35 = .ok (.lsub, 1) := by decide +kernel
theorem d_M_spelt_36 : decode y_M_spelt.2.1 36 = .ok (.lstore 5, 2) := by decide +kernel
theorem s_M_spelt_23 : aw_VS y_M_spelt 23 [o_c (.long (27 : Int64)), o_lld 5, o_l2 (fun x z => x * z), o_ild 2, o_il (fun x => x.toInt64), o_l2 (fun x z => x + z), o_c (.long (96 : Int64)), o_l2 (fun x z => x - z), o_lst 5] 38 := .cons (v_ldc2 d_M_spelt_23 w_1777) (.cons (v_lload (i := 5) d_M_spelt_26) (.cons (v_lmul d_M_spelt_28) (.cons (v_iload_n (i := 2) d_M_spelt_29 rfl) (.cons (v_i2l d_M_spelt_30) (.cons (v_ladd d_M_spelt_31) (.cons (v_ldc2 d_M_spelt_32 w_1778) (.cons (v_lsub d_M_spelt_35) (.cons (v_lstore d_M_spelt_36) .nil))))))))
theorem b_M_spelt_0 {X : aw_X} {d : Nat} {Q : Option Value → aw_H → Prop} {I : Nat → Nat → Int32} {L : Nat → Nat → Int64} {D : Nat → Nat} {v0 : Int32} {v1 : Int32} {v2 : Int32} {v3 : Int32} {v4 : Int32}
    (h1 : v2 ≤ 0 → aw_z X d y_M_spelt Q 38 [none, none, none, some (.int v3), some (.int v4), some (.long ((((27 : Int64) * (v0.toInt64 - (96 : Int64))) + v1.toInt64) - (96 : Int64))), none] [] (aw_s I L D))
    (h2 : ¬ v2 ≤ 0 → aw_z X d y_M_spelt Q 38 [none, none, none, some (.int v3), some (.int v4), some (.long ((((27 : Int64) * ((((27 : Int64) * (v0.toInt64 - (96 : Int64))) + v1.toInt64) - (96 : Int64))) + v2.toInt64) - (96 : Int64))), none] [] (aw_s I L D)) :
    aw_z X d y_M_spelt Q 0 [some (.int v0), some (.int v1), some (.int v2), some (.int v3), some (.int v4), none, none] [] (aw_s I L D) :=
  (s_M_spelt_0.go [some (.int v0), some (.int v1), some (.int v2), some (.int v3), some (.int v4), some (.long ((((27 : Int64) * (v0.toInt64 - (96 : Int64))) + v1.toInt64) - (96 : Int64))), none] [.int v2] (aw_s I L D) rfl (z_if_le (tgt := 38) d_M_spelt_20 rfl (fun q1 => (aw_Z.weak (ls' := [none, none, none, some (.int v3), some (.int v4), some (.long ((((27 : Int64) * (v0.toInt64 - (96 : Int64))) + v1.toInt64) - (96 : Int64))), none]) (h1 q1) (Nat.le_of_ble_eq_true rfl) ⟨Or.inl rfl, ⟨Or.inl rfl, ⟨Or.inl rfl, ⟨Or.inr rfl, ⟨Or.inr rfl, ⟨Or.inr rfl, ⟨Or.inl rfl, trivial⟩⟩⟩⟩⟩⟩⟩)) (fun q2 => (s_M_spelt_23.go [some (.int v0), some (.int v1), some (.int v2), some (.int v3), some (.int v4), some (.long ((((27 : Int64) * ((((27 : Int64) * (v0.toInt64 - (96 : Int64))) + v1.toInt64) - (96 : Int64))) + v2.toInt64) - (96 : Int64))), none] [] (aw_s I L D) rfl (aw_Z.weak (ls' := [none, none, none, some (.int v3), some (.int v4), some (.long ((((27 : Int64) * ((((27 : Int64) * (v0.toInt64 - (96 : Int64))) + v1.toInt64) - (96 : Int64))) + v2.toInt64) - (96 : Int64))), none]) (h2 q2) (Nat.le_of_ble_eq_true rfl) ⟨Or.inl rfl, ⟨Or.inl rfl, ⟨Or.inl rfl, ⟨Or.inr rfl, ⟨Or.inr rfl, ⟨Or.inr rfl, ⟨Or.inl rfl, trivial⟩⟩⟩⟩⟩⟩⟩)))))
theorem d_M_spelt_38 : decode y_M_spelt.2.1 38 = .ok (.iload_n 3, 1) := by decide +kernel
theorem s_M_spelt_38 : aw_VS y_M_spelt 38 [o_ild 3] 39 := .cons (v_iload_n (i := 3) d_M_spelt_38 rfl) .nil
theorem d_M_spelt_39 : decode y_M_spelt.2.1 39 = .ok (.ifCond .le (18), 3) := by decide +kernel
theorem d_M_spelt_42 : decode y_M_spelt.2.1 42 = .ok (.ldc2_w 206, 3) := by decide +kernel
theorem d_M_spelt_45 : decode y_M_spelt.2.1 45 = .ok (.lload 5, 2) := by decide +kernel
theorem d_M_spelt_47 : decode y_M_spelt.2.1 47 = .ok (.lmul, 1) := by decide +kernel
theorem d_M_spelt_48 : decode y_M_spelt.2.1 48 = .ok (.iload_n 3, 1) := by decide +kernel
theorem d_M_spelt_49 : decode y_M_spelt.2.1 49 = .ok (.i2l, 1) := by decide +kernel
theorem d_M_spelt_50 : decode y_M_spelt.2.1 50 = .ok (.ladd, 1) := by decide +kernel
theorem d_M_spelt_51 : decode y_M_spelt.2.1 51 = .ok (.ldc2_w 208, 3) := by decide +kernel
theorem d_M_spelt_54 : decode y_M_spelt.2.1 54 = .ok (.lsub, 1) := by decide +kernel
theorem d_M_spelt_55 : decode y_M_spelt.2.1 55 = .ok (.lstore 5, 2) := by decide +kernel
theorem s_M_spelt_42 : aw_VS y_M_spelt 42 [o_c (.long (27 : Int64)), o_lld 5, o_l2 (fun x z => x * z), o_ild 3, o_il (fun x => x.toInt64), o_l2 (fun x z => x + z), o_c (.long (96 : Int64)), o_l2 (fun x z => x - z), o_lst 5] 57 := .cons (v_ldc2 d_M_spelt_42 w_1777) (.cons (v_lload (i := 5) d_M_spelt_45) (.cons (v_lmul d_M_spelt_47) (.cons (v_iload_n (i := 3) d_M_spelt_48 rfl) (.cons (v_i2l d_M_spelt_49) (.cons (v_ladd d_M_spelt_50) (.cons (v_ldc2 d_M_spelt_51 w_1778) (.cons (v_lsub d_M_spelt_54) (.cons (v_lstore d_M_spelt_55) .nil))))))))
theorem b_M_spelt_38 {X : aw_X} {d : Nat} {Q : Option Value → aw_H → Prop} {I : Nat → Nat → Int32} {L : Nat → Nat → Int64} {D : Nat → Nat} {v3 : Int32} {v4 : Int32} {v5 : Int64}
    (h1 : v3 ≤ 0 → aw_z X d y_M_spelt Q 57 [none, none, none, none, some (.int v4), some (.long v5), none] [] (aw_s I L D))
    (h2 : ¬ v3 ≤ 0 → aw_z X d y_M_spelt Q 57 [none, none, none, none, some (.int v4), some (.long ((((27 : Int64) * v5) + v3.toInt64) - (96 : Int64))), none] [] (aw_s I L D)) :
    aw_z X d y_M_spelt Q 38 [none, none, none, some (.int v3), some (.int v4), some (.long v5), none] [] (aw_s I L D) :=
  (s_M_spelt_38.go [none, none, none, some (.int v3), some (.int v4), some (.long v5), none] [.int v3] (aw_s I L D) rfl (z_if_le (tgt := 57) d_M_spelt_39 rfl (fun q1 => (aw_Z.weak (ls' := [none, none, none, none, some (.int v4), some (.long v5), none]) (h1 q1) (Nat.le_of_ble_eq_true rfl) ⟨Or.inl rfl, ⟨Or.inl rfl, ⟨Or.inl rfl, ⟨Or.inl rfl, ⟨Or.inr rfl, ⟨Or.inr rfl, ⟨Or.inl rfl, trivial⟩⟩⟩⟩⟩⟩⟩)) (fun q2 => (s_M_spelt_42.go [none, none, none, some (.int v3), some (.int v4), some (.long ((((27 : Int64) * v5) + v3.toInt64) - (96 : Int64))), none] [] (aw_s I L D) rfl (aw_Z.weak (ls' := [none, none, none, none, some (.int v4), some (.long ((((27 : Int64) * v5) + v3.toInt64) - (96 : Int64))), none]) (h2 q2) (Nat.le_of_ble_eq_true rfl) ⟨Or.inl rfl, ⟨Or.inl rfl, ⟨Or.inl rfl, ⟨Or.inl rfl, ⟨Or.inr rfl, ⟨Or.inr rfl, ⟨Or.inl rfl, trivial⟩⟩⟩⟩⟩⟩⟩)))))
theorem d_M_spelt_57 : decode y_M_spelt.2.1 57 = .ok (.iload 4, 2) := by decide +kernel
theorem s_M_spelt_57 : aw_VS y_M_spelt 57 [o_ild 4] 59 := .cons (v_iload (i := 4) d_M_spelt_57) .nil
theorem d_M_spelt_59 : decode y_M_spelt.2.1 59 = .ok (.ifCond .le (20), 3) := by decide +kernel
theorem d_M_spelt_79 : decode y_M_spelt.2.1 79 = .ok (.lload 5, 2) := by decide +kernel
theorem s_M_spelt_79 : aw_VS y_M_spelt 79 [o_lld 5] 81 := .cons (v_lload (i := 5) d_M_spelt_79) .nil
theorem d_M_spelt_81 : decode y_M_spelt.2.1 81 = .ok (.lreturn, 1) := by decide +kernel
theorem d_M_spelt_62 : decode y_M_spelt.2.1 62 = .ok (.ldc2_w 206, 3) := by decide +kernel
theorem d_M_spelt_65 : decode y_M_spelt.2.1 65 = .ok (.lload 5, 2) := by decide +kernel
theorem d_M_spelt_67 : decode y_M_spelt.2.1 67 = .ok (.lmul, 1) := by decide +kernel
theorem d_M_spelt_68 : decode y_M_spelt.2.1 68 = .ok (.iload 4, 2) := by decide +kernel
theorem d_M_spelt_70 : decode y_M_spelt.2.1 70 = .ok (.i2l, 1) := by decide +kernel
theorem d_M_spelt_71 : decode y_M_spelt.2.1 71 = .ok (.ladd, 1) := by decide +kernel
theorem d_M_spelt_72 : decode y_M_spelt.2.1 72 = .ok (.ldc2_w 208, 3) := by decide +kernel
theorem d_M_spelt_75 : decode y_M_spelt.2.1 75 = .ok (.lsub, 1) := by decide +kernel
theorem s_M_spelt_62 : aw_VS y_M_spelt 62 [o_c (.long (27 : Int64)), o_lld 5, o_l2 (fun x z => x * z), o_ild 4, o_il (fun x => x.toInt64), o_l2 (fun x z => x + z), o_c (.long (96 : Int64)), o_l2 (fun x z => x - z)] 76 := .cons (v_ldc2 d_M_spelt_62 w_1777) (.cons (v_lload (i := 5) d_M_spelt_65) (.cons (v_lmul d_M_spelt_67) (.cons (v_iload (i := 4) d_M_spelt_68) (.cons (v_i2l d_M_spelt_70) (.cons (v_ladd d_M_spelt_71) (.cons (v_ldc2 d_M_spelt_72 w_1778) (.cons (v_lsub d_M_spelt_75) .nil)))))))
theorem d_M_spelt_76 : decode y_M_spelt.2.1 76 = .ok (.goto (5), 3) := by decide +kernel
theorem b_M_spelt_57 {X : aw_X} {d : Nat} {Q : Option Value → aw_H → Prop} {I : Nat → Nat → Int32} {L : Nat → Nat → Int64} {D : Nat → Nat} {v4 : Int32} {v5 : Int64}
    (h1 : v4 ≤ 0 → Q (some (.long v5)) (aw_s I L D))
    (h2 : ¬ v4 ≤ 0 → Q (some (.long ((((27 : Int64) * v5) + v4.toInt64) - (96 : Int64)))) (aw_s I L D)) :
    aw_z X d y_M_spelt Q 57 [none, none, none, none, some (.int v4), some (.long v5), none] [] (aw_s I L D) :=
  (s_M_spelt_57.go [none, none, none, none, some (.int v4), some (.long v5), none] [.int v4] (aw_s I L D) rfl (z_if_le (tgt := 79) d_M_spelt_59 rfl (fun q1 => (s_M_spelt_79.go [none, none, none, none, some (.int v4), some (.long v5), none] [.long v5] (aw_s I L D) rfl (z_lret d_M_spelt_81 rfl (h1 q1)))) (fun q2 => (s_M_spelt_62.go [none, none, none, none, some (.int v4), some (.long v5), none] [.long ((((27 : Int64) * v5) + v4.toInt64) - (96 : Int64))] (aw_s I L D) rfl (z_goto (tgt := 81) d_M_spelt_76 rfl (z_lret d_M_spelt_81 rfl (h2 q2)))))))
/-! M_isKey -/
theorem d_M_isKey_0 : decode y_M_isKey.2.1 0 = .ok (.aload_n 0, 1) := by decide +kernel
theorem d_M_isKey_1 : decode y_M_isKey.2.1 1 = .ok (.getfield 179, 3) := by decide +kernel
theorem d_M_isKey_4 : decode y_M_isKey.2.1 4 = .ok (.iconst 2, 1) := by decide +kernel
theorem s_M_isKey_0 : aw_VS y_M_isKey 0 [o_ald 0, o_getI 9 6, o_c (.int (2 : Int32))] 5 := .cons (v_aload_n (i := 0) d_M_isKey_0 rfl) (.cons (v_getI (k := 6) k_M (by decide) (Or.inl rfl) (Or.inl w_1467) d_M_isKey_1) (.cons (v_iconst (v := (2 : Int32)) d_M_isKey_4 (by decide +kernel)) .nil))
theorem d_M_isKey_5 : decode y_M_isKey.2.1 5 = .ok (.if_icmp .ne (16), 3) := by decide +kernel
theorem d_M_isKey_21 : decode y_M_isKey.2.1 21 = .ok (.iconst 0, 1) := by decide +kernel
theorem s_M_isKey_21 : aw_VS y_M_isKey 21 [o_c (.int (0 : Int32))] 22 := .cons (v_iconst (v := (0 : Int32)) d_M_isKey_21 (by decide +kernel)) .nil
theorem d_M_isKey_22 : decode y_M_isKey.2.1 22 = .ok (.ireturn, 1) := by decide +kernel
theorem d_M_isKey_8 : decode y_M_isKey.2.1 8 = .ok (.aload_n 0, 1) := by decide +kernel
theorem d_M_isKey_9 : decode y_M_isKey.2.1 9 = .ok (.getfield 195, 3) := by decide +kernel
theorem d_M_isKey_12 : decode y_M_isKey.2.1 12 = .ok (.lload_n 1, 1) := by decide +kernel
theorem d_M_isKey_13 : decode y_M_isKey.2.1 13 = .ok (.lcmp, 1) := by decide +kernel
theorem s_M_isKey_8 : aw_VS y_M_isKey 8 [o_ald 0, o_getJ 9 11, o_lld 1, o_lc] 14 := .cons (v_aload_n (i := 0) d_M_isKey_8 rfl) (.cons (v_getJ (k := 11) k_M (by decide) rfl (Or.inl w_1472) d_M_isKey_9) (.cons (v_lload_n (i := 1) d_M_isKey_12 rfl) (.cons (v_lcmp d_M_isKey_13) .nil)))
theorem d_M_isKey_14 : decode y_M_isKey.2.1 14 = .ok (.ifCond .ne (7), 3) := by decide +kernel
theorem d_M_isKey_17 : decode y_M_isKey.2.1 17 = .ok (.iconst 1, 1) := by decide +kernel
theorem s_M_isKey_17 : aw_VS y_M_isKey 17 [o_c (.int (1 : Int32))] 18 := .cons (v_iconst (v := (1 : Int32)) d_M_isKey_17 (by decide +kernel)) .nil
theorem d_M_isKey_18 : decode y_M_isKey.2.1 18 = .ok (.goto (4), 3) := by decide +kernel
theorem b_M_isKey_0 {X : aw_X} {d : Nat} {Q : Option Value → aw_H → Prop} {I : Nat → Nat → Int32} {L : Nat → Nat → Int64} {D : Nat → Nat} {v1 : Int64}
    (h1 : ¬ (I 69 6) = (2 : Int32) → Q (some (.int (0 : Int32))) (aw_s I L D))
    (h2 : (I 69 6) = (2 : Int32) → ¬ (lg_cmp (L 69 11) v1) = 0 → Q (some (.int (0 : Int32))) (aw_s I L D))
    (h3 : (I 69 6) = (2 : Int32) → (lg_cmp (L 69 11) v1) = 0 → Q (some (.int (1 : Int32))) (aw_s I L D)) :
    aw_z X d y_M_isKey Q 0 [some (.ref 69), some (.long v1), none] [] (aw_s I L D) :=
  (s_M_isKey_0.go [some (.ref 69), some (.long v1), none] [.int (2 : Int32), .int (I 69 6)] (aw_s I L D) rfl (z_icmp_ne (tgt := 21) d_M_isKey_5 rfl (fun q1 => (s_M_isKey_21.go [some (.ref 69), some (.long v1), none] [.int (0 : Int32)] (aw_s I L D) rfl (z_iret d_M_isKey_22 rfl (aw_nz (by decide +kernel)) (h1 q1)))) (fun q2 => (s_M_isKey_8.go [some (.ref 69), some (.long v1), none] [.int (lg_cmp (L 69 11) v1)] (aw_s I L D) rfl (z_if_ne (tgt := 21) d_M_isKey_14 rfl (fun q3 => (s_M_isKey_21.go [some (.ref 69), some (.long v1), none] [.int (0 : Int32)] (aw_s I L D) rfl (z_iret d_M_isKey_22 rfl (aw_nz (by decide +kernel)) (h2 q2 q3)))) (fun q4 => (s_M_isKey_17.go [some (.ref 69), some (.long v1), none] [.int (1 : Int32)] (aw_s I L D) rfl (z_goto (tgt := 22) d_M_isKey_18 rfl (z_iret d_M_isKey_22 rfl (aw_nz (by decide +kernel)) (h3 q2 q4))))))))))
/-! M_open -/
theorem d_M_open_0 : decode y_M_open.2.1 0 = .ok (.aload_n 0, 1) := by decide +kernel
theorem d_M_open_1 : decode y_M_open.2.1 1 = .ok (.bipush 123, 2) := by decide +kernel
theorem s_M_open_0 : aw_VS y_M_open 0 [o_ald 0, o_c (.int (123 : Int32))] 3 := .cons (v_aload_n (i := 0) d_M_open_0 rfl) (.cons (v_bipush (v := (123 : Int32)) d_M_open_1 (by decide +kernel)) .nil)
theorem d_M_open_3 : decode y_M_open.2.1 3 = .ok (.invokevirtual 216, 3) := by decide +kernel
theorem b_M_open_0 {X : aw_X} {d : Nat} {Q : Option Value → aw_H → Prop} {I : Nat → Nat → Int32} {L : Nat → Nat → Int64} {D : Nat → Nat} {v1 : Int32} {v2 : Int32} {v3 : Int32}
    (h1 : aw_m X d y_M_isSign [.ref 69, .int (123 : Int32)] (aw_s I L D) (fun r A => aw_z X (d + 1) y_M_open Q 6 [some (.ref 69), some (.int v1), some (.int v2), some (.int v3)] (r.toList ++ []) A)) :
    aw_z X (d + 1) y_M_open Q 0 [some (.ref 69), some (.int v1), some (.int v2), some (.int v3)] [] (aw_s I L D) :=
  (s_M_open_0.go [some (.ref 69), some (.int v1), some (.int v2), some (.int v3)] [.int (123 : Int32), .ref 69] (aw_s I L D) rfl (z_callV (av := [.int (123 : Int32)]) (st := []) ok_M_isSign (Or.inl w_1779) w_1781 w_77 k_M d_M_open_3 rfl (aw_lt (o := 69) rfl) rfl rfl (Nat.le_of_ble_eq_true rfl) (Nat.le_refl _) (Nat.le_refl _) (h1)))
theorem d_M_open_6 : decode y_M_open.2.1 6 = .ok (.ifCond .ne (9), 3) := by decide +kernel
theorem d_M_open_15 : decode y_M_open.2.1 15 = .ok (.aload_n 0, 1) := by decide +kernel
theorem d_M_open_16 : decode y_M_open.2.1 16 = .ok (.getfield 259, 3) := by decide +kernel
theorem d_M_open_19 : decode y_M_open.2.1 19 = .ok (.bipush 10, 2) := by decide +kernel
theorem s_M_open_15 : aw_VS y_M_open 15 [o_ald 0, o_getI 9 27, o_c (.int (10 : Int32))] 21 := .cons (v_aload_n (i := 0) d_M_open_15 rfl) (.cons (v_getI (k := 27) k_M (by decide) (Or.inl rfl) (Or.inl w_1488) d_M_open_16) (.cons (v_bipush (v := (10 : Int32)) d_M_open_19 (by decide +kernel)) .nil))
theorem d_M_open_21 : decode y_M_open.2.1 21 = .ok (.if_icmp .ne (9), 3) := by decide +kernel
theorem d_M_open_30 : decode y_M_open.2.1 30 = .ok (.aload_n 0, 1) := by decide +kernel
theorem d_M_open_31 : decode y_M_open.2.1 31 = .ok (.dup, 1) := by decide +kernel
theorem d_M_open_32 : decode y_M_open.2.1 32 = .ok (.getfield 259, 3) := by decide +kernel
theorem d_M_open_35 : decode y_M_open.2.1 35 = .ok (.iconst 1, 1) := by decide +kernel
theorem d_M_open_36 : decode y_M_open.2.1 36 = .ok (.iadd, 1) := by decide +kernel
theorem d_M_open_37 : decode y_M_open.2.1 37 = .ok (.putfield 259, 3) := by decide +kernel
theorem d_M_open_40 : decode y_M_open.2.1 40 = .ok (.aload_n 0, 1) := by decide +kernel
theorem d_M_open_41 : decode y_M_open.2.1 41 = .ok (.getfield 41, 3) := by decide +kernel
theorem d_M_open_44 : decode y_M_open.2.1 44 = .ok (.aload_n 0, 1) := by decide +kernel
theorem d_M_open_45 : decode y_M_open.2.1 45 = .ok (.getfield 285, 3) := by decide +kernel
theorem d_M_open_48 : decode y_M_open.2.1 48 = .ok (.iload_n 1, 1) := by decide +kernel
theorem s_M_open_30 : aw_VS y_M_open 30 [o_ald 0, o_dup, o_getI 9 27, o_c (.int (1 : Int32)), o_i2 (fun x z => x + z), o_putI 9 27, o_ald 0, o_getA 9 21, o_ald 0, o_getI 9 26, o_ild 1] 49 := .cons (v_aload_n (i := 0) d_M_open_30 rfl) (.cons (v_dup d_M_open_31) (.cons (v_getI (k := 27) k_M (by decide) (Or.inl rfl) (Or.inl w_1488) d_M_open_32) (.cons (v_iconst (v := (1 : Int32)) d_M_open_35 (by decide +kernel)) (.cons (v_iadd d_M_open_36) (.cons (v_putI (k := 27) k_M (by decide) rfl (Or.inl ⟨rfl, Or.inl w_1488⟩) d_M_open_37) (.cons (v_aload_n (i := 0) d_M_open_40 rfl) (.cons (v_getA (k := 21) k_M (by decide) rfl (Or.inl w_1482) d_M_open_41) (.cons (v_aload_n (i := 0) d_M_open_44 rfl) (.cons (v_getI (k := 26) k_M (by decide) (Or.inl rfl) (Or.inl w_1487) d_M_open_45) (.cons (v_iload_n (i := 1) d_M_open_48 rfl) .nil))))))))))
theorem d_M_open_49 : decode y_M_open.2.1 49 = .ok (.iastore, 1) := by decide +kernel
theorem d_M_open_50 : decode y_M_open.2.1 50 = .ok (.aload_n 0, 1) := by decide +kernel
theorem d_M_open_51 : decode y_M_open.2.1 51 = .ok (.getfield 44, 3) := by decide +kernel
theorem d_M_open_54 : decode y_M_open.2.1 54 = .ok (.aload_n 0, 1) := by decide +kernel
theorem d_M_open_55 : decode y_M_open.2.1 55 = .ok (.getfield 285, 3) := by decide +kernel
theorem d_M_open_58 : decode y_M_open.2.1 58 = .ok (.iload_n 2, 1) := by decide +kernel
theorem s_M_open_50 : aw_VS y_M_open 50 [o_ald 0, o_getA 9 22, o_ald 0, o_getI 9 26, o_ild 2] 59 := .cons (v_aload_n (i := 0) d_M_open_50 rfl) (.cons (v_getA (k := 22) k_M (by decide) rfl (Or.inl w_1483) d_M_open_51) (.cons (v_aload_n (i := 0) d_M_open_54 rfl) (.cons (v_getI (k := 26) k_M (by decide) (Or.inl rfl) (Or.inl w_1487) d_M_open_55) (.cons (v_iload_n (i := 2) d_M_open_58 rfl) .nil))))
theorem d_M_open_59 : decode y_M_open.2.1 59 = .ok (.iastore, 1) := by decide +kernel
theorem d_M_open_60 : decode y_M_open.2.1 60 = .ok (.aload_n 0, 1) := by decide +kernel
theorem d_M_open_61 : decode y_M_open.2.1 61 = .ok (.getfield 47, 3) := by decide +kernel
theorem d_M_open_64 : decode y_M_open.2.1 64 = .ok (.aload_n 0, 1) := by decide +kernel
theorem d_M_open_65 : decode y_M_open.2.1 65 = .ok (.getfield 285, 3) := by decide +kernel
theorem d_M_open_68 : decode y_M_open.2.1 68 = .ok (.iload_n 3, 1) := by decide +kernel
theorem s_M_open_60 : aw_VS y_M_open 60 [o_ald 0, o_getA 9 23, o_ald 0, o_getI 9 26, o_ild 3] 69 := .cons (v_aload_n (i := 0) d_M_open_60 rfl) (.cons (v_getA (k := 23) k_M (by decide) rfl (Or.inl w_1484) d_M_open_61) (.cons (v_aload_n (i := 0) d_M_open_64 rfl) (.cons (v_getI (k := 26) k_M (by decide) (Or.inl rfl) (Or.inl w_1487) d_M_open_65) (.cons (v_iload_n (i := 3) d_M_open_68 rfl) .nil))))
theorem d_M_open_69 : decode y_M_open.2.1 69 = .ok (.iastore, 1) := by decide +kernel
theorem d_M_open_70 : decode y_M_open.2.1 70 = .ok (.aload_n 0, 1) := by decide +kernel
theorem d_M_open_71 : decode y_M_open.2.1 71 = .ok (.dup, 1) := by decide +kernel
theorem d_M_open_72 : decode y_M_open.2.1 72 = .ok (.getfield 285, 3) := by decide +kernel
theorem d_M_open_75 : decode y_M_open.2.1 75 = .ok (.iconst 1, 1) := by decide +kernel
theorem d_M_open_76 : decode y_M_open.2.1 76 = .ok (.iadd, 1) := by decide +kernel
theorem d_M_open_77 : decode y_M_open.2.1 77 = .ok (.putfield 285, 3) := by decide +kernel
theorem d_M_open_80 : decode y_M_open.2.1 80 = .ok (.aload_n 0, 1) := by decide +kernel
theorem s_M_open_70 : aw_VS y_M_open 70 [o_ald 0, o_dup, o_getI 9 26, o_c (.int (1 : Int32)), o_i2 (fun x z => x + z), o_putI 9 26, o_ald 0] 81 := .cons (v_aload_n (i := 0) d_M_open_70 rfl) (.cons (v_dup d_M_open_71) (.cons (v_getI (k := 26) k_M (by decide) (Or.inl rfl) (Or.inl w_1487) d_M_open_72) (.cons (v_iconst (v := (1 : Int32)) d_M_open_75 (by decide +kernel)) (.cons (v_iadd d_M_open_76) (.cons (v_putI (k := 26) k_M (by decide) rfl (Or.inl ⟨rfl, Or.inl w_1487⟩) d_M_open_77) (.cons (v_aload_n (i := 0) d_M_open_80 rfl) .nil))))))
theorem d_M_open_81 : decode y_M_open.2.1 81 = .ok (.invokevirtual 222, 3) := by decide +kernel
theorem d_M_open_24 : decode y_M_open.2.1 24 = .ok (.aload_n 0, 1) := by decide +kernel
theorem d_M_open_25 : decode y_M_open.2.1 25 = .ok (.iconst 3, 1) := by decide +kernel
theorem s_M_open_24 : aw_VS y_M_open 24 [o_ald 0, o_c (.int (3 : Int32))] 26 := .cons (v_aload_n (i := 0) d_M_open_24 rfl) (.cons (v_iconst (v := (3 : Int32)) d_M_open_25 (by decide +kernel)) .nil)
theorem d_M_open_26 : decode y_M_open.2.1 26 = .ok (.invokevirtual 219, 3) := by decide +kernel
theorem d_M_open_9 : decode y_M_open.2.1 9 = .ok (.aload_n 0, 1) := by decide +kernel
theorem d_M_open_10 : decode y_M_open.2.1 10 = .ok (.iconst 1, 1) := by decide +kernel
theorem s_M_open_9 : aw_VS y_M_open 9 [o_ald 0, o_c (.int (1 : Int32))] 11 := .cons (v_aload_n (i := 0) d_M_open_9 rfl) (.cons (v_iconst (v := (1 : Int32)) d_M_open_10 (by decide +kernel)) .nil)
theorem d_M_open_11 : decode y_M_open.2.1 11 = .ok (.invokevirtual 219, 3) := by decide +kernel
theorem b_M_open_6 {X : aw_X} {d : Nat} {Q : Option Value → aw_H → Prop} {I : Nat → Nat → Int32} {L : Nat → Nat → Int64} {D : Nat → Nat} {v1 : Int32} {v2 : Int32} {v3 : Int32} {s0 : Int32}
    (h1 : ¬ s0 = 0 → ¬ (I 69 27) = (10 : Int32) → vp_in (I 69 26) 16)
    (h2 : ¬ s0 = 0 → ¬ (I 69 27) = (10 : Int32) → vp_in (I 69 26) 16)
    (h3 : ¬ s0 = 0 → ¬ (I 69 27) = (10 : Int32) → vp_in (I 69 26) 16)
    (h4 : ¬ s0 = 0 → ¬ (I 69 27) = (10 : Int32) → aw_m X d y_M_go [.ref 69] (aw_s (aw_u (aw_u (aw_u (aw_u (aw_u I 69 27 ((I 69 27) + (1 : Int32))) 80 ((I 69 26).toNatClampNeg) v1) 81 ((I 69 26).toNatClampNeg) v2) 82 ((I 69 26).toNatClampNeg) v3) 69 26 ((I 69 26) + (1 : Int32))) L D) (fun r A => aw_z X (d + 1) y_M_open Q 84 [none, none, none, none] (r.toList ++ []) A))
    (h5 : ¬ s0 = 0 → (I 69 27) = (10 : Int32) → aw_m X d y_M_bad [.ref 69, .int (3 : Int32)] (aw_s I L D) (fun r A => aw_z X (d + 1) y_M_open Q 29 [none, none, none, none] (r.toList ++ []) A))
    (h6 : s0 = 0 → aw_m X d y_M_bad [.ref 69, .int (1 : Int32)] (aw_s I L D) (fun r A => aw_z X (d + 1) y_M_open Q 14 [none, none, none, none] (r.toList ++ []) A)) :
    aw_z X (d + 1) y_M_open Q 6 [some (.ref 69), some (.int v1), some (.int v2), some (.int v3)] [.int s0] (aw_s I L D) :=
  (z_if_ne (tgt := 15) d_M_open_6 rfl (fun q1 => (s_M_open_15.go [some (.ref 69), some (.int v1), some (.int v2), some (.int v3)] [.int (10 : Int32), .int (I 69 27)] (aw_s I L D) rfl (z_icmp_ne (tgt := 30) d_M_open_21 rfl (fun q3 => (s_M_open_30.go [some (.ref 69), some (.int v1), some (.int v2), some (.int v3)] [.int v1, .int (I 69 26), .ref 80] (aw_s (aw_u I 69 27 ((I 69 27) + (1 : Int32))) L D) rfl (z_iast (n := 16) rfl (aw_lt (o := 80) rfl) (h1 q1 q3) d_M_open_49 (s_M_open_50.go [some (.ref 69), some (.int v1), some (.int v2), some (.int v3)] [.int v2, .int (I 69 26), .ref 81] (aw_s (aw_u (aw_u I 69 27 ((I 69 27) + (1 : Int32))) 80 ((I 69 26).toNatClampNeg) v1) L D) rfl (z_iast (n := 16) rfl (aw_lt (o := 81) rfl) (h2 q1 q3) d_M_open_59 (s_M_open_60.go [some (.ref 69), some (.int v1), some (.int v2), some (.int v3)] [.int v3, .int (I 69 26), .ref 82] (aw_s (aw_u (aw_u (aw_u I 69 27 ((I 69 27) + (1 : Int32))) 80 ((I 69 26).toNatClampNeg) v1) 81 ((I 69 26).toNatClampNeg) v2) L D) rfl (z_iast (n := 16) rfl (aw_lt (o := 82) rfl) (h3 q1 q3) d_M_open_69 (s_M_open_70.go [some (.ref 69), some (.int v1), some (.int v2), some (.int v3)] [.ref 69] (aw_s (aw_u (aw_u (aw_u (aw_u (aw_u I 69 27 ((I 69 27) + (1 : Int32))) 80 ((I 69 26).toNatClampNeg) v1) 81 ((I 69 26).toNatClampNeg) v2) 82 ((I 69 26).toNatClampNeg) v3) 69 26 ((I 69 26) + (1 : Int32))) L D) rfl (z_callV (av := []) (st := []) ok_M_go (Or.inl w_1760) w_1762 w_75 k_M d_M_open_81 rfl (aw_lt (o := 69) rfl) rfl rfl (Nat.le_of_ble_eq_true rfl) (Nat.le_refl _) (Nat.le_refl _) (aw_C.mono (h4 q1 q3) (fun _ _ zz => aw_Z.weak (ls' := [none, none, none, none]) zz (Nat.le_of_ble_eq_true rfl) ⟨Or.inl rfl, ⟨Or.inl rfl, ⟨Or.inl rfl, ⟨Or.inl rfl, trivial⟩⟩⟩⟩))))))))))) (fun q4 => (s_M_open_24.go [some (.ref 69), some (.int v1), some (.int v2), some (.int v3)] [.int (3 : Int32), .ref 69] (aw_s I L D) rfl (z_callV (av := [.int (3 : Int32)]) (st := []) ok_M_bad (Or.inl w_1806) w_1808 w_83 k_M d_M_open_26 rfl (aw_lt (o := 69) rfl) rfl rfl (Nat.le_of_ble_eq_true rfl) (Nat.le_refl _) (Nat.le_refl _) (aw_C.mono (h5 q1 q4) (fun _ _ zz => aw_Z.weak (ls' := [none, none, none, none]) zz (Nat.le_of_ble_eq_true rfl) ⟨Or.inl rfl, ⟨Or.inl rfl, ⟨Or.inl rfl, ⟨Or.inl rfl, trivial⟩⟩⟩⟩)))))))) (fun q2 => (s_M_open_9.go [some (.ref 69), some (.int v1), some (.int v2), some (.int v3)] [.int (1 : Int32), .ref 69] (aw_s I L D) rfl (z_callV (av := [.int (1 : Int32)]) (st := []) ok_M_bad (Or.inl w_1806) w_1808 w_83 k_M d_M_open_11 rfl (aw_lt (o := 69) rfl) rfl rfl (Nat.le_of_ble_eq_true rfl) (Nat.le_refl _) (Nat.le_refl _) (aw_C.mono (h6 q2) (fun _ _ zz => aw_Z.weak (ls' := [none, none, none, none]) zz (Nat.le_of_ble_eq_true rfl) ⟨Or.inl rfl, ⟨Or.inl rfl, ⟨Or.inl rfl, ⟨Or.inl rfl, trivial⟩⟩⟩⟩))))))
theorem d_M_open_84 : decode y_M_open.2.1 84 = .ok (.iconst 1, 1) := by decide +kernel
theorem s_M_open_84 : aw_VS y_M_open 84 [o_c (.int (1 : Int32))] 85 := .cons (v_iconst (v := (1 : Int32)) d_M_open_84 (by decide +kernel)) .nil
theorem d_M_open_85 : decode y_M_open.2.1 85 = .ok (.ireturn, 1) := by decide +kernel
theorem b_M_open_84 {X : aw_X} {d : Nat} {Q : Option Value → aw_H → Prop} {I : Nat → Nat → Int32} {L : Nat → Nat → Int64} {D : Nat → Nat} 
    (h1 : Q (some (.int (1 : Int32))) (aw_s I L D)) :
    aw_z X (d + 1) y_M_open Q 84 [none, none, none, none] [] (aw_s I L D) :=
  (s_M_open_84.go [none, none, none, none] [.int (1 : Int32)] (aw_s I L D) rfl (z_iret d_M_open_85 rfl (aw_nz (by decide +kernel)) (h1)))
theorem d_M_open_29 : decode y_M_open.2.1 29 = .ok (.ireturn, 1) := by decide +kernel
theorem b_M_open_29 {X : aw_X} {d : Nat} {Q : Option Value → aw_H → Prop} {I : Nat → Nat → Int32} {L : Nat → Nat → Int64} {D : Nat → Nat} {s0 : Int32}
    (h1 : (s0 = 0 ∨ s0 = 1))
    (h2 : Q (some (.int s0)) (aw_s I L D)) :
    aw_z X (d + 1) y_M_open Q 29 [none, none, none, none] [.int s0] (aw_s I L D) :=
  (z_iret d_M_open_29 rfl (aw_nz (h1)) (h2))
theorem d_M_open_14 : decode y_M_open.2.1 14 = .ok (.ireturn, 1) := by decide +kernel
theorem b_M_open_14 {X : aw_X} {d : Nat} {Q : Option Value → aw_H → Prop} {I : Nat → Nat → Int32} {L : Nat → Nat → Int64} {D : Nat → Nat} {s0 : Int32}
    (h1 : (s0 = 0 ∨ s0 = 1))
    (h2 : Q (some (.int s0)) (aw_s I L D)) :
    aw_z X (d + 1) y_M_open Q 14 [none, none, none, none] [.int s0] (aw_s I L D) :=
  (z_iret d_M_open_14 rfl (aw_nz (h1)) (h2))
/-! M_bad -/
theorem d_M_bad_0 : decode y_M_bad.2.1 0 = .ok (.aload_n 0, 1) := by decide +kernel
theorem d_M_bad_1 : decode y_M_bad.2.1 1 = .ok (.aload_n 0, 1) := by decide +kernel
theorem d_M_bad_2 : decode y_M_bad.2.1 2 = .ok (.getfield 179, 3) := by decide +kernel
theorem d_M_bad_5 : decode y_M_bad.2.1 5 = .ok (.iconst 1, 1) := by decide +kernel
theorem s_M_bad_0 : aw_VS y_M_bad 0 [o_ald 0, o_ald 0, o_getI 9 6, o_c (.int (1 : Int32))] 6 := .cons (v_aload_n (i := 0) d_M_bad_0 rfl) (.cons (v_aload_n (i := 0) d_M_bad_1 rfl) (.cons (v_getI (k := 6) k_M (by decide) (Or.inl rfl) (Or.inl w_1467) d_M_bad_2) (.cons (v_iconst (v := (1 : Int32)) d_M_bad_5 (by decide +kernel)) .nil)))
theorem d_M_bad_6 : decode y_M_bad.2.1 6 = .ok (.if_icmp .ne (7), 3) := by decide +kernel
theorem d_M_bad_13 : decode y_M_bad.2.1 13 = .ok (.iload_n 1, 1) := by decide +kernel
theorem s_M_bad_13 : aw_VS y_M_bad 13 [o_ild 1] 14 := .cons (v_iload_n (i := 1) d_M_bad_13 rfl) .nil
theorem d_M_bad_14 : decode y_M_bad.2.1 14 = .ok (.putfield 210, 3) := by decide +kernel
theorem d_M_bad_17 : decode y_M_bad.2.1 17 = .ok (.aload_n 0, 1) := by decide +kernel
theorem d_M_bad_18 : decode y_M_bad.2.1 18 = .ok (.aload_n 0, 1) := by decide +kernel
theorem d_M_bad_19 : decode y_M_bad.2.1 19 = .ok (.getfield 176, 3) := by decide +kernel
theorem d_M_bad_22 : decode y_M_bad.2.1 22 = .ok (.putfield 213, 3) := by decide +kernel
theorem d_M_bad_25 : decode y_M_bad.2.1 25 = .ok (.iconst 0, 1) := by decide +kernel
theorem s_M_bad_14 : aw_VS y_M_bad 14 [o_putI 9 9, o_ald 0, o_ald 0, o_getI 9 5, o_putI 9 10, o_c (.int (0 : Int32))] 26 := .cons (v_putI (k := 9) k_M (by decide) rfl (Or.inl ⟨rfl, Or.inl w_1470⟩) d_M_bad_14) (.cons (v_aload_n (i := 0) d_M_bad_17 rfl) (.cons (v_aload_n (i := 0) d_M_bad_18 rfl) (.cons (v_getI (k := 5) k_M (by decide) (Or.inl rfl) (Or.inl w_1466) d_M_bad_19) (.cons (v_putI (k := 10) k_M (by decide) rfl (Or.inl ⟨rfl, Or.inl w_1471⟩) d_M_bad_22) (.cons (v_iconst (v := (0 : Int32)) d_M_bad_25 (by decide +kernel)) .nil)))))
theorem d_M_bad_26 : decode y_M_bad.2.1 26 = .ok (.ireturn, 1) := by decide +kernel
theorem d_M_bad_9 : decode y_M_bad.2.1 9 = .ok (.iconst 1, 1) := by decide +kernel
theorem s_M_bad_9 : aw_VS y_M_bad 9 [o_c (.int (1 : Int32))] 10 := .cons (v_iconst (v := (1 : Int32)) d_M_bad_9 (by decide +kernel)) .nil
theorem d_M_bad_10 : decode y_M_bad.2.1 10 = .ok (.goto (4), 3) := by decide +kernel
theorem b_M_bad_0 {X : aw_X} {d : Nat} {Q : Option Value → aw_H → Prop} {I : Nat → Nat → Int32} {L : Nat → Nat → Int64} {D : Nat → Nat} {v1 : Int32}
    (h1 : ¬ (I 69 6) = (1 : Int32) → Q (some (.int (0 : Int32))) (aw_s (aw_u (aw_u I 69 9 v1) 69 10 (I 69 5)) L D))
    (h2 : (I 69 6) = (1 : Int32) → Q (some (.int (0 : Int32))) (aw_s (aw_u (aw_u I 69 9 (1 : Int32)) 69 10 (I 69 5)) L D)) :
    aw_z X d y_M_bad Q 0 [some (.ref 69), some (.int v1)] [] (aw_s I L D) :=
  (s_M_bad_0.go [some (.ref 69), some (.int v1)] [.int (1 : Int32), .int (I 69 6), .ref 69] (aw_s I L D) rfl (z_icmp_ne (tgt := 13) d_M_bad_6 rfl (fun q1 => (s_M_bad_13.go [some (.ref 69), some (.int v1)] [.int v1, .ref 69] (aw_s I L D) rfl (s_M_bad_14.go [some (.ref 69), some (.int v1)] [.int (0 : Int32)] (aw_s (aw_u (aw_u I 69 9 v1) 69 10 (I 69 5)) L D) rfl (z_iret d_M_bad_26 rfl (aw_nz (by decide +kernel)) (h1 q1))))) (fun q2 => (s_M_bad_9.go [some (.ref 69), some (.int v1)] [.int (1 : Int32), .ref 69] (aw_s I L D) rfl (z_goto (tgt := 14) d_M_bad_10 rfl (s_M_bad_14.go [some (.ref 69), some (.int v1)] [.int (0 : Int32)] (aw_s (aw_u (aw_u I 69 9 (1 : Int32)) 69 10 (I 69 5)) L D) rfl (z_iret d_M_bad_26 rfl (aw_nz (by decide +kernel)) (h2 q2))))))))
/-! M_readProc -/
theorem d_M_readProc_0 : decode y_M_readProc.2.1 0 = .ok (.aload_n 0, 1) := by decide +kernel
theorem s_M_readProc_0 : aw_VS y_M_readProc 0 [o_ald 0] 1 := .cons (v_aload_n (i := 0) d_M_readProc_0 rfl) .nil
theorem d_M_readProc_1 : decode y_M_readProc.2.1 1 = .ok (.invokevirtual 222, 3) := by decide +kernel
theorem b_M_readProc_0 {X : aw_X} {d : Nat} {Q : Option Value → aw_H → Prop} {I : Nat → Nat → Int32} {L : Nat → Nat → Int64} {D : Nat → Nat} 
    (h1 : aw_m X d y_M_go [.ref 69] (aw_s I L D) (fun r A => aw_z X (d + 1) y_M_readProc Q 4 [some (.ref 69)] (r.toList ++ []) A)) :
    aw_z X (d + 1) y_M_readProc Q 0 [some (.ref 69)] [] (aw_s I L D) :=
  (s_M_readProc_0.go [some (.ref 69)] [.ref 69] (aw_s I L D) rfl (z_callV (av := []) (st := []) ok_M_go (Or.inl w_1760) w_1762 w_75 k_M d_M_readProc_1 rfl (aw_lt (o := 69) rfl) rfl rfl (Nat.le_of_ble_eq_true rfl) (Nat.le_refl _) (Nat.le_refl _) (h1)))
theorem d_M_readProc_4 : decode y_M_readProc.2.1 4 = .ok (.aload_n 0, 1) := by decide +kernel
theorem s_M_readProc_4 : aw_VS y_M_readProc 4 [o_ald 0] 5 := .cons (v_aload_n (i := 0) d_M_readProc_4 rfl) .nil
theorem d_M_readProc_5 : decode y_M_readProc.2.1 5 = .ok (.invokevirtual 301, 3) := by decide +kernel
theorem b_M_readProc_4 {X : aw_X} {d : Nat} {Q : Option Value → aw_H → Prop} {I : Nat → Nat → Int32} {L : Nat → Nat → Int64} {D : Nat → Nat} 
    (h1 : aw_m X d y_M_isProc [.ref 69] (aw_s I L D) (fun r A => aw_z X (d + 1) y_M_readProc Q 8 [some (.ref 69)] (r.toList ++ []) A)) :
    aw_z X (d + 1) y_M_readProc Q 4 [some (.ref 69)] [] (aw_s I L D) :=
  (s_M_readProc_4.go [some (.ref 69)] [.ref 69] (aw_s I L D) rfl (z_callV (av := []) (st := []) ok_M_isProc (Or.inl w_1814) w_1816 w_85 k_M d_M_readProc_5 rfl (aw_lt (o := 69) rfl) rfl rfl (Nat.le_of_ble_eq_true rfl) (Nat.le_refl _) (Nat.le_refl _) (h1)))
theorem d_M_readProc_8 : decode y_M_readProc.2.1 8 = .ok (.ifCond .ne (9), 3) := by decide +kernel
theorem d_M_readProc_17 : decode y_M_readProc.2.1 17 = .ok (.aload_n 0, 1) := by decide +kernel
theorem d_M_readProc_18 : decode y_M_readProc.2.1 18 = .ok (.aload_n 0, 1) := by decide +kernel
theorem d_M_readProc_19 : decode y_M_readProc.2.1 19 = .ok (.getfield 195, 3) := by decide +kernel
theorem d_M_readProc_22 : decode y_M_readProc.2.1 22 = .ok (.l2i, 1) := by decide +kernel
theorem d_M_readProc_23 : decode y_M_readProc.2.1 23 = .ok (.bipush 16, 2) := by decide +kernel
theorem d_M_readProc_25 : decode y_M_readProc.2.1 25 = .ok (.isub, 1) := by decide +kernel
theorem d_M_readProc_26 : decode y_M_readProc.2.1 26 = .ok (.putfield 288, 3) := by decide +kernel
theorem d_M_readProc_29 : decode y_M_readProc.2.1 29 = .ok (.aload_n 0, 1) := by decide +kernel
theorem d_M_readProc_30 : decode y_M_readProc.2.1 30 = .ok (.getfield 50, 3) := by decide +kernel
theorem d_M_readProc_33 : decode y_M_readProc.2.1 33 = .ok (.aload_n 0, 1) := by decide +kernel
theorem d_M_readProc_34 : decode y_M_readProc.2.1 34 = .ok (.getfield 288, 3) := by decide +kernel
theorem s_M_readProc_17 : aw_VS y_M_readProc 17 [o_ald 0, o_ald 0, o_getJ 9 11, o_li (fun x => x.toInt32), o_c (.int (16 : Int32)), o_i2 (fun x z => x - z), o_putI 9 31, o_ald 0, o_getA 9 24, o_ald 0, o_getI 9 31] 37 := .cons (v_aload_n (i := 0) d_M_readProc_17 rfl) (.cons (v_aload_n (i := 0) d_M_readProc_18 rfl) (.cons (v_getJ (k := 11) k_M (by decide) rfl (Or.inl w_1472) d_M_readProc_19) (.cons (v_l2i d_M_readProc_22) (.cons (v_bipush (v := (16 : Int32)) d_M_readProc_23 (by decide +kernel)) (.cons (v_isub d_M_readProc_25) (.cons (v_putI (k := 31) k_M (by decide) rfl (Or.inl ⟨rfl, Or.inl w_1492⟩) d_M_readProc_26) (.cons (v_aload_n (i := 0) d_M_readProc_29 rfl) (.cons (v_getA (k := 24) k_M (by decide) rfl (Or.inl w_1485) d_M_readProc_30) (.cons (v_aload_n (i := 0) d_M_readProc_33 rfl) (.cons (v_getI (k := 31) k_M (by decide) (Or.inl rfl) (Or.inl w_1492) d_M_readProc_34) .nil))))))))))
theorem d_M_readProc_37 : decode y_M_readProc.2.1 37 = .ok (.iaload, 1) := by decide +kernel
theorem d_M_readProc_38 : decode y_M_readProc.2.1 38 = .ok (.iconst (-1), 1) := by decide +kernel
theorem s_M_readProc_38 : aw_VS y_M_readProc 38 [o_c (.int (-1 : Int32))] 39 := .cons (v_iconst (v := (-1 : Int32)) d_M_readProc_38 (by decide +kernel)) .nil
theorem d_M_readProc_39 : decode y_M_readProc.2.1 39 = .ok (.if_icmp .eq (9), 3) := by decide +kernel
theorem d_M_readProc_48 : decode y_M_readProc.2.1 48 = .ok (.aload_n 0, 1) := by decide +kernel
theorem s_M_readProc_48 : aw_VS y_M_readProc 48 [o_ald 0] 49 := .cons (v_aload_n (i := 0) d_M_readProc_48 rfl) .nil
theorem d_M_readProc_49 : decode y_M_readProc.2.1 49 = .ok (.invokevirtual 222, 3) := by decide +kernel
theorem d_M_readProc_42 : decode y_M_readProc.2.1 42 = .ok (.aload_n 0, 1) := by decide +kernel
theorem d_M_readProc_43 : decode y_M_readProc.2.1 43 = .ok (.iconst 4, 1) := by decide +kernel
theorem s_M_readProc_42 : aw_VS y_M_readProc 42 [o_ald 0, o_c (.int (4 : Int32))] 44 := .cons (v_aload_n (i := 0) d_M_readProc_42 rfl) (.cons (v_iconst (v := (4 : Int32)) d_M_readProc_43 (by decide +kernel)) .nil)
theorem d_M_readProc_44 : decode y_M_readProc.2.1 44 = .ok (.invokevirtual 219, 3) := by decide +kernel
theorem d_M_readProc_11 : decode y_M_readProc.2.1 11 = .ok (.aload_n 0, 1) := by decide +kernel
theorem d_M_readProc_12 : decode y_M_readProc.2.1 12 = .ok (.iconst 1, 1) := by decide +kernel
theorem s_M_readProc_11 : aw_VS y_M_readProc 11 [o_ald 0, o_c (.int (1 : Int32))] 13 := .cons (v_aload_n (i := 0) d_M_readProc_11 rfl) (.cons (v_iconst (v := (1 : Int32)) d_M_readProc_12 (by decide +kernel)) .nil)
theorem d_M_readProc_13 : decode y_M_readProc.2.1 13 = .ok (.invokevirtual 219, 3) := by decide +kernel
theorem b_M_readProc_8 {X : aw_X} {d : Nat} {Q : Option Value → aw_H → Prop} {I : Nat → Nat → Int32} {L : Nat → Nat → Int64} {D : Nat → Nat} {s0 : Int32}
    (h1 : ¬ s0 = 0 → vp_in (((L 69 11).toInt32) - (16 : Int32)) 4)
    (h2 : ¬ s0 = 0 → (I 83 ((((L 69 11).toInt32) - (16 : Int32)).toNatClampNeg)) = (-1 : Int32) → aw_m X d y_M_go [.ref 69] (aw_s (aw_u I 69 31 (((L 69 11).toInt32) - (16 : Int32))) L D) (fun r A => aw_z X (d + 1) y_M_readProc Q 52 [some (.ref 69)] (r.toList ++ []) A))
    (h3 : ¬ s0 = 0 → ¬ (I 83 ((((L 69 11).toInt32) - (16 : Int32)).toNatClampNeg)) = (-1 : Int32) → aw_m X d y_M_bad [.ref 69, .int (4 : Int32)] (aw_s (aw_u I 69 31 (((L 69 11).toInt32) - (16 : Int32))) L D) (fun r A => aw_z X (d + 1) y_M_readProc Q 47 [none] (r.toList ++ []) A))
    (h4 : s0 = 0 → aw_m X d y_M_bad [.ref 69, .int (1 : Int32)] (aw_s I L D) (fun r A => aw_z X (d + 1) y_M_readProc Q 16 [none] (r.toList ++ []) A)) :
    aw_z X (d + 1) y_M_readProc Q 8 [some (.ref 69)] [.int s0] (aw_s I L D) :=
  (z_if_ne (tgt := 17) d_M_readProc_8 rfl (fun q1 => (s_M_readProc_17.go [some (.ref 69)] [.int (((L 69 11).toInt32) - (16 : Int32)), .ref 83] (aw_s (aw_u I 69 31 (((L 69 11).toInt32) - (16 : Int32))) L D) rfl (z_iald (n := 4) rfl (aw_lt (o := 83) rfl) (h1 q1) d_M_readProc_37 (s_M_readProc_38.go [some (.ref 69)] [.int (-1 : Int32), .int (I 83 ((((L 69 11).toInt32) - (16 : Int32)).toNatClampNeg))] (aw_s (aw_u I 69 31 (((L 69 11).toInt32) - (16 : Int32))) L D) rfl (z_icmp_eq (tgt := 48) d_M_readProc_39 rfl (fun q3 => (s_M_readProc_48.go [some (.ref 69)] [.ref 69] (aw_s (aw_u I 69 31 (((L 69 11).toInt32) - (16 : Int32))) L D) rfl (z_callV (av := []) (st := []) ok_M_go (Or.inl w_1760) w_1762 w_75 k_M d_M_readProc_49 rfl (aw_lt (o := 69) rfl) rfl rfl (Nat.le_of_ble_eq_true rfl) (Nat.le_refl _) (Nat.le_refl _) (h2 q1 q3)))) (fun q4 => (s_M_readProc_42.go [some (.ref 69)] [.int (4 : Int32), .ref 69] (aw_s (aw_u I 69 31 (((L 69 11).toInt32) - (16 : Int32))) L D) rfl (z_callV (av := [.int (4 : Int32)]) (st := []) ok_M_bad (Or.inl w_1806) w_1808 w_83 k_M d_M_readProc_44 rfl (aw_lt (o := 69) rfl) rfl rfl (Nat.le_of_ble_eq_true rfl) (Nat.le_refl _) (Nat.le_refl _) (aw_C.mono (h3 q1 q4) (fun _ _ zz => aw_Z.weak (ls' := [none]) zz (Nat.le_of_ble_eq_true rfl) ⟨Or.inl rfl, trivial⟩)))))))))) (fun q2 => (s_M_readProc_11.go [some (.ref 69)] [.int (1 : Int32), .ref 69] (aw_s I L D) rfl (z_callV (av := [.int (1 : Int32)]) (st := []) ok_M_bad (Or.inl w_1806) w_1808 w_83 k_M d_M_readProc_13 rfl (aw_lt (o := 69) rfl) rfl rfl (Nat.le_of_ble_eq_true rfl) (Nat.le_refl _) (Nat.le_refl _) (aw_C.mono (h4 q2) (fun _ _ zz => aw_Z.weak (ls' := [none]) zz (Nat.le_of_ble_eq_true rfl) ⟨Or.inl rfl, trivial⟩))))))
theorem d_M_readProc_52 : decode y_M_readProc.2.1 52 = .ok (.aload_n 0, 1) := by decide +kernel
theorem d_M_readProc_53 : decode y_M_readProc.2.1 53 = .ok (.iconst 0, 1) := by decide +kernel
theorem d_M_readProc_54 : decode y_M_readProc.2.1 54 = .ok (.iconst 0, 1) := by decide +kernel
theorem d_M_readProc_55 : decode y_M_readProc.2.1 55 = .ok (.aload_n 0, 1) := by decide +kernel
theorem d_M_readProc_56 : decode y_M_readProc.2.1 56 = .ok (.getfield 228, 3) := by decide +kernel
theorem s_M_readProc_52 : aw_VS y_M_readProc 52 [o_ald 0, o_c (.int (0 : Int32)), o_c (.int (0 : Int32)), o_ald 0, o_getI 9 30] 59 := .cons (v_aload_n (i := 0) d_M_readProc_52 rfl) (.cons (v_iconst (v := (0 : Int32)) d_M_readProc_53 (by decide +kernel)) (.cons (v_iconst (v := (0 : Int32)) d_M_readProc_54 (by decide +kernel)) (.cons (v_aload_n (i := 0) d_M_readProc_55 rfl) (.cons (v_getI (k := 30) k_M (by decide) (Or.inl rfl) (Or.inl w_1491) d_M_readProc_56) .nil))))
theorem d_M_readProc_59 : decode y_M_readProc.2.1 59 = .ok (.invokevirtual 294, 3) := by decide +kernel
theorem b_M_readProc_52 {X : aw_X} {d : Nat} {Q : Option Value → aw_H → Prop} {I : Nat → Nat → Int32} {L : Nat → Nat → Int64} {D : Nat → Nat} 
    (h1 : aw_m X d y_M_open [.ref 69, .int (0 : Int32), .int (0 : Int32), .int (I 69 30)] (aw_s I L D) (fun r A => aw_z X (d + 1) y_M_readProc Q 62 [none] (r.toList ++ []) A)) :
    aw_z X (d + 1) y_M_readProc Q 52 [some (.ref 69)] [] (aw_s I L D) :=
  (s_M_readProc_52.go [some (.ref 69)] [.int (I 69 30), .int (0 : Int32), .int (0 : Int32), .ref 69] (aw_s I L D) rfl (z_callV (av := [.int (0 : Int32), .int (0 : Int32), .int (I 69 30)]) (st := []) ok_M_open (Or.inl w_1802) w_1804 w_82 k_M d_M_readProc_59 rfl (aw_lt (o := 69) rfl) rfl rfl (Nat.le_of_ble_eq_true rfl) (Nat.le_refl _) (Nat.le_refl _) (aw_C.mono (h1) (fun _ _ zz => aw_Z.weak (ls' := [none]) zz (Nat.le_of_ble_eq_true rfl) ⟨Or.inl rfl, trivial⟩))))
theorem d_M_readProc_47 : decode y_M_readProc.2.1 47 = .ok (.ireturn, 1) := by decide +kernel
theorem b_M_readProc_47 {X : aw_X} {d : Nat} {Q : Option Value → aw_H → Prop} {I : Nat → Nat → Int32} {L : Nat → Nat → Int64} {D : Nat → Nat} {s0 : Int32}
    (h1 : (s0 = 0 ∨ s0 = 1))
    (h2 : Q (some (.int s0)) (aw_s I L D)) :
    aw_z X (d + 1) y_M_readProc Q 47 [none] [.int s0] (aw_s I L D) :=
  (z_iret d_M_readProc_47 rfl (aw_nz (h1)) (h2))
theorem d_M_readProc_16 : decode y_M_readProc.2.1 16 = .ok (.ireturn, 1) := by decide +kernel
theorem b_M_readProc_16 {X : aw_X} {d : Nat} {Q : Option Value → aw_H → Prop} {I : Nat → Nat → Int32} {L : Nat → Nat → Int64} {D : Nat → Nat} {s0 : Int32}
    (h1 : (s0 = 0 ∨ s0 = 1))
    (h2 : Q (some (.int s0)) (aw_s I L D)) :
    aw_z X (d + 1) y_M_readProc Q 16 [none] [.int s0] (aw_s I L D) :=
  (z_iret d_M_readProc_16 rfl (aw_nz (h1)) (h2))
theorem d_M_readProc_62 : decode y_M_readProc.2.1 62 = .ok (.ireturn, 1) := by decide +kernel
theorem b_M_readProc_62 {X : aw_X} {d : Nat} {Q : Option Value → aw_H → Prop} {I : Nat → Nat → Int32} {L : Nat → Nat → Int64} {D : Nat → Nat} {s0 : Int32}
    (h1 : (s0 = 0 ∨ s0 = 1))
    (h2 : Q (some (.int s0)) (aw_s I L D)) :
    aw_z X (d + 1) y_M_readProc Q 62 [none] [.int s0] (aw_s I L D) :=
  (z_iret d_M_readProc_62 rfl (aw_nz (h1)) (h2))
/-! M_isProc -/
theorem d_M_isProc_0 : decode y_M_isProc.2.1 0 = .ok (.aload_n 0, 1) := by decide +kernel
theorem d_M_isProc_1 : decode y_M_isProc.2.1 1 = .ok (.getfield 179, 3) := by decide +kernel
theorem d_M_isProc_4 : decode y_M_isProc.2.1 4 = .ok (.iconst 2, 1) := by decide +kernel
theorem s_M_isProc_0 : aw_VS y_M_isProc 0 [o_ald 0, o_getI 9 6, o_c (.int (2 : Int32))] 5 := .cons (v_aload_n (i := 0) d_M_isProc_0 rfl) (.cons (v_getI (k := 6) k_M (by decide) (Or.inl rfl) (Or.inl w_1467) d_M_isProc_1) (.cons (v_iconst (v := (2 : Int32)) d_M_isProc_4 (by decide +kernel)) .nil))
theorem d_M_isProc_5 : decode y_M_isProc.2.1 5 = .ok (.if_icmp .ne (29), 3) := by decide +kernel
theorem d_M_isProc_34 : decode y_M_isProc.2.1 34 = .ok (.iconst 0, 1) := by decide +kernel
theorem s_M_isProc_34 : aw_VS y_M_isProc 34 [o_c (.int (0 : Int32))] 35 := .cons (v_iconst (v := (0 : Int32)) d_M_isProc_34 (by decide +kernel)) .nil
theorem d_M_isProc_35 : decode y_M_isProc.2.1 35 = .ok (.ireturn, 1) := by decide +kernel
theorem d_M_isProc_8 : decode y_M_isProc.2.1 8 = .ok (.aload_n 0, 1) := by decide +kernel
theorem d_M_isProc_9 : decode y_M_isProc.2.1 9 = .ok (.getfield 195, 3) := by decide +kernel
theorem d_M_isProc_12 : decode y_M_isProc.2.1 12 = .ok (.ldc2_w 297, 3) := by decide +kernel
theorem d_M_isProc_15 : decode y_M_isProc.2.1 15 = .ok (.lcmp, 1) := by decide +kernel
theorem s_M_isProc_8 : aw_VS y_M_isProc 8 [o_ald 0, o_getJ 9 11, o_c (.long (16 : Int64)), o_lc] 16 := .cons (v_aload_n (i := 0) d_M_isProc_8 rfl) (.cons (v_getJ (k := 11) k_M (by decide) rfl (Or.inl w_1472) d_M_isProc_9) (.cons (v_ldc2 d_M_isProc_12 w_1818) (.cons (v_lcmp d_M_isProc_15) .nil)))
theorem d_M_isProc_16 : decode y_M_isProc.2.1 16 = .ok (.ifCond .lt (18), 3) := by decide +kernel
theorem d_M_isProc_19 : decode y_M_isProc.2.1 19 = .ok (.aload_n 0, 1) := by decide +kernel
theorem d_M_isProc_20 : decode y_M_isProc.2.1 20 = .ok (.getfield 195, 3) := by decide +kernel
theorem d_M_isProc_23 : decode y_M_isProc.2.1 23 = .ok (.ldc2_w 299, 3) := by decide +kernel
theorem d_M_isProc_26 : decode y_M_isProc.2.1 26 = .ok (.lcmp, 1) := by decide +kernel
theorem s_M_isProc_19 : aw_VS y_M_isProc 19 [o_ald 0, o_getJ 9 11, o_c (.long (19 : Int64)), o_lc] 27 := .cons (v_aload_n (i := 0) d_M_isProc_19 rfl) (.cons (v_getJ (k := 11) k_M (by decide) rfl (Or.inl w_1472) d_M_isProc_20) (.cons (v_ldc2 d_M_isProc_23 w_1819) (.cons (v_lcmp d_M_isProc_26) .nil)))
theorem d_M_isProc_27 : decode y_M_isProc.2.1 27 = .ok (.ifCond .gt (7), 3) := by decide +kernel
theorem d_M_isProc_30 : decode y_M_isProc.2.1 30 = .ok (.iconst 1, 1) := by decide +kernel
theorem s_M_isProc_30 : aw_VS y_M_isProc 30 [o_c (.int (1 : Int32))] 31 := .cons (v_iconst (v := (1 : Int32)) d_M_isProc_30 (by decide +kernel)) .nil
theorem d_M_isProc_31 : decode y_M_isProc.2.1 31 = .ok (.goto (4), 3) := by decide +kernel
theorem b_M_isProc_0 {X : aw_X} {d : Nat} {Q : Option Value → aw_H → Prop} {I : Nat → Nat → Int32} {L : Nat → Nat → Int64} {D : Nat → Nat} 
    (h1 : ¬ (I 69 6) = (2 : Int32) → Q (some (.int (0 : Int32))) (aw_s I L D))
    (h2 : (I 69 6) = (2 : Int32) → (lg_cmp (L 69 11) (16 : Int64)) < 0 → Q (some (.int (0 : Int32))) (aw_s I L D))
    (h3 : (I 69 6) = (2 : Int32) → ¬ (lg_cmp (L 69 11) (16 : Int64)) < 0 → 0 < (lg_cmp (L 69 11) (19 : Int64)) → Q (some (.int (0 : Int32))) (aw_s I L D))
    (h4 : (I 69 6) = (2 : Int32) → ¬ (lg_cmp (L 69 11) (16 : Int64)) < 0 → ¬ 0 < (lg_cmp (L 69 11) (19 : Int64)) → Q (some (.int (1 : Int32))) (aw_s I L D)) :
    aw_z X d y_M_isProc Q 0 [some (.ref 69)] [] (aw_s I L D) :=
  (s_M_isProc_0.go [some (.ref 69)] [.int (2 : Int32), .int (I 69 6)] (aw_s I L D) rfl (z_icmp_ne (tgt := 34) d_M_isProc_5 rfl (fun q1 => (s_M_isProc_34.go [some (.ref 69)] [.int (0 : Int32)] (aw_s I L D) rfl (z_iret d_M_isProc_35 rfl (aw_nz (by decide +kernel)) (h1 q1)))) (fun q2 => (s_M_isProc_8.go [some (.ref 69)] [.int (lg_cmp (L 69 11) (16 : Int64))] (aw_s I L D) rfl (z_if_lt (tgt := 34) d_M_isProc_16 rfl (fun q3 => (s_M_isProc_34.go [some (.ref 69)] [.int (0 : Int32)] (aw_s I L D) rfl (z_iret d_M_isProc_35 rfl (aw_nz (by decide +kernel)) (h2 q2 q3)))) (fun q4 => (s_M_isProc_19.go [some (.ref 69)] [.int (lg_cmp (L 69 11) (19 : Int64))] (aw_s I L D) rfl (z_if_gt (tgt := 34) d_M_isProc_27 rfl (fun q5 => (s_M_isProc_34.go [some (.ref 69)] [.int (0 : Int32)] (aw_s I L D) rfl (z_iret d_M_isProc_35 rfl (aw_nz (by decide +kernel)) (h3 q2 q4 q5)))) (fun q6 => (s_M_isProc_30.go [some (.ref 69)] [.int (1 : Int32)] (aw_s I L D) rfl (z_goto (tgt := 35) d_M_isProc_31 rfl (z_iret d_M_isProc_35 rfl (aw_nz (by decide +kernel)) (h4 q2 q4 q6)))))))))))))
/-! M_readStep -/
theorem d_M_readStep_0 : decode y_M_readStep.2.1 0 = .ok (.aload_n 0, 1) := by decide +kernel
theorem s_M_readStep_0 : aw_VS y_M_readStep 0 [o_ald 0] 1 := .cons (v_aload_n (i := 0) d_M_readStep_0 rfl) .nil
theorem d_M_readStep_1 : decode y_M_readStep.2.1 1 = .ok (.invokevirtual 310, 3) := by decide +kernel
theorem b_M_readStep_0 {X : aw_X} {d : Nat} {Q : Option Value → aw_H → Prop} {I : Nat → Nat → Int32} {L : Nat → Nat → Int64} {D : Nat → Nat} 
    (h1 : aw_m X d y_M_beginsStep [.ref 69] (aw_s I L D) (fun r A => aw_z X (d + 1) y_M_readStep Q 4 [some (.ref 69), none, none] (r.toList ++ []) A)) :
    aw_z X (d + 1) y_M_readStep Q 0 [some (.ref 69), none, none] [] (aw_s I L D) :=
  (s_M_readStep_0.go [some (.ref 69), none, none] [.ref 69] (aw_s I L D) rfl (z_callV (av := []) (st := []) ok_M_beginsStep (Or.inl w_1824) w_1826 w_87 k_M d_M_readStep_1 rfl (aw_lt (o := 69) rfl) rfl rfl (Nat.le_of_ble_eq_true rfl) (Nat.le_refl _) (Nat.le_refl _) (h1)))
theorem d_M_readStep_4 : decode y_M_readStep.2.1 4 = .ok (.ifCond .ne (9), 3) := by decide +kernel
theorem d_M_readStep_13 : decode y_M_readStep.2.1 13 = .ok (.aload_n 0, 1) := by decide +kernel
theorem d_M_readStep_14 : decode y_M_readStep.2.1 14 = .ok (.getfield 25, 3) := by decide +kernel
theorem d_M_readStep_17 : decode y_M_readStep.2.1 17 = .ok (.aload_n 0, 1) := by decide +kernel
theorem d_M_readStep_18 : decode y_M_readStep.2.1 18 = .ok (.getfield 225, 3) := by decide +kernel
theorem s_M_readStep_13 : aw_VS y_M_readStep 13 [o_ald 0, o_getA 9 16, o_ald 0, o_getI 9 29] 21 := .cons (v_aload_n (i := 0) d_M_readStep_13 rfl) (.cons (v_getA (k := 16) k_M (by decide) rfl (Or.inl w_1477) d_M_readStep_14) (.cons (v_aload_n (i := 0) d_M_readStep_17 rfl) (.cons (v_getI (k := 29) k_M (by decide) (Or.inl rfl) (Or.inl w_1490) d_M_readStep_18) .nil)))
theorem d_M_readStep_21 : decode y_M_readStep.2.1 21 = .ok (.iaload, 1) := by decide +kernel
theorem d_M_readStep_22 : decode y_M_readStep.2.1 22 = .ok (.istore_n 1, 1) := by decide +kernel
theorem d_M_readStep_23 : decode y_M_readStep.2.1 23 = .ok (.iload_n 1, 1) := by decide +kernel
theorem d_M_readStep_24 : decode y_M_readStep.2.1 24 = .ok (.bipush 60, 2) := by decide +kernel
theorem s_M_readStep_22 : aw_VS y_M_readStep 22 [o_ist 1, o_ild 1, o_c (.int (60 : Int32))] 26 := .cons (v_istore_n d_M_readStep_22) (.cons (v_iload_n (i := 1) d_M_readStep_23 rfl) (.cons (v_bipush (v := (60 : Int32)) d_M_readStep_24 (by decide +kernel)) .nil))
theorem d_M_readStep_26 : decode y_M_readStep.2.1 26 = .ok (.if_icmp .ne (9), 3) := by decide +kernel
theorem d_M_readStep_35 : decode y_M_readStep.2.1 35 = .ok (.aload_n 0, 1) := by decide +kernel
theorem d_M_readStep_36 : decode y_M_readStep.2.1 36 = .ok (.getfield 25, 3) := by decide +kernel
theorem d_M_readStep_39 : decode y_M_readStep.2.1 39 = .ok (.aload_n 0, 1) := by decide +kernel
theorem d_M_readStep_40 : decode y_M_readStep.2.1 40 = .ok (.getfield 225, 3) := by decide +kernel
theorem d_M_readStep_43 : decode y_M_readStep.2.1 43 = .ok (.dup2, 1) := by decide +kernel
theorem s_M_readStep_35 : aw_VS y_M_readStep 35 [o_ald 0, o_getA 9 16, o_ald 0, o_getI 9 29, o_dup2] 44 := .cons (v_aload_n (i := 0) d_M_readStep_35 rfl) (.cons (v_getA (k := 16) k_M (by decide) rfl (Or.inl w_1477) d_M_readStep_36) (.cons (v_aload_n (i := 0) d_M_readStep_39 rfl) (.cons (v_getI (k := 29) k_M (by decide) (Or.inl rfl) (Or.inl w_1490) d_M_readStep_40) (.cons (v_dup2 d_M_readStep_43) .nil))))
theorem d_M_readStep_44 : decode y_M_readStep.2.1 44 = .ok (.iaload, 1) := by decide +kernel
theorem d_M_readStep_45 : decode y_M_readStep.2.1 45 = .ok (.iconst 1, 1) := by decide +kernel
theorem d_M_readStep_46 : decode y_M_readStep.2.1 46 = .ok (.iadd, 1) := by decide +kernel
theorem s_M_readStep_45 : aw_VS y_M_readStep 45 [o_c (.int (1 : Int32)), o_i2 (fun x z => x + z)] 47 := .cons (v_iconst (v := (1 : Int32)) d_M_readStep_45 (by decide +kernel)) (.cons (v_iadd d_M_readStep_46) .nil)
theorem d_M_readStep_47 : decode y_M_readStep.2.1 47 = .ok (.iastore, 1) := by decide +kernel
theorem d_M_readStep_48 : decode y_M_readStep.2.1 48 = .ok (.aload_n 0, 1) := by decide +kernel
theorem d_M_readStep_49 : decode y_M_readStep.2.1 49 = .ok (.getfield 31, 3) := by decide +kernel
theorem d_M_readStep_52 : decode y_M_readStep.2.1 52 = .ok (.bipush 60, 2) := by decide +kernel
theorem d_M_readStep_54 : decode y_M_readStep.2.1 54 = .ok (.aload_n 0, 1) := by decide +kernel
theorem d_M_readStep_55 : decode y_M_readStep.2.1 55 = .ok (.getfield 225, 3) := by decide +kernel
theorem d_M_readStep_58 : decode y_M_readStep.2.1 58 = .ok (.imul, 1) := by decide +kernel
theorem d_M_readStep_59 : decode y_M_readStep.2.1 59 = .ok (.iload_n 1, 1) := by decide +kernel
theorem d_M_readStep_60 : decode y_M_readStep.2.1 60 = .ok (.iadd, 1) := by decide +kernel
theorem d_M_readStep_61 : decode y_M_readStep.2.1 61 = .ok (.aload_n 0, 1) := by decide +kernel
theorem s_M_readStep_48 : aw_VS y_M_readStep 48 [o_ald 0, o_getA 9 18, o_c (.int (60 : Int32)), o_ald 0, o_getI 9 29, o_i2 (fun x z => x * z), o_ild 1, o_i2 (fun x z => x + z), o_ald 0] 62 := .cons (v_aload_n (i := 0) d_M_readStep_48 rfl) (.cons (v_getA (k := 18) k_M (by decide) rfl (Or.inl w_1479) d_M_readStep_49) (.cons (v_bipush (v := (60 : Int32)) d_M_readStep_52 (by decide +kernel)) (.cons (v_aload_n (i := 0) d_M_readStep_54 rfl) (.cons (v_getI (k := 29) k_M (by decide) (Or.inl rfl) (Or.inl w_1490) d_M_readStep_55) (.cons (v_imul d_M_readStep_58) (.cons (v_iload_n (i := 1) d_M_readStep_59 rfl) (.cons (v_iadd d_M_readStep_60) (.cons (v_aload_n (i := 0) d_M_readStep_61 rfl) .nil))))))))
theorem d_M_readStep_62 : decode y_M_readStep.2.1 62 = .ok (.invokevirtual 307, 3) := by decide +kernel
theorem d_M_readStep_29 : decode y_M_readStep.2.1 29 = .ok (.aload_n 0, 1) := by decide +kernel
theorem d_M_readStep_30 : decode y_M_readStep.2.1 30 = .ok (.iconst 3, 1) := by decide +kernel
theorem s_M_readStep_29 : aw_VS y_M_readStep 29 [o_ald 0, o_c (.int (3 : Int32))] 31 := .cons (v_aload_n (i := 0) d_M_readStep_29 rfl) (.cons (v_iconst (v := (3 : Int32)) d_M_readStep_30 (by decide +kernel)) .nil)
theorem d_M_readStep_31 : decode y_M_readStep.2.1 31 = .ok (.invokevirtual 219, 3) := by decide +kernel
theorem d_M_readStep_7 : decode y_M_readStep.2.1 7 = .ok (.aload_n 0, 1) := by decide +kernel
theorem d_M_readStep_8 : decode y_M_readStep.2.1 8 = .ok (.iconst 1, 1) := by decide +kernel
theorem s_M_readStep_7 : aw_VS y_M_readStep 7 [o_ald 0, o_c (.int (1 : Int32))] 9 := .cons (v_aload_n (i := 0) d_M_readStep_7 rfl) (.cons (v_iconst (v := (1 : Int32)) d_M_readStep_8 (by decide +kernel)) .nil)
theorem d_M_readStep_9 : decode y_M_readStep.2.1 9 = .ok (.invokevirtual 219, 3) := by decide +kernel
theorem b_M_readStep_4 {X : aw_X} {d : Nat} {Q : Option Value → aw_H → Prop} {I : Nat → Nat → Int32} {L : Nat → Nat → Int64} {D : Nat → Nat} {s0 : Int32}
    (h1 : ¬ s0 = 0 → vp_in (I 69 29) 7)
    (h2 : ¬ s0 = 0 → ¬ (I 75 ((I 69 29).toNatClampNeg)) = (60 : Int32) → vp_in (I 69 29) 7)
    (h3 : ¬ s0 = 0 → ¬ (I 75 ((I 69 29).toNatClampNeg)) = (60 : Int32) → vp_in (I 69 29) 7)
    (h4 : ¬ s0 = 0 → ¬ (I 75 ((I 69 29).toNatClampNeg)) = (60 : Int32) → aw_m X d y_M_isLoop [.ref 69] (aw_s (aw_u I 75 ((I 69 29).toNatClampNeg) ((I 75 ((I 69 29).toNatClampNeg)) + (1 : Int32))) L D) (fun r A => aw_z X (d + 1) y_M_readStep Q 65 [some (.ref 69), some (.int (I 75 ((I 69 29).toNatClampNeg))), none] (r.toList ++ [.int (((60 : Int32) * (I 69 29)) + (I 75 ((I 69 29).toNatClampNeg))), .ref 77]) A))
    (h5 : ¬ s0 = 0 → (I 75 ((I 69 29).toNatClampNeg)) = (60 : Int32) → aw_m X d y_M_bad [.ref 69, .int (3 : Int32)] (aw_s I L D) (fun r A => aw_z X (d + 1) y_M_readStep Q 34 [none, none, none] (r.toList ++ []) A))
    (h6 : s0 = 0 → aw_m X d y_M_bad [.ref 69, .int (1 : Int32)] (aw_s I L D) (fun r A => aw_z X (d + 1) y_M_readStep Q 12 [none, none, none] (r.toList ++ []) A)) :
    aw_z X (d + 1) y_M_readStep Q 4 [some (.ref 69), none, none] [.int s0] (aw_s I L D) :=
  (z_if_ne (tgt := 13) d_M_readStep_4 rfl (fun q1 => (s_M_readStep_13.go [some (.ref 69), none, none] [.int (I 69 29), .ref 75] (aw_s I L D) rfl (z_iald (n := 7) rfl (aw_lt (o := 75) rfl) (h1 q1) d_M_readStep_21 (s_M_readStep_22.go [some (.ref 69), some (.int (I 75 ((I 69 29).toNatClampNeg))), none] [.int (60 : Int32), .int (I 75 ((I 69 29).toNatClampNeg))] (aw_s I L D) rfl (z_icmp_ne (tgt := 35) d_M_readStep_26 rfl (fun q3 => (s_M_readStep_35.go [some (.ref 69), some (.int (I 75 ((I 69 29).toNatClampNeg))), none] [.int (I 69 29), .ref 75, .int (I 69 29), .ref 75] (aw_s I L D) rfl (z_iald (n := 7) rfl (aw_lt (o := 75) rfl) (h2 q1 q3) d_M_readStep_44 (s_M_readStep_45.go [some (.ref 69), some (.int (I 75 ((I 69 29).toNatClampNeg))), none] [.int ((I 75 ((I 69 29).toNatClampNeg)) + (1 : Int32)), .int (I 69 29), .ref 75] (aw_s I L D) rfl (z_iast (n := 7) rfl (aw_lt (o := 75) rfl) (h3 q1 q3) d_M_readStep_47 (s_M_readStep_48.go [some (.ref 69), some (.int (I 75 ((I 69 29).toNatClampNeg))), none] [.ref 69, .int (((60 : Int32) * (I 69 29)) + (I 75 ((I 69 29).toNatClampNeg))), .ref 77] (aw_s (aw_u I 75 ((I 69 29).toNatClampNeg) ((I 75 ((I 69 29).toNatClampNeg)) + (1 : Int32))) L D) rfl (z_callV (av := []) (st := [.int (((60 : Int32) * (I 69 29)) + (I 75 ((I 69 29).toNatClampNeg))), .ref 77]) ok_M_isLoop (Or.inl w_1837) w_1839 w_90 k_M d_M_readStep_62 rfl (aw_lt (o := 69) rfl) rfl rfl (Nat.le_of_ble_eq_true rfl) (Nat.le_refl _) (Nat.le_refl _) (h4 q1 q3)))))))) (fun q4 => (s_M_readStep_29.go [some (.ref 69), some (.int (I 75 ((I 69 29).toNatClampNeg))), none] [.int (3 : Int32), .ref 69] (aw_s I L D) rfl (z_callV (av := [.int (3 : Int32)]) (st := []) ok_M_bad (Or.inl w_1806) w_1808 w_83 k_M d_M_readStep_31 rfl (aw_lt (o := 69) rfl) rfl rfl (Nat.le_of_ble_eq_true rfl) (Nat.le_refl _) (Nat.le_refl _) (aw_C.mono (h5 q1 q4) (fun _ _ zz => aw_Z.weak (ls' := [none, none, none]) zz (Nat.le_of_ble_eq_true rfl) ⟨Or.inl rfl, ⟨Or.inl rfl, ⟨Or.inl rfl, trivial⟩⟩⟩)))))))))) (fun q2 => (s_M_readStep_7.go [some (.ref 69), none, none] [.int (1 : Int32), .ref 69] (aw_s I L D) rfl (z_callV (av := [.int (1 : Int32)]) (st := []) ok_M_bad (Or.inl w_1806) w_1808 w_83 k_M d_M_readStep_9 rfl (aw_lt (o := 69) rfl) rfl rfl (Nat.le_of_ble_eq_true rfl) (Nat.le_refl _) (Nat.le_refl _) (aw_C.mono (h6 q2) (fun _ _ zz => aw_Z.weak (ls' := [none, none, none]) zz (Nat.le_of_ble_eq_true rfl) ⟨Or.inl rfl, ⟨Or.inl rfl, ⟨Or.inl rfl, trivial⟩⟩⟩))))))
theorem d_M_readStep_65 : decode y_M_readStep.2.1 65 = .ok (.bastore, 1) := by decide +kernel
theorem d_M_readStep_66 : decode y_M_readStep.2.1 66 = .ok (.aload_n 0, 1) := by decide +kernel
theorem s_M_readStep_66 : aw_VS y_M_readStep 66 [o_ald 0] 67 := .cons (v_aload_n (i := 0) d_M_readStep_66 rfl) .nil
theorem d_M_readStep_67 : decode y_M_readStep.2.1 67 = .ok (.invokevirtual 304, 3) := by decide +kernel
theorem b_M_readStep_65 {X : aw_X} {d : Nat} {Q : Option Value → aw_H → Prop} {I : Nat → Nat → Int32} {L : Nat → Nat → Int64} {D : Nat → Nat} {v1 : Int32} {s2 : Int32} {s1 : Int32}
    (h1 : vp_in s1 420)
    (h2 : (s2 = 0 ∨ s2 = 1))
    (h3 : aw_m X d y_M_isIf [.ref 69] (aw_s (aw_u I 77 s1.toNatClampNeg s2) L D) (fun r A => aw_z X (d + 1) y_M_readStep Q 70 [some (.ref 69), some (.int v1), none] (r.toList ++ []) A)) :
    aw_z X (d + 1) y_M_readStep Q 65 [some (.ref 69), some (.int v1), none] [.int s2, .int s1, .ref 77] (aw_s I L D) :=
  (z_zast (n := 420) rfl rfl (aw_lt (o := 77) rfl) (h1) (h2) d_M_readStep_65 (s_M_readStep_66.go [some (.ref 69), some (.int v1), none] [.ref 69] (aw_s (aw_u I 77 s1.toNatClampNeg s2) L D) rfl (z_callV (av := []) (st := []) ok_M_isIf (Or.inl w_1833) w_1835 w_89 k_M d_M_readStep_67 rfl (aw_lt (o := 69) rfl) rfl rfl (Nat.le_of_ble_eq_true rfl) (Nat.le_refl _) (Nat.le_refl _) (h3))))
theorem d_M_readStep_34 : decode y_M_readStep.2.1 34 = .ok (.ireturn, 1) := by decide +kernel
theorem b_M_readStep_34 {X : aw_X} {d : Nat} {Q : Option Value → aw_H → Prop} {I : Nat → Nat → Int32} {L : Nat → Nat → Int64} {D : Nat → Nat} {s0 : Int32}
    (h1 : (s0 = 0 ∨ s0 = 1))
    (h2 : Q (some (.int s0)) (aw_s I L D)) :
    aw_z X (d + 1) y_M_readStep Q 34 [none, none, none] [.int s0] (aw_s I L D) :=
  (z_iret d_M_readStep_34 rfl (aw_nz (h1)) (h2))
theorem d_M_readStep_12 : decode y_M_readStep.2.1 12 = .ok (.ireturn, 1) := by decide +kernel
theorem b_M_readStep_12 {X : aw_X} {d : Nat} {Q : Option Value → aw_H → Prop} {I : Nat → Nat → Int32} {L : Nat → Nat → Int64} {D : Nat → Nat} {s0 : Int32}
    (h1 : (s0 = 0 ∨ s0 = 1))
    (h2 : Q (some (.int s0)) (aw_s I L D)) :
    aw_z X (d + 1) y_M_readStep Q 12 [none, none, none] [.int s0] (aw_s I L D) :=
  (z_iret d_M_readStep_12 rfl (aw_nz (h1)) (h2))
theorem d_M_readStep_70 : decode y_M_readStep.2.1 70 = .ok (.ifCond .ne (10), 3) := by decide +kernel
theorem d_M_readStep_73 : decode y_M_readStep.2.1 73 = .ok (.aload_n 0, 1) := by decide +kernel
theorem s_M_readStep_73 : aw_VS y_M_readStep 73 [o_ald 0] 74 := .cons (v_aload_n (i := 0) d_M_readStep_73 rfl) .nil
theorem d_M_readStep_74 : decode y_M_readStep.2.1 74 = .ok (.invokevirtual 307, 3) := by decide +kernel
theorem b_M_readStep_70 {X : aw_X} {d : Nat} {Q : Option Value → aw_H → Prop} {I : Nat → Nat → Int32} {L : Nat → Nat → Int64} {D : Nat → Nat} {v1 : Int32} {s0 : Int32}
    (h1 : ¬ s0 = 0 → aw_z X (d + 1) y_M_readStep Q 80 [some (.ref 69), some (.int v1), none] [] (aw_s I L D))
    (h2 : s0 = 0 → aw_m X d y_M_isLoop [.ref 69] (aw_s I L D) (fun r A => aw_z X (d + 1) y_M_readStep Q 77 [some (.ref 69), some (.int v1), none] (r.toList ++ []) A)) :
    aw_z X (d + 1) y_M_readStep Q 70 [some (.ref 69), some (.int v1), none] [.int s0] (aw_s I L D) :=
  (z_if_ne (tgt := 80) d_M_readStep_70 rfl (fun q1 => (h1 q1)) (fun q2 => (s_M_readStep_73.go [some (.ref 69), some (.int v1), none] [.ref 69] (aw_s I L D) rfl (z_callV (av := []) (st := []) ok_M_isLoop (Or.inl w_1837) w_1839 w_90 k_M d_M_readStep_74 rfl (aw_lt (o := 69) rfl) rfl rfl (Nat.le_of_ble_eq_true rfl) (Nat.le_refl _) (Nat.le_refl _) (h2 q2)))))
theorem d_M_readStep_80 : decode y_M_readStep.2.1 80 = .ok (.aload_n 0, 1) := by decide +kernel
theorem d_M_readStep_81 : decode y_M_readStep.2.1 81 = .ok (.iload_n 1, 1) := by decide +kernel
theorem s_M_readStep_80 : aw_VS y_M_readStep 80 [o_ald 0, o_ild 1] 82 := .cons (v_aload_n (i := 0) d_M_readStep_80 rfl) (.cons (v_iload_n (i := 1) d_M_readStep_81 rfl) .nil)
theorem d_M_readStep_82 : decode y_M_readStep.2.1 82 = .ok (.invokevirtual 313, 3) := by decide +kernel
theorem b_M_readStep_80 {X : aw_X} {d : Nat} {Q : Option Value → aw_H → Prop} {I : Nat → Nat → Int32} {L : Nat → Nat → Int64} {D : Nat → Nat} {v1 : Int32}
    (h1 : aw_m X d y_M_readDecision [.ref 69, .int v1] (aw_s I L D) (fun r A => aw_z X (d + 1) y_M_readStep Q 85 [none, none, none] (r.toList ++ []) A)) :
    aw_z X (d + 1) y_M_readStep Q 80 [some (.ref 69), some (.int v1), none] [] (aw_s I L D) :=
  (s_M_readStep_80.go [some (.ref 69), some (.int v1), none] [.int v1, .ref 69] (aw_s I L D) rfl (z_callV (av := [.int v1]) (st := []) ok_M_readDecision (Or.inl w_1841) w_1843 w_91 k_M d_M_readStep_82 rfl (aw_lt (o := 69) rfl) rfl rfl (Nat.le_of_ble_eq_true rfl) (Nat.le_refl _) (Nat.le_refl _) (aw_C.mono (h1) (fun _ _ zz => aw_Z.weak (ls' := [none, none, none]) zz (Nat.le_of_ble_eq_true rfl) ⟨Or.inl rfl, ⟨Or.inl rfl, ⟨Or.inl rfl, trivial⟩⟩⟩))))
theorem d_M_readStep_77 : decode y_M_readStep.2.1 77 = .ok (.ifCond .eq (9), 3) := by decide +kernel
theorem d_M_readStep_86 : decode y_M_readStep.2.1 86 = .ok (.aload_n 0, 1) := by decide +kernel
theorem d_M_readStep_87 : decode y_M_readStep.2.1 87 = .ok (.iconst 0, 1) := by decide +kernel
theorem d_M_readStep_88 : decode y_M_readStep.2.1 88 = .ok (.iload_n 1, 1) := by decide +kernel
theorem s_M_readStep_86 : aw_VS y_M_readStep 86 [o_ald 0, o_c (.int (0 : Int32)), o_ild 1] 89 := .cons (v_aload_n (i := 0) d_M_readStep_86 rfl) (.cons (v_iconst (v := (0 : Int32)) d_M_readStep_87 (by decide +kernel)) (.cons (v_iload_n (i := 1) d_M_readStep_88 rfl) .nil))
theorem d_M_readStep_89 : decode y_M_readStep.2.1 89 = .ok (.invokevirtual 238, 3) := by decide +kernel
theorem b_M_readStep_77 {X : aw_X} {d : Nat} {Q : Option Value → aw_H → Prop} {I : Nat → Nat → Int32} {L : Nat → Nat → Int64} {D : Nat → Nat} {v1 : Int32} {s0 : Int32}
    (h1 : s0 = 0 → aw_m X d y_M_emit [.ref 69, .int (0 : Int32), .int v1] (aw_s I L D) (fun r A => aw_z X (d + 1) y_M_readStep Q 92 [some (.ref 69), none, none] (r.toList ++ []) A))
    (h2 : ¬ s0 = 0 → aw_z X (d + 1) y_M_readStep Q 80 [some (.ref 69), some (.int v1), none] [] (aw_s I L D)) :
    aw_z X (d + 1) y_M_readStep Q 77 [some (.ref 69), some (.int v1), none] [.int s0] (aw_s I L D) :=
  (z_if_eq (tgt := 86) d_M_readStep_77 rfl (fun q1 => (s_M_readStep_86.go [some (.ref 69), some (.int v1), none] [.int v1, .int (0 : Int32), .ref 69] (aw_s I L D) rfl (z_callV (av := [.int (0 : Int32), .int v1]) (st := []) ok_M_emit (Or.inl w_1787) w_1789 w_79 k_M d_M_readStep_89 rfl (aw_lt (o := 69) rfl) rfl rfl (Nat.le_of_ble_eq_true rfl) (Nat.le_refl _) (Nat.le_refl _) (aw_C.mono (h1 q1) (fun _ _ zz => aw_Z.weak (ls' := [some (.ref 69), none, none]) zz (Nat.le_of_ble_eq_true rfl) ⟨Or.inr rfl, ⟨Or.inl rfl, ⟨Or.inl rfl, trivial⟩⟩⟩))))) (fun q2 => (h2 q2)))
theorem d_M_readStep_85 : decode y_M_readStep.2.1 85 = .ok (.ireturn, 1) := by decide +kernel
theorem b_M_readStep_85 {X : aw_X} {d : Nat} {Q : Option Value → aw_H → Prop} {I : Nat → Nat → Int32} {L : Nat → Nat → Int64} {D : Nat → Nat} {s0 : Int32}
    (h1 : (s0 = 0 ∨ s0 = 1))
    (h2 : Q (some (.int s0)) (aw_s I L D)) :
    aw_z X (d + 1) y_M_readStep Q 85 [none, none, none] [.int s0] (aw_s I L D) :=
  (z_iret d_M_readStep_85 rfl (aw_nz (h1)) (h2))
theorem d_M_readStep_92 : decode y_M_readStep.2.1 92 = .ok (.pop, 1) := by decide +kernel
theorem d_M_readStep_93 : decode y_M_readStep.2.1 93 = .ok (.aload_n 0, 1) := by decide +kernel
theorem s_M_readStep_92 : aw_VS y_M_readStep 92 [o_pop, o_ald 0] 94 := .cons (v_pop d_M_readStep_92) (.cons (v_aload_n (i := 0) d_M_readStep_93 rfl) .nil)
theorem d_M_readStep_94 : decode y_M_readStep.2.1 94 = .ok (.invokevirtual 252, 3) := by decide +kernel
theorem b_M_readStep_92 {X : aw_X} {d : Nat} {Q : Option Value → aw_H → Prop} {I : Nat → Nat → Int32} {L : Nat → Nat → Int64} {D : Nat → Nat} {s0 : Int32}
    (h1 : aw_m X d y_M_isName [.ref 69] (aw_s I L D) (fun r A => aw_z X (d + 1) y_M_readStep Q 97 [some (.ref 69), none, none] (r.toList ++ []) A)) :
    aw_z X (d + 1) y_M_readStep Q 92 [some (.ref 69), none, none] [.int s0] (aw_s I L D) :=
  (s_M_readStep_92.go [some (.ref 69), none, none] [.ref 69] (aw_s I L D) rfl (z_callV (av := []) (st := []) ok_M_isName (Or.inl w_1828) w_1830 w_88 k_M d_M_readStep_94 rfl (aw_lt (o := 69) rfl) rfl rfl (Nat.le_of_ble_eq_true rfl) (Nat.le_refl _) (Nat.le_refl _) (h1)))
theorem d_M_readStep_97 : decode y_M_readStep.2.1 97 = .ok (.ifCond .eq (48), 3) := by decide +kernel
theorem d_M_readStep_145 : decode y_M_readStep.2.1 145 = .ok (.aload_n 0, 1) := by decide +kernel
theorem d_M_readStep_146 : decode y_M_readStep.2.1 146 = .ok (.bipush 99, 2) := by decide +kernel
theorem d_M_readStep_148 : decode y_M_readStep.2.1 148 = .ok (.bipush 101, 2) := by decide +kernel
theorem d_M_readStep_150 : decode y_M_readStep.2.1 150 = .ok (.bipush 108, 2) := by decide +kernel
theorem d_M_readStep_152 : decode y_M_readStep.2.1 152 = .ok (.bipush 108, 2) := by decide +kernel
theorem d_M_readStep_154 : decode y_M_readStep.2.1 154 = .ok (.iconst 0, 1) := by decide +kernel
theorem s_M_readStep_145 : aw_VS y_M_readStep 145 [o_ald 0, o_c (.int (99 : Int32)), o_c (.int (101 : Int32)), o_c (.int (108 : Int32)), o_c (.int (108 : Int32)), o_c (.int (0 : Int32))] 155 := .cons (v_aload_n (i := 0) d_M_readStep_145 rfl) (.cons (v_bipush (v := (99 : Int32)) d_M_readStep_146 (by decide +kernel)) (.cons (v_bipush (v := (101 : Int32)) d_M_readStep_148 (by decide +kernel)) (.cons (v_bipush (v := (108 : Int32)) d_M_readStep_150 (by decide +kernel)) (.cons (v_bipush (v := (108 : Int32)) d_M_readStep_152 (by decide +kernel)) (.cons (v_iconst (v := (0 : Int32)) d_M_readStep_154 (by decide +kernel)) .nil)))))
theorem d_M_readStep_155 : decode y_M_readStep.2.1 155 = .ok (.invokestatic 244, 3) := by decide +kernel
theorem d_M_readStep_100 : decode y_M_readStep.2.1 100 = .ok (.aload_n 0, 1) := by decide +kernel
theorem d_M_readStep_101 : decode y_M_readStep.2.1 101 = .ok (.getfield 195, 3) := by decide +kernel
theorem d_M_readStep_104 : decode y_M_readStep.2.1 104 = .ok (.l2i, 1) := by decide +kernel
theorem d_M_readStep_105 : decode y_M_readStep.2.1 105 = .ok (.iconst 1, 1) := by decide +kernel
theorem d_M_readStep_106 : decode y_M_readStep.2.1 106 = .ok (.isub, 1) := by decide +kernel
theorem d_M_readStep_107 : decode y_M_readStep.2.1 107 = .ok (.istore_n 2, 1) := by decide +kernel
theorem d_M_readStep_108 : decode y_M_readStep.2.1 108 = .ok (.aload_n 0, 1) := by decide +kernel
theorem s_M_readStep_100 : aw_VS y_M_readStep 100 [o_ald 0, o_getJ 9 11, o_li (fun x => x.toInt32), o_c (.int (1 : Int32)), o_i2 (fun x z => x - z), o_ist 2, o_ald 0] 109 := .cons (v_aload_n (i := 0) d_M_readStep_100 rfl) (.cons (v_getJ (k := 11) k_M (by decide) rfl (Or.inl w_1472) d_M_readStep_101) (.cons (v_l2i d_M_readStep_104) (.cons (v_iconst (v := (1 : Int32)) d_M_readStep_105 (by decide +kernel)) (.cons (v_isub d_M_readStep_106) (.cons (v_istore_n d_M_readStep_107) (.cons (v_aload_n (i := 0) d_M_readStep_108 rfl) .nil))))))
theorem d_M_readStep_109 : decode y_M_readStep.2.1 109 = .ok (.invokevirtual 222, 3) := by decide +kernel
theorem b_M_readStep_97 {X : aw_X} {d : Nat} {Q : Option Value → aw_H → Prop} {I : Nat → Nat → Int32} {L : Nat → Nat → Int64} {D : Nat → Nat} {s0 : Int32}
    (h1 : s0 = 0 → aw_m X d y_M_spelt [.int (99 : Int32), .int (101 : Int32), .int (108 : Int32), .int (108 : Int32), .int (0 : Int32)] (aw_s I L D) (fun r A => aw_z X (d + 1) y_M_readStep Q 158 [some (.ref 69), none, none] (r.toList ++ [.ref 69]) A))
    (h2 : ¬ s0 = 0 → aw_m X d y_M_go [.ref 69] (aw_s I L D) (fun r A => aw_z X (d + 1) y_M_readStep Q 112 [some (.ref 69), none, some (.int (((L 69 11).toInt32) - (1 : Int32)))] (r.toList ++ []) A)) :
    aw_z X (d + 1) y_M_readStep Q 97 [some (.ref 69), none, none] [.int s0] (aw_s I L D) :=
  (z_if_eq (tgt := 145) d_M_readStep_97 rfl (fun q1 => (s_M_readStep_145.go [some (.ref 69), none, none] [.int (0 : Int32), .int (108 : Int32), .int (108 : Int32), .int (101 : Int32), .int (99 : Int32), .ref 69] (aw_s I L D) rfl (z_callS (av := [.int (99 : Int32), .int (101 : Int32), .int (108 : Int32), .int (108 : Int32), .int (0 : Int32)]) (st := [.ref 69]) ok_M_spelt (Or.inl w_1795) w_1796 d_M_readStep_155 rfl rfl (Nat.le_of_ble_eq_true rfl) (Nat.le_refl _) (Nat.le_refl _) (h1 q1)))) (fun q2 => (s_M_readStep_100.go [some (.ref 69), none, some (.int (((L 69 11).toInt32) - (1 : Int32)))] [.ref 69] (aw_s I L D) rfl (z_callV (av := []) (st := []) ok_M_go (Or.inl w_1760) w_1762 w_75 k_M d_M_readStep_109 rfl (aw_lt (o := 69) rfl) rfl rfl (Nat.le_of_ble_eq_true rfl) (Nat.le_refl _) (Nat.le_refl _) (h2 q2)))))
theorem d_M_readStep_158 : decode y_M_readStep.2.1 158 = .ok (.invokevirtual 248, 3) := by decide +kernel
theorem b_M_readStep_158 {X : aw_X} {d : Nat} {Q : Option Value → aw_H → Prop} {I : Nat → Nat → Int32} {L : Nat → Nat → Int64} {D : Nat → Nat} {s1 : Int64}
    (h1 : aw_m X d y_M_isKey [.ref 69, .long s1] (aw_s I L D) (fun r A => aw_z X (d + 1) y_M_readStep Q 161 [some (.ref 69), none, none] (r.toList ++ []) A)) :
    aw_z X (d + 1) y_M_readStep Q 158 [some (.ref 69), none, none] [.long s1, .ref 69] (aw_s I L D) :=
  (z_callV (av := [.long s1]) (st := []) ok_M_isKey (Or.inl w_1798) w_1800 w_81 k_M d_M_readStep_158 rfl (aw_lt (o := 69) rfl) rfl rfl (Nat.le_of_ble_eq_true rfl) (Nat.le_refl _) (Nat.le_refl _) (h1))
theorem d_M_readStep_112 : decode y_M_readStep.2.1 112 = .ok (.aload_n 0, 1) := by decide +kernel
theorem d_M_readStep_113 : decode y_M_readStep.2.1 113 = .ok (.bipush 61, 2) := by decide +kernel
theorem s_M_readStep_112 : aw_VS y_M_readStep 112 [o_ald 0, o_c (.int (61 : Int32))] 115 := .cons (v_aload_n (i := 0) d_M_readStep_112 rfl) (.cons (v_bipush (v := (61 : Int32)) d_M_readStep_113 (by decide +kernel)) .nil)
theorem d_M_readStep_115 : decode y_M_readStep.2.1 115 = .ok (.invokevirtual 316, 3) := by decide +kernel
theorem b_M_readStep_112 {X : aw_X} {d : Nat} {Q : Option Value → aw_H → Prop} {I : Nat → Nat → Int32} {L : Nat → Nat → Int64} {D : Nat → Nat} {v2 : Int32}
    (h1 : aw_m X d y_M_readSign [.ref 69, .int (61 : Int32)] (aw_s I L D) (fun r A => aw_z X (d + 1) y_M_readStep Q 118 [some (.ref 69), none, some (.int v2)] (r.toList ++ []) A)) :
    aw_z X (d + 1) y_M_readStep Q 112 [some (.ref 69), none, some (.int v2)] [] (aw_s I L D) :=
  (s_M_readStep_112.go [some (.ref 69), none, some (.int v2)] [.int (61 : Int32), .ref 69] (aw_s I L D) rfl (z_callV (av := [.int (61 : Int32)]) (st := []) ok_M_readSign (Or.inl w_1880) w_1882 w_100 k_M d_M_readStep_115 rfl (aw_lt (o := 69) rfl) rfl rfl (Nat.le_of_ble_eq_true rfl) (Nat.le_refl _) (Nat.le_refl _) (h1)))
theorem d_M_readStep_161 : decode y_M_readStep.2.1 161 = .ok (.ifCond .eq (8), 3) := by decide +kernel
theorem d_M_readStep_169 : decode y_M_readStep.2.1 169 = .ok (.aload_n 0, 1) := by decide +kernel
theorem d_M_readStep_170 : decode y_M_readStep.2.1 170 = .ok (.bipush 99, 2) := by decide +kernel
theorem d_M_readStep_172 : decode y_M_readStep.2.1 172 = .ok (.bipush 97, 2) := by decide +kernel
theorem d_M_readStep_174 : decode y_M_readStep.2.1 174 = .ok (.bipush 108, 2) := by decide +kernel
theorem d_M_readStep_176 : decode y_M_readStep.2.1 176 = .ok (.bipush 108, 2) := by decide +kernel
theorem d_M_readStep_178 : decode y_M_readStep.2.1 178 = .ok (.iconst 0, 1) := by decide +kernel
theorem s_M_readStep_169 : aw_VS y_M_readStep 169 [o_ald 0, o_c (.int (99 : Int32)), o_c (.int (97 : Int32)), o_c (.int (108 : Int32)), o_c (.int (108 : Int32)), o_c (.int (0 : Int32))] 179 := .cons (v_aload_n (i := 0) d_M_readStep_169 rfl) (.cons (v_bipush (v := (99 : Int32)) d_M_readStep_170 (by decide +kernel)) (.cons (v_bipush (v := (97 : Int32)) d_M_readStep_172 (by decide +kernel)) (.cons (v_bipush (v := (108 : Int32)) d_M_readStep_174 (by decide +kernel)) (.cons (v_bipush (v := (108 : Int32)) d_M_readStep_176 (by decide +kernel)) (.cons (v_iconst (v := (0 : Int32)) d_M_readStep_178 (by decide +kernel)) .nil)))))
theorem d_M_readStep_179 : decode y_M_readStep.2.1 179 = .ok (.invokestatic 244, 3) := by decide +kernel
theorem d_M_readStep_164 : decode y_M_readStep.2.1 164 = .ok (.aload_n 0, 1) := by decide +kernel
theorem s_M_readStep_164 : aw_VS y_M_readStep 164 [o_ald 0] 165 := .cons (v_aload_n (i := 0) d_M_readStep_164 rfl) .nil
theorem d_M_readStep_165 : decode y_M_readStep.2.1 165 = .ok (.invokevirtual 319, 3) := by decide +kernel
theorem b_M_readStep_161 {X : aw_X} {d : Nat} {Q : Option Value → aw_H → Prop} {I : Nat → Nat → Int32} {L : Nat → Nat → Int64} {D : Nat → Nat} {s0 : Int32}
    (h1 : s0 = 0 → aw_m X d y_M_spelt [.int (99 : Int32), .int (97 : Int32), .int (108 : Int32), .int (108 : Int32), .int (0 : Int32)] (aw_s I L D) (fun r A => aw_z X (d + 1) y_M_readStep Q 182 [some (.ref 69), none, none] (r.toList ++ [.ref 69]) A))
    (h2 : ¬ s0 = 0 → aw_m X d y_M_readCell [.ref 69] (aw_s I L D) (fun r A => aw_z X (d + 1) y_M_readStep Q 168 [none, none, none] (r.toList ++ []) A)) :
    aw_z X (d + 1) y_M_readStep Q 161 [some (.ref 69), none, none] [.int s0] (aw_s I L D) :=
  (z_if_eq (tgt := 169) d_M_readStep_161 rfl (fun q1 => (s_M_readStep_169.go [some (.ref 69), none, none] [.int (0 : Int32), .int (108 : Int32), .int (108 : Int32), .int (97 : Int32), .int (99 : Int32), .ref 69] (aw_s I L D) rfl (z_callS (av := [.int (99 : Int32), .int (97 : Int32), .int (108 : Int32), .int (108 : Int32), .int (0 : Int32)]) (st := [.ref 69]) ok_M_spelt (Or.inl w_1795) w_1796 d_M_readStep_179 rfl rfl (Nat.le_of_ble_eq_true rfl) (Nat.le_refl _) (Nat.le_refl _) (h1 q1)))) (fun q2 => (s_M_readStep_164.go [some (.ref 69), none, none] [.ref 69] (aw_s I L D) rfl (z_callV (av := []) (st := []) ok_M_readCell (Or.inl w_1884) w_1886 w_101 k_M d_M_readStep_165 rfl (aw_lt (o := 69) rfl) rfl rfl (Nat.le_of_ble_eq_true rfl) (Nat.le_refl _) (Nat.le_refl _) (aw_C.mono (h2 q2) (fun _ _ zz => aw_Z.weak (ls' := [none, none, none]) zz (Nat.le_of_ble_eq_true rfl) ⟨Or.inl rfl, ⟨Or.inl rfl, ⟨Or.inl rfl, trivial⟩⟩⟩))))))
theorem d_M_readStep_118 : decode y_M_readStep.2.1 118 = .ok (.ifCond .eq (10), 3) := by decide +kernel
theorem d_M_readStep_128 : decode y_M_readStep.2.1 128 = .ok (.iconst 0, 1) := by decide +kernel
theorem s_M_readStep_128 : aw_VS y_M_readStep 128 [o_c (.int (0 : Int32))] 129 := .cons (v_iconst (v := (0 : Int32)) d_M_readStep_128 (by decide +kernel)) .nil
theorem d_M_readStep_129 : decode y_M_readStep.2.1 129 = .ok (.ireturn, 1) := by decide +kernel
theorem d_M_readStep_121 : decode y_M_readStep.2.1 121 = .ok (.aload_n 0, 1) := by decide +kernel
theorem s_M_readStep_121 : aw_VS y_M_readStep 121 [o_ald 0] 122 := .cons (v_aload_n (i := 0) d_M_readStep_121 rfl) .nil
theorem d_M_readStep_122 : decode y_M_readStep.2.1 122 = .ok (.invokevirtual 276, 3) := by decide +kernel
theorem b_M_readStep_118 {X : aw_X} {d : Nat} {Q : Option Value → aw_H → Prop} {I : Nat → Nat → Int32} {L : Nat → Nat → Int64} {D : Nat → Nat} {v2 : Int32} {s0 : Int32}
    (h1 : s0 = 0 → Q (some (.int (0 : Int32))) (aw_s I L D))
    (h2 : ¬ s0 = 0 → aw_m X d y_M_readSum [.ref 69] (aw_s I L D) (fun r A => aw_z X (d + 1) y_M_readStep Q 125 [some (.ref 69), none, some (.int v2)] (r.toList ++ []) A)) :
    aw_z X (d + 1) y_M_readStep Q 118 [some (.ref 69), none, some (.int v2)] [.int s0] (aw_s I L D) :=
  (z_if_eq (tgt := 128) d_M_readStep_118 rfl (fun q1 => (s_M_readStep_128.go [some (.ref 69), none, some (.int v2)] [.int (0 : Int32)] (aw_s I L D) rfl (z_iret d_M_readStep_129 rfl (aw_nz (by decide +kernel)) (h1 q1)))) (fun q2 => (s_M_readStep_121.go [some (.ref 69), none, some (.int v2)] [.ref 69] (aw_s I L D) rfl (z_callV (av := []) (st := []) ok_M_readSum (Or.inl w_1857) w_1859 w_95 k_M d_M_readStep_122 rfl (aw_lt (o := 69) rfl) rfl rfl (Nat.le_of_ble_eq_true rfl) (Nat.le_refl _) (Nat.le_refl _) (h2 q2)))))
theorem d_M_readStep_182 : decode y_M_readStep.2.1 182 = .ok (.invokevirtual 248, 3) := by decide +kernel
theorem b_M_readStep_182 {X : aw_X} {d : Nat} {Q : Option Value → aw_H → Prop} {I : Nat → Nat → Int32} {L : Nat → Nat → Int64} {D : Nat → Nat} {s1 : Int64}
    (h1 : aw_m X d y_M_isKey [.ref 69, .long s1] (aw_s I L D) (fun r A => aw_z X (d + 1) y_M_readStep Q 185 [some (.ref 69), none, none] (r.toList ++ []) A)) :
    aw_z X (d + 1) y_M_readStep Q 182 [some (.ref 69), none, none] [.long s1, .ref 69] (aw_s I L D) :=
  (z_callV (av := [.long s1]) (st := []) ok_M_isKey (Or.inl w_1798) w_1800 w_81 k_M d_M_readStep_182 rfl (aw_lt (o := 69) rfl) rfl rfl (Nat.le_of_ble_eq_true rfl) (Nat.le_refl _) (Nat.le_refl _) (h1))
theorem d_M_readStep_168 : decode y_M_readStep.2.1 168 = .ok (.ireturn, 1) := by decide +kernel
theorem b_M_readStep_168 {X : aw_X} {d : Nat} {Q : Option Value → aw_H → Prop} {I : Nat → Nat → Int32} {L : Nat → Nat → Int64} {D : Nat → Nat} {s0 : Int32}
    (h1 : (s0 = 0 ∨ s0 = 1))
    (h2 : Q (some (.int s0)) (aw_s I L D)) :
    aw_z X (d + 1) y_M_readStep Q 168 [none, none, none] [.int s0] (aw_s I L D) :=
  (z_iret d_M_readStep_168 rfl (aw_nz (h1)) (h2))
theorem d_M_readStep_125 : decode y_M_readStep.2.1 125 = .ok (.ifCond .ne (5), 3) := by decide +kernel
theorem d_M_readStep_130 : decode y_M_readStep.2.1 130 = .ok (.aload_n 0, 1) := by decide +kernel
theorem d_M_readStep_131 : decode y_M_readStep.2.1 131 = .ok (.bipush 15, 2) := by decide +kernel
theorem d_M_readStep_133 : decode y_M_readStep.2.1 133 = .ok (.iload_n 2, 1) := by decide +kernel
theorem s_M_readStep_130 : aw_VS y_M_readStep 130 [o_ald 0, o_c (.int (15 : Int32)), o_ild 2] 134 := .cons (v_aload_n (i := 0) d_M_readStep_130 rfl) (.cons (v_bipush (v := (15 : Int32)) d_M_readStep_131 (by decide +kernel)) (.cons (v_iload_n (i := 2) d_M_readStep_133 rfl) .nil))
theorem d_M_readStep_134 : decode y_M_readStep.2.1 134 = .ok (.invokevirtual 238, 3) := by decide +kernel
theorem b_M_readStep_125 {X : aw_X} {d : Nat} {Q : Option Value → aw_H → Prop} {I : Nat → Nat → Int32} {L : Nat → Nat → Int64} {D : Nat → Nat} {v2 : Int32} {s0 : Int32}
    (h1 : ¬ s0 = 0 → aw_m X d y_M_emit [.ref 69, .int (15 : Int32), .int v2] (aw_s I L D) (fun r A => aw_z X (d + 1) y_M_readStep Q 137 [some (.ref 69), none, none] (r.toList ++ []) A))
    (h2 : s0 = 0 → Q (some (.int (0 : Int32))) (aw_s I L D)) :
    aw_z X (d + 1) y_M_readStep Q 125 [some (.ref 69), none, some (.int v2)] [.int s0] (aw_s I L D) :=
  (z_if_ne (tgt := 130) d_M_readStep_125 rfl (fun q1 => (s_M_readStep_130.go [some (.ref 69), none, some (.int v2)] [.int v2, .int (15 : Int32), .ref 69] (aw_s I L D) rfl (z_callV (av := [.int (15 : Int32), .int v2]) (st := []) ok_M_emit (Or.inl w_1787) w_1789 w_79 k_M d_M_readStep_134 rfl (aw_lt (o := 69) rfl) rfl rfl (Nat.le_of_ble_eq_true rfl) (Nat.le_refl _) (Nat.le_refl _) (aw_C.mono (h1 q1) (fun _ _ zz => aw_Z.weak (ls' := [some (.ref 69), none, none]) zz (Nat.le_of_ble_eq_true rfl) ⟨Or.inr rfl, ⟨Or.inl rfl, ⟨Or.inl rfl, trivial⟩⟩⟩))))) (fun q2 => (s_M_readStep_128.go [some (.ref 69), none, some (.int v2)] [.int (0 : Int32)] (aw_s I L D) rfl (z_iret d_M_readStep_129 rfl (aw_nz (by decide +kernel)) (h2 q2)))))
theorem d_M_readStep_185 : decode y_M_readStep.2.1 185 = .ok (.ifCond .eq (8), 3) := by decide +kernel
theorem d_M_readStep_193 : decode y_M_readStep.2.1 193 = .ok (.aload_n 0, 1) := by decide +kernel
theorem d_M_readStep_194 : decode y_M_readStep.2.1 194 = .ok (.bipush 97, 2) := by decide +kernel
theorem d_M_readStep_196 : decode y_M_readStep.2.1 196 = .ok (.bipush 115, 2) := by decide +kernel
theorem d_M_readStep_198 : decode y_M_readStep.2.1 198 = .ok (.bipush 107, 2) := by decide +kernel
theorem d_M_readStep_200 : decode y_M_readStep.2.1 200 = .ok (.iconst 0, 1) := by decide +kernel
theorem d_M_readStep_201 : decode y_M_readStep.2.1 201 = .ok (.iconst 0, 1) := by decide +kernel
theorem s_M_readStep_193 : aw_VS y_M_readStep 193 [o_ald 0, o_c (.int (97 : Int32)), o_c (.int (115 : Int32)), o_c (.int (107 : Int32)), o_c (.int (0 : Int32)), o_c (.int (0 : Int32))] 202 := .cons (v_aload_n (i := 0) d_M_readStep_193 rfl) (.cons (v_bipush (v := (97 : Int32)) d_M_readStep_194 (by decide +kernel)) (.cons (v_bipush (v := (115 : Int32)) d_M_readStep_196 (by decide +kernel)) (.cons (v_bipush (v := (107 : Int32)) d_M_readStep_198 (by decide +kernel)) (.cons (v_iconst (v := (0 : Int32)) d_M_readStep_200 (by decide +kernel)) (.cons (v_iconst (v := (0 : Int32)) d_M_readStep_201 (by decide +kernel)) .nil)))))
theorem d_M_readStep_202 : decode y_M_readStep.2.1 202 = .ok (.invokestatic 244, 3) := by decide +kernel
theorem d_M_readStep_188 : decode y_M_readStep.2.1 188 = .ok (.aload_n 0, 1) := by decide +kernel
theorem s_M_readStep_188 : aw_VS y_M_readStep 188 [o_ald 0] 189 := .cons (v_aload_n (i := 0) d_M_readStep_188 rfl) .nil
theorem d_M_readStep_189 : decode y_M_readStep.2.1 189 = .ok (.invokevirtual 322, 3) := by decide +kernel
theorem b_M_readStep_185 {X : aw_X} {d : Nat} {Q : Option Value → aw_H → Prop} {I : Nat → Nat → Int32} {L : Nat → Nat → Int64} {D : Nat → Nat} {s0 : Int32}
    (h1 : s0 = 0 → aw_m X d y_M_spelt [.int (97 : Int32), .int (115 : Int32), .int (107 : Int32), .int (0 : Int32), .int (0 : Int32)] (aw_s I L D) (fun r A => aw_z X (d + 1) y_M_readStep Q 205 [some (.ref 69), none, none] (r.toList ++ [.ref 69]) A))
    (h2 : ¬ s0 = 0 → aw_m X d y_M_readCall [.ref 69] (aw_s I L D) (fun r A => aw_z X (d + 1) y_M_readStep Q 192 [none, none, none] (r.toList ++ []) A)) :
    aw_z X (d + 1) y_M_readStep Q 185 [some (.ref 69), none, none] [.int s0] (aw_s I L D) :=
  (z_if_eq (tgt := 193) d_M_readStep_185 rfl (fun q1 => (s_M_readStep_193.go [some (.ref 69), none, none] [.int (0 : Int32), .int (0 : Int32), .int (107 : Int32), .int (115 : Int32), .int (97 : Int32), .ref 69] (aw_s I L D) rfl (z_callS (av := [.int (97 : Int32), .int (115 : Int32), .int (107 : Int32), .int (0 : Int32), .int (0 : Int32)]) (st := [.ref 69]) ok_M_spelt (Or.inl w_1795) w_1796 d_M_readStep_202 rfl rfl (Nat.le_of_ble_eq_true rfl) (Nat.le_refl _) (Nat.le_refl _) (h1 q1)))) (fun q2 => (s_M_readStep_188.go [some (.ref 69), none, none] [.ref 69] (aw_s I L D) rfl (z_callV (av := []) (st := []) ok_M_readCall (Or.inl w_1888) w_1890 w_102 k_M d_M_readStep_189 rfl (aw_lt (o := 69) rfl) rfl rfl (Nat.le_of_ble_eq_true rfl) (Nat.le_refl _) (Nat.le_refl _) (aw_C.mono (h2 q2) (fun _ _ zz => aw_Z.weak (ls' := [none, none, none]) zz (Nat.le_of_ble_eq_true rfl) ⟨Or.inl rfl, ⟨Or.inl rfl, ⟨Or.inl rfl, trivial⟩⟩⟩))))))
theorem d_M_readStep_137 : decode y_M_readStep.2.1 137 = .ok (.pop, 1) := by decide +kernel
theorem d_M_readStep_138 : decode y_M_readStep.2.1 138 = .ok (.aload_n 0, 1) := by decide +kernel
theorem d_M_readStep_139 : decode y_M_readStep.2.1 139 = .ok (.bipush 59, 2) := by decide +kernel
theorem s_M_readStep_137 : aw_VS y_M_readStep 137 [o_pop, o_ald 0, o_c (.int (59 : Int32))] 141 := .cons (v_pop d_M_readStep_137) (.cons (v_aload_n (i := 0) d_M_readStep_138 rfl) (.cons (v_bipush (v := (59 : Int32)) d_M_readStep_139 (by decide +kernel)) .nil))
theorem d_M_readStep_141 : decode y_M_readStep.2.1 141 = .ok (.invokevirtual 316, 3) := by decide +kernel
theorem b_M_readStep_137 {X : aw_X} {d : Nat} {Q : Option Value → aw_H → Prop} {I : Nat → Nat → Int32} {L : Nat → Nat → Int64} {D : Nat → Nat} {s0 : Int32}
    (h1 : aw_m X d y_M_readSign [.ref 69, .int (59 : Int32)] (aw_s I L D) (fun r A => aw_z X (d + 1) y_M_readStep Q 144 [none, none, none] (r.toList ++ []) A)) :
    aw_z X (d + 1) y_M_readStep Q 137 [some (.ref 69), none, none] [.int s0] (aw_s I L D) :=
  (s_M_readStep_137.go [some (.ref 69), none, none] [.int (59 : Int32), .ref 69] (aw_s I L D) rfl (z_callV (av := [.int (59 : Int32)]) (st := []) ok_M_readSign (Or.inl w_1880) w_1882 w_100 k_M d_M_readStep_141 rfl (aw_lt (o := 69) rfl) rfl rfl (Nat.le_of_ble_eq_true rfl) (Nat.le_refl _) (Nat.le_refl _) (aw_C.mono (h1) (fun _ _ zz => aw_Z.weak (ls' := [none, none, none]) zz (Nat.le_of_ble_eq_true rfl) ⟨Or.inl rfl, ⟨Or.inl rfl, ⟨Or.inl rfl, trivial⟩⟩⟩))))
theorem d_M_readStep_205 : decode y_M_readStep.2.1 205 = .ok (.invokevirtual 248, 3) := by decide +kernel
theorem b_M_readStep_205 {X : aw_X} {d : Nat} {Q : Option Value → aw_H → Prop} {I : Nat → Nat → Int32} {L : Nat → Nat → Int64} {D : Nat → Nat} {s1 : Int64}
    (h1 : aw_m X d y_M_isKey [.ref 69, .long s1] (aw_s I L D) (fun r A => aw_z X (d + 1) y_M_readStep Q 208 [some (.ref 69), none, none] (r.toList ++ []) A)) :
    aw_z X (d + 1) y_M_readStep Q 205 [some (.ref 69), none, none] [.long s1, .ref 69] (aw_s I L D) :=
  (z_callV (av := [.long s1]) (st := []) ok_M_isKey (Or.inl w_1798) w_1800 w_81 k_M d_M_readStep_205 rfl (aw_lt (o := 69) rfl) rfl rfl (Nat.le_of_ble_eq_true rfl) (Nat.le_refl _) (Nat.le_refl _) (h1))
theorem d_M_readStep_192 : decode y_M_readStep.2.1 192 = .ok (.ireturn, 1) := by decide +kernel
theorem b_M_readStep_192 {X : aw_X} {d : Nat} {Q : Option Value → aw_H → Prop} {I : Nat → Nat → Int32} {L : Nat → Nat → Int64} {D : Nat → Nat} {s0 : Int32}
    (h1 : (s0 = 0 ∨ s0 = 1))
    (h2 : Q (some (.int s0)) (aw_s I L D)) :
    aw_z X (d + 1) y_M_readStep Q 192 [none, none, none] [.int s0] (aw_s I L D) :=
  (z_iret d_M_readStep_192 rfl (aw_nz (h1)) (h2))
theorem d_M_readStep_144 : decode y_M_readStep.2.1 144 = .ok (.ireturn, 1) := by decide +kernel
theorem b_M_readStep_144 {X : aw_X} {d : Nat} {Q : Option Value → aw_H → Prop} {I : Nat → Nat → Int32} {L : Nat → Nat → Int64} {D : Nat → Nat} {s0 : Int32}
    (h1 : (s0 = 0 ∨ s0 = 1))
    (h2 : Q (some (.int s0)) (aw_s I L D)) :
    aw_z X (d + 1) y_M_readStep Q 144 [none, none, none] [.int s0] (aw_s I L D) :=
  (z_iret d_M_readStep_144 rfl (aw_nz (h1)) (h2))
theorem d_M_readStep_208 : decode y_M_readStep.2.1 208 = .ok (.ifCond .eq (45), 3) := by decide +kernel
theorem d_M_readStep_253 : decode y_M_readStep.2.1 253 = .ok (.aload_n 0, 1) := by decide +kernel
theorem d_M_readStep_254 : decode y_M_readStep.2.1 254 = .ok (.bipush 101, 2) := by decide +kernel
theorem d_M_readStep_256 : decode y_M_readStep.2.1 256 = .ok (.bipush 110, 2) := by decide +kernel
theorem d_M_readStep_258 : decode y_M_readStep.2.1 258 = .ok (.bipush 100, 2) := by decide +kernel
theorem d_M_readStep_260 : decode y_M_readStep.2.1 260 = .ok (.iconst 0, 1) := by decide +kernel
theorem d_M_readStep_261 : decode y_M_readStep.2.1 261 = .ok (.iconst 0, 1) := by decide +kernel
theorem s_M_readStep_253 : aw_VS y_M_readStep 253 [o_ald 0, o_c (.int (101 : Int32)), o_c (.int (110 : Int32)), o_c (.int (100 : Int32)), o_c (.int (0 : Int32)), o_c (.int (0 : Int32))] 262 := .cons (v_aload_n (i := 0) d_M_readStep_253 rfl) (.cons (v_bipush (v := (101 : Int32)) d_M_readStep_254 (by decide +kernel)) (.cons (v_bipush (v := (110 : Int32)) d_M_readStep_256 (by decide +kernel)) (.cons (v_bipush (v := (100 : Int32)) d_M_readStep_258 (by decide +kernel)) (.cons (v_iconst (v := (0 : Int32)) d_M_readStep_260 (by decide +kernel)) (.cons (v_iconst (v := (0 : Int32)) d_M_readStep_261 (by decide +kernel)) .nil)))))
theorem d_M_readStep_262 : decode y_M_readStep.2.1 262 = .ok (.invokestatic 244, 3) := by decide +kernel
theorem d_M_readStep_211 : decode y_M_readStep.2.1 211 = .ok (.aload_n 0, 1) := by decide +kernel
theorem s_M_readStep_211 : aw_VS y_M_readStep 211 [o_ald 0] 212 := .cons (v_aload_n (i := 0) d_M_readStep_211 rfl) .nil
theorem d_M_readStep_212 : decode y_M_readStep.2.1 212 = .ok (.invokevirtual 222, 3) := by decide +kernel
theorem b_M_readStep_208 {X : aw_X} {d : Nat} {Q : Option Value → aw_H → Prop} {I : Nat → Nat → Int32} {L : Nat → Nat → Int64} {D : Nat → Nat} {s0 : Int32}
    (h1 : s0 = 0 → aw_m X d y_M_spelt [.int (101 : Int32), .int (110 : Int32), .int (100 : Int32), .int (0 : Int32), .int (0 : Int32)] (aw_s I L D) (fun r A => aw_z X (d + 1) y_M_readStep Q 265 [some (.ref 69), none, none] (r.toList ++ [.ref 69]) A))
    (h2 : ¬ s0 = 0 → aw_m X d y_M_go [.ref 69] (aw_s I L D) (fun r A => aw_z X (d + 1) y_M_readStep Q 215 [some (.ref 69), none, none] (r.toList ++ []) A)) :
    aw_z X (d + 1) y_M_readStep Q 208 [some (.ref 69), none, none] [.int s0] (aw_s I L D) :=
  (z_if_eq (tgt := 253) d_M_readStep_208 rfl (fun q1 => (s_M_readStep_253.go [some (.ref 69), none, none] [.int (0 : Int32), .int (0 : Int32), .int (100 : Int32), .int (110 : Int32), .int (101 : Int32), .ref 69] (aw_s I L D) rfl (z_callS (av := [.int (101 : Int32), .int (110 : Int32), .int (100 : Int32), .int (0 : Int32), .int (0 : Int32)]) (st := [.ref 69]) ok_M_spelt (Or.inl w_1795) w_1796 d_M_readStep_262 rfl rfl (Nat.le_of_ble_eq_true rfl) (Nat.le_refl _) (Nat.le_refl _) (h1 q1)))) (fun q2 => (s_M_readStep_211.go [some (.ref 69), none, none] [.ref 69] (aw_s I L D) rfl (z_callV (av := []) (st := []) ok_M_go (Or.inl w_1760) w_1762 w_75 k_M d_M_readStep_212 rfl (aw_lt (o := 69) rfl) rfl rfl (Nat.le_of_ble_eq_true rfl) (Nat.le_refl _) (Nat.le_refl _) (h2 q2)))))
theorem d_M_readStep_265 : decode y_M_readStep.2.1 265 = .ok (.invokevirtual 248, 3) := by decide +kernel
theorem b_M_readStep_265 {X : aw_X} {d : Nat} {Q : Option Value → aw_H → Prop} {I : Nat → Nat → Int32} {L : Nat → Nat → Int64} {D : Nat → Nat} {s1 : Int64}
    (h1 : aw_m X d y_M_isKey [.ref 69, .long s1] (aw_s I L D) (fun r A => aw_z X (d + 1) y_M_readStep Q 268 [some (.ref 69), none, none] (r.toList ++ []) A)) :
    aw_z X (d + 1) y_M_readStep Q 265 [some (.ref 69), none, none] [.long s1, .ref 69] (aw_s I L D) :=
  (z_callV (av := [.long s1]) (st := []) ok_M_isKey (Or.inl w_1798) w_1800 w_81 k_M d_M_readStep_265 rfl (aw_lt (o := 69) rfl) rfl rfl (Nat.le_of_ble_eq_true rfl) (Nat.le_refl _) (Nat.le_refl _) (h1))
theorem d_M_readStep_215 : decode y_M_readStep.2.1 215 = .ok (.aload_n 0, 1) := by decide +kernel
theorem s_M_readStep_215 : aw_VS y_M_readStep 215 [o_ald 0] 216 := .cons (v_aload_n (i := 0) d_M_readStep_215 rfl) .nil
theorem d_M_readStep_216 : decode y_M_readStep.2.1 216 = .ok (.invokevirtual 252, 3) := by decide +kernel
theorem b_M_readStep_215 {X : aw_X} {d : Nat} {Q : Option Value → aw_H → Prop} {I : Nat → Nat → Int32} {L : Nat → Nat → Int64} {D : Nat → Nat} 
    (h1 : aw_m X d y_M_isName [.ref 69] (aw_s I L D) (fun r A => aw_z X (d + 1) y_M_readStep Q 219 [some (.ref 69), none, none] (r.toList ++ []) A)) :
    aw_z X (d + 1) y_M_readStep Q 215 [some (.ref 69), none, none] [] (aw_s I L D) :=
  (s_M_readStep_215.go [some (.ref 69), none, none] [.ref 69] (aw_s I L D) rfl (z_callV (av := []) (st := []) ok_M_isName (Or.inl w_1828) w_1830 w_88 k_M d_M_readStep_216 rfl (aw_lt (o := 69) rfl) rfl rfl (Nat.le_of_ble_eq_true rfl) (Nat.le_refl _) (Nat.le_refl _) (h1)))
theorem d_M_readStep_268 : decode y_M_readStep.2.1 268 = .ok (.ifCond .eq (22), 3) := by decide +kernel
theorem d_M_readStep_290 : decode y_M_readStep.2.1 290 = .ok (.aload_n 0, 1) := by decide +kernel
theorem d_M_readStep_291 : decode y_M_readStep.2.1 291 = .ok (.bipush 109, 2) := by decide +kernel
theorem d_M_readStep_293 : decode y_M_readStep.2.1 293 = .ok (.bipush 117, 2) := by decide +kernel
theorem d_M_readStep_295 : decode y_M_readStep.2.1 295 = .ok (.bipush 115, 2) := by decide +kernel
theorem d_M_readStep_297 : decode y_M_readStep.2.1 297 = .ok (.bipush 116, 2) := by decide +kernel
theorem d_M_readStep_299 : decode y_M_readStep.2.1 299 = .ok (.iconst 0, 1) := by decide +kernel
theorem s_M_readStep_290 : aw_VS y_M_readStep 290 [o_ald 0, o_c (.int (109 : Int32)), o_c (.int (117 : Int32)), o_c (.int (115 : Int32)), o_c (.int (116 : Int32)), o_c (.int (0 : Int32))] 300 := .cons (v_aload_n (i := 0) d_M_readStep_290 rfl) (.cons (v_bipush (v := (109 : Int32)) d_M_readStep_291 (by decide +kernel)) (.cons (v_bipush (v := (117 : Int32)) d_M_readStep_293 (by decide +kernel)) (.cons (v_bipush (v := (115 : Int32)) d_M_readStep_295 (by decide +kernel)) (.cons (v_bipush (v := (116 : Int32)) d_M_readStep_297 (by decide +kernel)) (.cons (v_iconst (v := (0 : Int32)) d_M_readStep_299 (by decide +kernel)) .nil)))))
theorem d_M_readStep_300 : decode y_M_readStep.2.1 300 = .ok (.invokestatic 244, 3) := by decide +kernel
theorem d_M_readStep_271 : decode y_M_readStep.2.1 271 = .ok (.aload_n 0, 1) := by decide +kernel
theorem d_M_readStep_272 : decode y_M_readStep.2.1 272 = .ok (.bipush 20, 2) := by decide +kernel
theorem d_M_readStep_274 : decode y_M_readStep.2.1 274 = .ok (.iconst 0, 1) := by decide +kernel
theorem s_M_readStep_271 : aw_VS y_M_readStep 271 [o_ald 0, o_c (.int (20 : Int32)), o_c (.int (0 : Int32))] 275 := .cons (v_aload_n (i := 0) d_M_readStep_271 rfl) (.cons (v_bipush (v := (20 : Int32)) d_M_readStep_272 (by decide +kernel)) (.cons (v_iconst (v := (0 : Int32)) d_M_readStep_274 (by decide +kernel)) .nil))
theorem d_M_readStep_275 : decode y_M_readStep.2.1 275 = .ok (.invokevirtual 238, 3) := by decide +kernel
theorem b_M_readStep_268 {X : aw_X} {d : Nat} {Q : Option Value → aw_H → Prop} {I : Nat → Nat → Int32} {L : Nat → Nat → Int64} {D : Nat → Nat} {s0 : Int32}
    (h1 : s0 = 0 → aw_m X d y_M_spelt [.int (109 : Int32), .int (117 : Int32), .int (115 : Int32), .int (116 : Int32), .int (0 : Int32)] (aw_s I L D) (fun r A => aw_z X (d + 1) y_M_readStep Q 303 [some (.ref 69), none, none] (r.toList ++ [.ref 69]) A))
    (h2 : ¬ s0 = 0 → aw_m X d y_M_emit [.ref 69, .int (20 : Int32), .int (0 : Int32)] (aw_s I L D) (fun r A => aw_z X (d + 1) y_M_readStep Q 278 [some (.ref 69), none, none] (r.toList ++ []) A)) :
    aw_z X (d + 1) y_M_readStep Q 268 [some (.ref 69), none, none] [.int s0] (aw_s I L D) :=
  (z_if_eq (tgt := 290) d_M_readStep_268 rfl (fun q1 => (s_M_readStep_290.go [some (.ref 69), none, none] [.int (0 : Int32), .int (116 : Int32), .int (115 : Int32), .int (117 : Int32), .int (109 : Int32), .ref 69] (aw_s I L D) rfl (z_callS (av := [.int (109 : Int32), .int (117 : Int32), .int (115 : Int32), .int (116 : Int32), .int (0 : Int32)]) (st := [.ref 69]) ok_M_spelt (Or.inl w_1795) w_1796 d_M_readStep_300 rfl rfl (Nat.le_of_ble_eq_true rfl) (Nat.le_refl _) (Nat.le_refl _) (h1 q1)))) (fun q2 => (s_M_readStep_271.go [some (.ref 69), none, none] [.int (0 : Int32), .int (20 : Int32), .ref 69] (aw_s I L D) rfl (z_callV (av := [.int (20 : Int32), .int (0 : Int32)]) (st := []) ok_M_emit (Or.inl w_1787) w_1789 w_79 k_M d_M_readStep_275 rfl (aw_lt (o := 69) rfl) rfl rfl (Nat.le_of_ble_eq_true rfl) (Nat.le_refl _) (Nat.le_refl _) (h2 q2)))))
theorem d_M_readStep_219 : decode y_M_readStep.2.1 219 = .ok (.ifCond .ne (9), 3) := by decide +kernel
theorem d_M_readStep_228 : decode y_M_readStep.2.1 228 = .ok (.aload_n 0, 1) := by decide +kernel
theorem d_M_readStep_229 : decode y_M_readStep.2.1 229 = .ok (.bipush 19, 2) := by decide +kernel
theorem d_M_readStep_231 : decode y_M_readStep.2.1 231 = .ok (.aload_n 0, 1) := by decide +kernel
theorem d_M_readStep_232 : decode y_M_readStep.2.1 232 = .ok (.getfield 195, 3) := by decide +kernel
theorem d_M_readStep_235 : decode y_M_readStep.2.1 235 = .ok (.l2i, 1) := by decide +kernel
theorem d_M_readStep_236 : decode y_M_readStep.2.1 236 = .ok (.iconst 1, 1) := by decide +kernel
theorem d_M_readStep_237 : decode y_M_readStep.2.1 237 = .ok (.isub, 1) := by decide +kernel
theorem s_M_readStep_228 : aw_VS y_M_readStep 228 [o_ald 0, o_c (.int (19 : Int32)), o_ald 0, o_getJ 9 11, o_li (fun x => x.toInt32), o_c (.int (1 : Int32)), o_i2 (fun x z => x - z)] 238 := .cons (v_aload_n (i := 0) d_M_readStep_228 rfl) (.cons (v_bipush (v := (19 : Int32)) d_M_readStep_229 (by decide +kernel)) (.cons (v_aload_n (i := 0) d_M_readStep_231 rfl) (.cons (v_getJ (k := 11) k_M (by decide) rfl (Or.inl w_1472) d_M_readStep_232) (.cons (v_l2i d_M_readStep_235) (.cons (v_iconst (v := (1 : Int32)) d_M_readStep_236 (by decide +kernel)) (.cons (v_isub d_M_readStep_237) .nil))))))
theorem d_M_readStep_238 : decode y_M_readStep.2.1 238 = .ok (.invokevirtual 238, 3) := by decide +kernel
theorem d_M_readStep_222 : decode y_M_readStep.2.1 222 = .ok (.aload_n 0, 1) := by decide +kernel
theorem d_M_readStep_223 : decode y_M_readStep.2.1 223 = .ok (.iconst 1, 1) := by decide +kernel
theorem s_M_readStep_222 : aw_VS y_M_readStep 222 [o_ald 0, o_c (.int (1 : Int32))] 224 := .cons (v_aload_n (i := 0) d_M_readStep_222 rfl) (.cons (v_iconst (v := (1 : Int32)) d_M_readStep_223 (by decide +kernel)) .nil)
theorem d_M_readStep_224 : decode y_M_readStep.2.1 224 = .ok (.invokevirtual 219, 3) := by decide +kernel
theorem b_M_readStep_219 {X : aw_X} {d : Nat} {Q : Option Value → aw_H → Prop} {I : Nat → Nat → Int32} {L : Nat → Nat → Int64} {D : Nat → Nat} {s0 : Int32}
    (h1 : ¬ s0 = 0 → aw_m X d y_M_emit [.ref 69, .int (19 : Int32), .int (((L 69 11).toInt32) - (1 : Int32))] (aw_s I L D) (fun r A => aw_z X (d + 1) y_M_readStep Q 241 [some (.ref 69), none, none] (r.toList ++ []) A))
    (h2 : s0 = 0 → aw_m X d y_M_bad [.ref 69, .int (1 : Int32)] (aw_s I L D) (fun r A => aw_z X (d + 1) y_M_readStep Q 227 [none, none, none] (r.toList ++ []) A)) :
    aw_z X (d + 1) y_M_readStep Q 219 [some (.ref 69), none, none] [.int s0] (aw_s I L D) :=
  (z_if_ne (tgt := 228) d_M_readStep_219 rfl (fun q1 => (s_M_readStep_228.go [some (.ref 69), none, none] [.int (((L 69 11).toInt32) - (1 : Int32)), .int (19 : Int32), .ref 69] (aw_s I L D) rfl (z_callV (av := [.int (19 : Int32), .int (((L 69 11).toInt32) - (1 : Int32))]) (st := []) ok_M_emit (Or.inl w_1787) w_1789 w_79 k_M d_M_readStep_238 rfl (aw_lt (o := 69) rfl) rfl rfl (Nat.le_of_ble_eq_true rfl) (Nat.le_refl _) (Nat.le_refl _) (h1 q1)))) (fun q2 => (s_M_readStep_222.go [some (.ref 69), none, none] [.int (1 : Int32), .ref 69] (aw_s I L D) rfl (z_callV (av := [.int (1 : Int32)]) (st := []) ok_M_bad (Or.inl w_1806) w_1808 w_83 k_M d_M_readStep_224 rfl (aw_lt (o := 69) rfl) rfl rfl (Nat.le_of_ble_eq_true rfl) (Nat.le_refl _) (Nat.le_refl _) (aw_C.mono (h2 q2) (fun _ _ zz => aw_Z.weak (ls' := [none, none, none]) zz (Nat.le_of_ble_eq_true rfl) ⟨Or.inl rfl, ⟨Or.inl rfl, ⟨Or.inl rfl, trivial⟩⟩⟩))))))
theorem d_M_readStep_303 : decode y_M_readStep.2.1 303 = .ok (.invokevirtual 248, 3) := by decide +kernel
theorem b_M_readStep_303 {X : aw_X} {d : Nat} {Q : Option Value → aw_H → Prop} {I : Nat → Nat → Int32} {L : Nat → Nat → Int64} {D : Nat → Nat} {s1 : Int64}
    (h1 : aw_m X d y_M_isKey [.ref 69, .long s1] (aw_s I L D) (fun r A => aw_z X (d + 1) y_M_readStep Q 306 [some (.ref 69), none, none] (r.toList ++ []) A)) :
    aw_z X (d + 1) y_M_readStep Q 303 [some (.ref 69), none, none] [.long s1, .ref 69] (aw_s I L D) :=
  (z_callV (av := [.long s1]) (st := []) ok_M_isKey (Or.inl w_1798) w_1800 w_81 k_M d_M_readStep_303 rfl (aw_lt (o := 69) rfl) rfl rfl (Nat.le_of_ble_eq_true rfl) (Nat.le_refl _) (Nat.le_refl _) (h1))
theorem d_M_readStep_278 : decode y_M_readStep.2.1 278 = .ok (.pop, 1) := by decide +kernel
theorem d_M_readStep_279 : decode y_M_readStep.2.1 279 = .ok (.aload_n 0, 1) := by decide +kernel
theorem s_M_readStep_278 : aw_VS y_M_readStep 278 [o_pop, o_ald 0] 280 := .cons (v_pop d_M_readStep_278) (.cons (v_aload_n (i := 0) d_M_readStep_279 rfl) .nil)
theorem d_M_readStep_280 : decode y_M_readStep.2.1 280 = .ok (.invokevirtual 222, 3) := by decide +kernel
theorem b_M_readStep_278 {X : aw_X} {d : Nat} {Q : Option Value → aw_H → Prop} {I : Nat → Nat → Int32} {L : Nat → Nat → Int64} {D : Nat → Nat} {s0 : Int32}
    (h1 : aw_m X d y_M_go [.ref 69] (aw_s I L D) (fun r A => aw_z X (d + 1) y_M_readStep Q 283 [some (.ref 69), none, none] (r.toList ++ []) A)) :
    aw_z X (d + 1) y_M_readStep Q 278 [some (.ref 69), none, none] [.int s0] (aw_s I L D) :=
  (s_M_readStep_278.go [some (.ref 69), none, none] [.ref 69] (aw_s I L D) rfl (z_callV (av := []) (st := []) ok_M_go (Or.inl w_1760) w_1762 w_75 k_M d_M_readStep_280 rfl (aw_lt (o := 69) rfl) rfl rfl (Nat.le_of_ble_eq_true rfl) (Nat.le_refl _) (Nat.le_refl _) (h1)))
theorem d_M_readStep_241 : decode y_M_readStep.2.1 241 = .ok (.pop, 1) := by decide +kernel
theorem d_M_readStep_242 : decode y_M_readStep.2.1 242 = .ok (.aload_n 0, 1) := by decide +kernel
theorem s_M_readStep_241 : aw_VS y_M_readStep 241 [o_pop, o_ald 0] 243 := .cons (v_pop d_M_readStep_241) (.cons (v_aload_n (i := 0) d_M_readStep_242 rfl) .nil)
theorem d_M_readStep_243 : decode y_M_readStep.2.1 243 = .ok (.invokevirtual 222, 3) := by decide +kernel
theorem b_M_readStep_241 {X : aw_X} {d : Nat} {Q : Option Value → aw_H → Prop} {I : Nat → Nat → Int32} {L : Nat → Nat → Int64} {D : Nat → Nat} {s0 : Int32}
    (h1 : aw_m X d y_M_go [.ref 69] (aw_s I L D) (fun r A => aw_z X (d + 1) y_M_readStep Q 246 [some (.ref 69), none, none] (r.toList ++ []) A)) :
    aw_z X (d + 1) y_M_readStep Q 241 [some (.ref 69), none, none] [.int s0] (aw_s I L D) :=
  (s_M_readStep_241.go [some (.ref 69), none, none] [.ref 69] (aw_s I L D) rfl (z_callV (av := []) (st := []) ok_M_go (Or.inl w_1760) w_1762 w_75 k_M d_M_readStep_243 rfl (aw_lt (o := 69) rfl) rfl rfl (Nat.le_of_ble_eq_true rfl) (Nat.le_refl _) (Nat.le_refl _) (h1)))
theorem d_M_readStep_227 : decode y_M_readStep.2.1 227 = .ok (.ireturn, 1) := by decide +kernel
theorem b_M_readStep_227 {X : aw_X} {d : Nat} {Q : Option Value → aw_H → Prop} {I : Nat → Nat → Int32} {L : Nat → Nat → Int64} {D : Nat → Nat} {s0 : Int32}
    (h1 : (s0 = 0 ∨ s0 = 1))
    (h2 : Q (some (.int s0)) (aw_s I L D)) :
    aw_z X (d + 1) y_M_readStep Q 227 [none, none, none] [.int s0] (aw_s I L D) :=
  (z_iret d_M_readStep_227 rfl (aw_nz (h1)) (h2))
theorem d_M_readStep_306 : decode y_M_readStep.2.1 306 = .ok (.istore_n 2, 1) := by decide +kernel
theorem d_M_readStep_307 : decode y_M_readStep.2.1 307 = .ok (.aload_n 0, 1) := by decide +kernel
theorem s_M_readStep_306 : aw_VS y_M_readStep 306 [o_ist 2, o_ald 0] 308 := .cons (v_istore_n d_M_readStep_306) (.cons (v_aload_n (i := 0) d_M_readStep_307 rfl) .nil)
theorem d_M_readStep_308 : decode y_M_readStep.2.1 308 = .ok (.invokevirtual 222, 3) := by decide +kernel
theorem b_M_readStep_306 {X : aw_X} {d : Nat} {Q : Option Value → aw_H → Prop} {I : Nat → Nat → Int32} {L : Nat → Nat → Int64} {D : Nat → Nat} {s0 : Int32}
    (h1 : aw_m X d y_M_go [.ref 69] (aw_s I L D) (fun r A => aw_z X (d + 1) y_M_readStep Q 311 [some (.ref 69), none, some (.int s0)] (r.toList ++ []) A)) :
    aw_z X (d + 1) y_M_readStep Q 306 [some (.ref 69), none, none] [.int s0] (aw_s I L D) :=
  (s_M_readStep_306.go [some (.ref 69), none, some (.int s0)] [.ref 69] (aw_s I L D) rfl (z_callV (av := []) (st := []) ok_M_go (Or.inl w_1760) w_1762 w_75 k_M d_M_readStep_308 rfl (aw_lt (o := 69) rfl) rfl rfl (Nat.le_of_ble_eq_true rfl) (Nat.le_refl _) (Nat.le_refl _) (h1)))
theorem d_M_readStep_283 : decode y_M_readStep.2.1 283 = .ok (.aload_n 0, 1) := by decide +kernel
theorem d_M_readStep_284 : decode y_M_readStep.2.1 284 = .ok (.bipush 59, 2) := by decide +kernel
theorem s_M_readStep_283 : aw_VS y_M_readStep 283 [o_ald 0, o_c (.int (59 : Int32))] 286 := .cons (v_aload_n (i := 0) d_M_readStep_283 rfl) (.cons (v_bipush (v := (59 : Int32)) d_M_readStep_284 (by decide +kernel)) .nil)
theorem d_M_readStep_286 : decode y_M_readStep.2.1 286 = .ok (.invokevirtual 316, 3) := by decide +kernel
theorem b_M_readStep_283 {X : aw_X} {d : Nat} {Q : Option Value → aw_H → Prop} {I : Nat → Nat → Int32} {L : Nat → Nat → Int64} {D : Nat → Nat} 
    (h1 : aw_m X d y_M_readSign [.ref 69, .int (59 : Int32)] (aw_s I L D) (fun r A => aw_z X (d + 1) y_M_readStep Q 289 [none, none, none] (r.toList ++ []) A)) :
    aw_z X (d + 1) y_M_readStep Q 283 [some (.ref 69), none, none] [] (aw_s I L D) :=
  (s_M_readStep_283.go [some (.ref 69), none, none] [.int (59 : Int32), .ref 69] (aw_s I L D) rfl (z_callV (av := [.int (59 : Int32)]) (st := []) ok_M_readSign (Or.inl w_1880) w_1882 w_100 k_M d_M_readStep_286 rfl (aw_lt (o := 69) rfl) rfl rfl (Nat.le_of_ble_eq_true rfl) (Nat.le_refl _) (Nat.le_refl _) (aw_C.mono (h1) (fun _ _ zz => aw_Z.weak (ls' := [none, none, none]) zz (Nat.le_of_ble_eq_true rfl) ⟨Or.inl rfl, ⟨Or.inl rfl, ⟨Or.inl rfl, trivial⟩⟩⟩))))
theorem d_M_readStep_246 : decode y_M_readStep.2.1 246 = .ok (.aload_n 0, 1) := by decide +kernel
theorem d_M_readStep_247 : decode y_M_readStep.2.1 247 = .ok (.bipush 59, 2) := by decide +kernel
theorem s_M_readStep_246 : aw_VS y_M_readStep 246 [o_ald 0, o_c (.int (59 : Int32))] 249 := .cons (v_aload_n (i := 0) d_M_readStep_246 rfl) (.cons (v_bipush (v := (59 : Int32)) d_M_readStep_247 (by decide +kernel)) .nil)
theorem d_M_readStep_249 : decode y_M_readStep.2.1 249 = .ok (.invokevirtual 316, 3) := by decide +kernel
theorem b_M_readStep_246 {X : aw_X} {d : Nat} {Q : Option Value → aw_H → Prop} {I : Nat → Nat → Int32} {L : Nat → Nat → Int64} {D : Nat → Nat} 
    (h1 : aw_m X d y_M_readSign [.ref 69, .int (59 : Int32)] (aw_s I L D) (fun r A => aw_z X (d + 1) y_M_readStep Q 252 [none, none, none] (r.toList ++ []) A)) :
    aw_z X (d + 1) y_M_readStep Q 246 [some (.ref 69), none, none] [] (aw_s I L D) :=
  (s_M_readStep_246.go [some (.ref 69), none, none] [.int (59 : Int32), .ref 69] (aw_s I L D) rfl (z_callV (av := [.int (59 : Int32)]) (st := []) ok_M_readSign (Or.inl w_1880) w_1882 w_100 k_M d_M_readStep_249 rfl (aw_lt (o := 69) rfl) rfl rfl (Nat.le_of_ble_eq_true rfl) (Nat.le_refl _) (Nat.le_refl _) (aw_C.mono (h1) (fun _ _ zz => aw_Z.weak (ls' := [none, none, none]) zz (Nat.le_of_ble_eq_true rfl) ⟨Or.inl rfl, ⟨Or.inl rfl, ⟨Or.inl rfl, trivial⟩⟩⟩))))
theorem d_M_readStep_311 : decode y_M_readStep.2.1 311 = .ok (.aload_n 0, 1) := by decide +kernel
theorem s_M_readStep_311 : aw_VS y_M_readStep 311 [o_ald 0] 312 := .cons (v_aload_n (i := 0) d_M_readStep_311 rfl) .nil
theorem d_M_readStep_312 : decode y_M_readStep.2.1 312 = .ok (.invokevirtual 325, 3) := by decide +kernel
theorem b_M_readStep_311 {X : aw_X} {d : Nat} {Q : Option Value → aw_H → Prop} {I : Nat → Nat → Int32} {L : Nat → Nat → Int64} {D : Nat → Nat} {v2 : Int32}
    (h1 : aw_m X d y_M_readCond [.ref 69] (aw_s I L D) (fun r A => aw_z X (d + 1) y_M_readStep Q 315 [some (.ref 69), none, some (.int v2)] (r.toList ++ []) A)) :
    aw_z X (d + 1) y_M_readStep Q 311 [some (.ref 69), none, some (.int v2)] [] (aw_s I L D) :=
  (s_M_readStep_311.go [some (.ref 69), none, some (.int v2)] [.ref 69] (aw_s I L D) rfl (z_callV (av := []) (st := []) ok_M_readCond (Or.inl w_1845) w_1847 w_92 k_M d_M_readStep_312 rfl (aw_lt (o := 69) rfl) rfl rfl (Nat.le_of_ble_eq_true rfl) (Nat.le_refl _) (Nat.le_refl _) (h1)))
theorem d_M_readStep_289 : decode y_M_readStep.2.1 289 = .ok (.ireturn, 1) := by decide +kernel
theorem b_M_readStep_289 {X : aw_X} {d : Nat} {Q : Option Value → aw_H → Prop} {I : Nat → Nat → Int32} {L : Nat → Nat → Int64} {D : Nat → Nat} {s0 : Int32}
    (h1 : (s0 = 0 ∨ s0 = 1))
    (h2 : Q (some (.int s0)) (aw_s I L D)) :
    aw_z X (d + 1) y_M_readStep Q 289 [none, none, none] [.int s0] (aw_s I L D) :=
  (z_iret d_M_readStep_289 rfl (aw_nz (h1)) (h2))
theorem d_M_readStep_252 : decode y_M_readStep.2.1 252 = .ok (.ireturn, 1) := by decide +kernel
theorem b_M_readStep_252 {X : aw_X} {d : Nat} {Q : Option Value → aw_H → Prop} {I : Nat → Nat → Int32} {L : Nat → Nat → Int64} {D : Nat → Nat} {s0 : Int32}
    (h1 : (s0 = 0 ∨ s0 = 1))
    (h2 : Q (some (.int s0)) (aw_s I L D)) :
    aw_z X (d + 1) y_M_readStep Q 252 [none, none, none] [.int s0] (aw_s I L D) :=
  (z_iret d_M_readStep_252 rfl (aw_nz (h1)) (h2))
theorem d_M_readStep_315 : decode y_M_readStep.2.1 315 = .ok (.ifCond .ne (5), 3) := by decide +kernel
theorem d_M_readStep_320 : decode y_M_readStep.2.1 320 = .ok (.aload_n 0, 1) := by decide +kernel
theorem d_M_readStep_321 : decode y_M_readStep.2.1 321 = .ok (.iload_n 2, 1) := by decide +kernel
theorem s_M_readStep_320 : aw_VS y_M_readStep 320 [o_ald 0, o_ild 2] 322 := .cons (v_aload_n (i := 0) d_M_readStep_320 rfl) (.cons (v_iload_n (i := 2) d_M_readStep_321 rfl) .nil)
theorem d_M_readStep_322 : decode y_M_readStep.2.1 322 = .ok (.ifCond .eq (8), 3) := by decide +kernel
theorem d_M_readStep_330 : decode y_M_readStep.2.1 330 = .ok (.bipush 18, 2) := by decide +kernel
theorem s_M_readStep_330 : aw_VS y_M_readStep 330 [o_c (.int (18 : Int32))] 332 := .cons (v_bipush (v := (18 : Int32)) d_M_readStep_330 (by decide +kernel)) .nil
theorem d_M_readStep_325 : decode y_M_readStep.2.1 325 = .ok (.bipush 17, 2) := by decide +kernel
theorem s_M_readStep_325 : aw_VS y_M_readStep 325 [o_c (.int (17 : Int32))] 327 := .cons (v_bipush (v := (17 : Int32)) d_M_readStep_325 (by decide +kernel)) .nil
theorem d_M_readStep_327 : decode y_M_readStep.2.1 327 = .ok (.goto (5), 3) := by decide +kernel
theorem d_M_readStep_318 : decode y_M_readStep.2.1 318 = .ok (.iconst 0, 1) := by decide +kernel
theorem s_M_readStep_318 : aw_VS y_M_readStep 318 [o_c (.int (0 : Int32))] 319 := .cons (v_iconst (v := (0 : Int32)) d_M_readStep_318 (by decide +kernel)) .nil
theorem d_M_readStep_319 : decode y_M_readStep.2.1 319 = .ok (.ireturn, 1) := by decide +kernel
theorem b_M_readStep_315 {X : aw_X} {d : Nat} {Q : Option Value → aw_H → Prop} {I : Nat → Nat → Int32} {L : Nat → Nat → Int64} {D : Nat → Nat} {v2 : Int32} {s0 : Int32}
    (h1 : ¬ s0 = 0 → v2 = 0 → aw_z X (d + 1) y_M_readStep Q 332 [some (.ref 69), none, none] [.int (18 : Int32), .ref 69] (aw_s I L D))
    (h2 : ¬ s0 = 0 → ¬ v2 = 0 → aw_z X (d + 1) y_M_readStep Q 332 [some (.ref 69), none, none] [.int (17 : Int32), .ref 69] (aw_s I L D))
    (h3 : s0 = 0 → Q (some (.int (0 : Int32))) (aw_s I L D)) :
    aw_z X (d + 1) y_M_readStep Q 315 [some (.ref 69), none, some (.int v2)] [.int s0] (aw_s I L D) :=
  (z_if_ne (tgt := 320) d_M_readStep_315 rfl (fun q1 => (s_M_readStep_320.go [some (.ref 69), none, some (.int v2)] [.int v2, .ref 69] (aw_s I L D) rfl (z_if_eq (tgt := 330) d_M_readStep_322 rfl (fun q3 => (s_M_readStep_330.go [some (.ref 69), none, some (.int v2)] [.int (18 : Int32), .ref 69] (aw_s I L D) rfl (aw_Z.weak (ls' := [some (.ref 69), none, none]) (h1 q1 q3) (Nat.le_of_ble_eq_true rfl) ⟨Or.inr rfl, ⟨Or.inl rfl, ⟨Or.inl rfl, trivial⟩⟩⟩))) (fun q4 => (s_M_readStep_325.go [some (.ref 69), none, some (.int v2)] [.int (17 : Int32), .ref 69] (aw_s I L D) rfl (z_goto (tgt := 332) d_M_readStep_327 rfl (aw_Z.weak (ls' := [some (.ref 69), none, none]) (h2 q1 q4) (Nat.le_of_ble_eq_true rfl) ⟨Or.inr rfl, ⟨Or.inl rfl, ⟨Or.inl rfl, trivial⟩⟩⟩))))))) (fun q2 => (s_M_readStep_318.go [some (.ref 69), none, some (.int v2)] [.int (0 : Int32)] (aw_s I L D) rfl (z_iret d_M_readStep_319 rfl (aw_nz (by decide +kernel)) (h3 q2)))))
theorem d_M_readStep_332 : decode y_M_readStep.2.1 332 = .ok (.iconst 0, 1) := by decide +kernel
theorem s_M_readStep_332 : aw_VS y_M_readStep 332 [o_c (.int (0 : Int32))] 333 := .cons (v_iconst (v := (0 : Int32)) d_M_readStep_332 (by decide +kernel)) .nil
theorem d_M_readStep_333 : decode y_M_readStep.2.1 333 = .ok (.invokevirtual 238, 3) := by decide +kernel
theorem b_M_readStep_332 {X : aw_X} {d : Nat} {Q : Option Value → aw_H → Prop} {I : Nat → Nat → Int32} {L : Nat → Nat → Int64} {D : Nat → Nat} {s1 : Int32}
    (h1 : aw_m X d y_M_emit [.ref 69, .int s1, .int (0 : Int32)] (aw_s I L D) (fun r A => aw_z X (d + 1) y_M_readStep Q 336 [some (.ref 69), none, none] (r.toList ++ []) A)) :
    aw_z X (d + 1) y_M_readStep Q 332 [some (.ref 69), none, none] [.int s1, .ref 69] (aw_s I L D) :=
  (s_M_readStep_332.go [some (.ref 69), none, none] [.int (0 : Int32), .int s1, .ref 69] (aw_s I L D) rfl (z_callV (av := [.int s1, .int (0 : Int32)]) (st := []) ok_M_emit (Or.inl w_1787) w_1789 w_79 k_M d_M_readStep_333 rfl (aw_lt (o := 69) rfl) rfl rfl (Nat.le_of_ble_eq_true rfl) (Nat.le_refl _) (Nat.le_refl _) (h1)))
theorem d_M_readStep_336 : decode y_M_readStep.2.1 336 = .ok (.pop, 1) := by decide +kernel
theorem d_M_readStep_337 : decode y_M_readStep.2.1 337 = .ok (.aload_n 0, 1) := by decide +kernel
theorem d_M_readStep_338 : decode y_M_readStep.2.1 338 = .ok (.bipush 59, 2) := by decide +kernel
theorem s_M_readStep_336 : aw_VS y_M_readStep 336 [o_pop, o_ald 0, o_c (.int (59 : Int32))] 340 := .cons (v_pop d_M_readStep_336) (.cons (v_aload_n (i := 0) d_M_readStep_337 rfl) (.cons (v_bipush (v := (59 : Int32)) d_M_readStep_338 (by decide +kernel)) .nil))
theorem d_M_readStep_340 : decode y_M_readStep.2.1 340 = .ok (.invokevirtual 316, 3) := by decide +kernel
theorem b_M_readStep_336 {X : aw_X} {d : Nat} {Q : Option Value → aw_H → Prop} {I : Nat → Nat → Int32} {L : Nat → Nat → Int64} {D : Nat → Nat} {s0 : Int32}
    (h1 : aw_m X d y_M_readSign [.ref 69, .int (59 : Int32)] (aw_s I L D) (fun r A => aw_z X (d + 1) y_M_readStep Q 343 [none, none, none] (r.toList ++ []) A)) :
    aw_z X (d + 1) y_M_readStep Q 336 [some (.ref 69), none, none] [.int s0] (aw_s I L D) :=
  (s_M_readStep_336.go [some (.ref 69), none, none] [.int (59 : Int32), .ref 69] (aw_s I L D) rfl (z_callV (av := [.int (59 : Int32)]) (st := []) ok_M_readSign (Or.inl w_1880) w_1882 w_100 k_M d_M_readStep_340 rfl (aw_lt (o := 69) rfl) rfl rfl (Nat.le_of_ble_eq_true rfl) (Nat.le_refl _) (Nat.le_refl _) (aw_C.mono (h1) (fun _ _ zz => aw_Z.weak (ls' := [none, none, none]) zz (Nat.le_of_ble_eq_true rfl) ⟨Or.inl rfl, ⟨Or.inl rfl, ⟨Or.inl rfl, trivial⟩⟩⟩))))
theorem d_M_readStep_343 : decode y_M_readStep.2.1 343 = .ok (.ireturn, 1) := by decide +kernel
theorem b_M_readStep_343 {X : aw_X} {d : Nat} {Q : Option Value → aw_H → Prop} {I : Nat → Nat → Int32} {L : Nat → Nat → Int64} {D : Nat → Nat} {s0 : Int32}
    (h1 : (s0 = 0 ∨ s0 = 1))
    (h2 : Q (some (.int s0)) (aw_s I L D)) :
    aw_z X (d + 1) y_M_readStep Q 343 [none, none, none] [.int s0] (aw_s I L D) :=
  (z_iret d_M_readStep_343 rfl (aw_nz (h1)) (h2))
