/-! by gen_blk.py (genall.py) -/
/-! Pf_find -/
theorem d_Pf_find_0 : decode y_Pf_find.2.1 0 = .ok (.aload_n 0, 1) := by decide +kernel
theorem d_Pf_find_1 : decode y_Pf_find.2.1 1 = .ok (.aload_n 1, 1) := by decide +kernel
theorem s_Pf_find_0 : aw_VS y_Pf_find 0 [o_ald 0, o_ald 1] 2 := .cons (v_aload_n (i := 0) d_Pf_find_0 rfl) (.cons (v_aload_n (i := 1) d_Pf_find_1 rfl) .nil)
theorem d_Pf_find_2 : decode y_Pf_find.2.1 2 = .ok (.invokevirtual 39, 3) := by decide +kernel
theorem b_Pf_find_0 {X : aw_X} {d : Nat} {Q : Option Value → aw_H → Prop} {I : Nat → Nat → Int32} {L : Nat → Nat → Int64} {D : Nat → Nat} {c1 : Nat}
    (h1 : aw_m X d y_Pf_fillFailing [.ref 23, .ref c1] (aw_s I L D) (fun r A => aw_z X (d + 1) y_Pf_find Q 5 [some (.ref 23), none, none, none] (r.toList ++ []) A)) :
    aw_z X (d + 1) y_Pf_find Q 0 [some (.ref 23), some (.ref c1), none, none] [] (aw_s I L D) :=
  (s_Pf_find_0.go [some (.ref 23), some (.ref c1), none, none] [.ref c1, .ref 23] (aw_s I L D) rfl (z_callV (av := [.ref c1]) (st := []) ok_Pf_fillFailing (Or.inl w_1284) w_1286 w_58 k_Pf d_Pf_find_2 rfl (aw_lt (o := 23) rfl) rfl rfl (Nat.le_of_ble_eq_true rfl) (Nat.le_refl _) (Nat.le_refl _) (aw_C.mono (h1) (fun _ _ zz => aw_Z.weak (ls' := [some (.ref 23), none, none, none]) zz (Nat.le_of_ble_eq_true rfl) ⟨Or.inr rfl, ⟨Or.inl rfl, ⟨Or.inl rfl, ⟨Or.inl rfl, trivial⟩⟩⟩⟩))))
theorem d_Pf_find_5 : decode y_Pf_find.2.1 5 = .ok (.aload_n 0, 1) := by decide +kernel
theorem s_Pf_find_5 : aw_VS y_Pf_find 5 [o_ald 0] 6 := .cons (v_aload_n (i := 0) d_Pf_find_5 rfl) .nil
theorem d_Pf_find_6 : decode y_Pf_find.2.1 6 = .ok (.invokevirtual 43, 3) := by decide +kernel
theorem b_Pf_find_5 {X : aw_X} {d : Nat} {Q : Option Value → aw_H → Prop} {I : Nat → Nat → Int32} {L : Nat → Nat → Int64} {D : Nat → Nat} 
    (h1 : aw_m X d y_Pf_parts [.ref 23] (aw_s I L D) (fun r A => aw_z X (d + 1) y_Pf_find Q 9 [some (.ref 23), none, none, none] (r.toList ++ []) A)) :
    aw_z X (d + 1) y_Pf_find Q 5 [some (.ref 23), none, none, none] [] (aw_s I L D) :=
  (s_Pf_find_5.go [some (.ref 23), none, none, none] [.ref 23] (aw_s I L D) rfl (z_callV (av := []) (st := []) ok_Pf_parts (Or.inl w_1288) w_1290 w_59 k_Pf d_Pf_find_6 rfl (aw_lt (o := 23) rfl) rfl rfl (Nat.le_of_ble_eq_true rfl) (Nat.le_refl _) (Nat.le_refl _) (h1)))
theorem d_Pf_find_9 : decode y_Pf_find.2.1 9 = .ok (.istore_n 2, 1) := by decide +kernel
theorem d_Pf_find_10 : decode y_Pf_find.2.1 10 = .ok (.iconst 0, 1) := by decide +kernel
theorem d_Pf_find_11 : decode y_Pf_find.2.1 11 = .ok (.istore_n 3, 1) := by decide +kernel
theorem s_Pf_find_9 : aw_VS y_Pf_find 9 [o_ist 2, o_c (.int (0 : Int32)), o_ist 3] 12 := .cons (v_istore_n d_Pf_find_9) (.cons (v_iconst (v := (0 : Int32)) d_Pf_find_10 (by decide +kernel)) (.cons (v_istore_n d_Pf_find_11) .nil))
theorem b_Pf_find_9 {X : aw_X} {d : Nat} {Q : Option Value → aw_H → Prop} {I : Nat → Nat → Int32} {L : Nat → Nat → Int64} {D : Nat → Nat} {s0 : Int32}
    (h1 : aw_z X (d + 1) y_Pf_find Q 12 [some (.ref 23), none, some (.int s0), some (.int (0 : Int32))] [] (aw_s I L D)) :
    aw_z X (d + 1) y_Pf_find Q 9 [some (.ref 23), none, none, none] [.int s0] (aw_s I L D) :=
  (s_Pf_find_9.go [some (.ref 23), none, some (.int s0), some (.int (0 : Int32))] [] (aw_s I L D) rfl (h1))
theorem d_Pf_find_12 : decode y_Pf_find.2.1 12 = .ok (.iload_n 3, 1) := by decide +kernel
theorem d_Pf_find_13 : decode y_Pf_find.2.1 13 = .ok (.iload_n 2, 1) := by decide +kernel
theorem s_Pf_find_12 : aw_VS y_Pf_find 12 [o_ild 3, o_ild 2] 14 := .cons (v_iload_n (i := 3) d_Pf_find_12 rfl) (.cons (v_iload_n (i := 2) d_Pf_find_13 rfl) .nil)
theorem d_Pf_find_14 : decode y_Pf_find.2.1 14 = .ok (.if_icmp .ge (21), 3) := by decide +kernel
theorem d_Pf_find_17 : decode y_Pf_find.2.1 17 = .ok (.iload_n 3, 1) := by decide +kernel
theorem d_Pf_find_18 : decode y_Pf_find.2.1 18 = .ok (.sipush 6561, 3) := by decide +kernel
theorem s_Pf_find_17 : aw_VS y_Pf_find 17 [o_ild 3, o_c (.int (6561 : Int32))] 21 := .cons (v_iload_n (i := 3) d_Pf_find_17 rfl) (.cons (v_sipush (v := (6561 : Int32)) d_Pf_find_18 (by decide +kernel)) .nil)
theorem d_Pf_find_21 : decode y_Pf_find.2.1 21 = .ok (.if_icmp .ge (14), 3) := by decide +kernel
theorem d_Pf_find_24 : decode y_Pf_find.2.1 24 = .ok (.aload_n 0, 1) := by decide +kernel
theorem d_Pf_find_25 : decode y_Pf_find.2.1 25 = .ok (.iload_n 3, 1) := by decide +kernel
theorem s_Pf_find_24 : aw_VS y_Pf_find 24 [o_ald 0, o_ild 3] 26 := .cons (v_aload_n (i := 0) d_Pf_find_24 rfl) (.cons (v_iload_n (i := 3) d_Pf_find_25 rfl) .nil)
theorem d_Pf_find_26 : decode y_Pf_find.2.1 26 = .ok (.invokevirtual 47, 3) := by decide +kernel
theorem b_Pf_find_12 {X : aw_X} {d : Nat} {Q : Option Value → aw_H → Prop} {I : Nat → Nat → Int32} {L : Nat → Nat → Int64} {D : Nat → Nat} {v2 : Int32} {v3 : Int32}
    (h1 : v2 ≤ v3 → aw_z X (d + 1) y_Pf_find Q 35 [some (.ref 23), none, some (.int v2), none] [] (aw_s I L D))
    (h2 : ¬ v2 ≤ v3 → (6561 : Int32) ≤ v3 → aw_z X (d + 1) y_Pf_find Q 35 [some (.ref 23), none, some (.int v2), none] [] (aw_s I L D))
    (h3 : ¬ v2 ≤ v3 → ¬ (6561 : Int32) ≤ v3 → aw_m X d y_Pf_chooseFirst [.ref 23, .int v3] (aw_s I L D) (fun r A => aw_z X (d + 1) y_Pf_find Q 29 [some (.ref 23), none, some (.int v2), some (.int v3)] (r.toList ++ []) A)) :
    aw_z X (d + 1) y_Pf_find Q 12 [some (.ref 23), none, some (.int v2), some (.int v3)] [] (aw_s I L D) :=
  (s_Pf_find_12.go [some (.ref 23), none, some (.int v2), some (.int v3)] [.int v2, .int v3] (aw_s I L D) rfl (z_icmp_ge (tgt := 35) d_Pf_find_14 rfl (fun q1 => (aw_Z.weak (ls' := [some (.ref 23), none, some (.int v2), none]) (h1 q1) (Nat.le_of_ble_eq_true rfl) ⟨Or.inr rfl, ⟨Or.inl rfl, ⟨Or.inr rfl, ⟨Or.inl rfl, trivial⟩⟩⟩⟩)) (fun q2 => (s_Pf_find_17.go [some (.ref 23), none, some (.int v2), some (.int v3)] [.int (6561 : Int32), .int v3] (aw_s I L D) rfl (z_icmp_ge (tgt := 35) d_Pf_find_21 rfl (fun q3 => (aw_Z.weak (ls' := [some (.ref 23), none, some (.int v2), none]) (h2 q2 q3) (Nat.le_of_ble_eq_true rfl) ⟨Or.inr rfl, ⟨Or.inl rfl, ⟨Or.inr rfl, ⟨Or.inl rfl, trivial⟩⟩⟩⟩)) (fun q4 => (s_Pf_find_24.go [some (.ref 23), none, some (.int v2), some (.int v3)] [.int v3, .ref 23] (aw_s I L D) rfl (z_callV (av := [.int v3]) (st := []) ok_Pf_chooseFirst (Or.inl w_1314) w_1316 w_62 k_Pf d_Pf_find_26 rfl (aw_lt (o := 23) rfl) rfl rfl (Nat.le_of_ble_eq_true rfl) (Nat.le_refl _) (Nat.le_refl _) (h3 q2 q4)))))))))
theorem d_Pf_find_35 : decode y_Pf_find.2.1 35 = .ok (.aload_n 0, 1) := by decide +kernel
theorem d_Pf_find_36 : decode y_Pf_find.2.1 36 = .ok (.getfield 15, 3) := by decide +kernel
theorem d_Pf_find_39 : decode y_Pf_find.2.1 39 = .ok (.iload_n 2, 1) := by decide +kernel
theorem d_Pf_find_40 : decode y_Pf_find.2.1 40 = .ok (.iconst 1, 1) := by decide +kernel
theorem d_Pf_find_41 : decode y_Pf_find.2.1 41 = .ok (.isub, 1) := by decide +kernel
theorem s_Pf_find_35 : aw_VS y_Pf_find 35 [o_ald 0, o_getA 5 3, o_ild 2, o_c (.int (1 : Int32)), o_i2 (fun x z => x - z)] 42 := .cons (v_aload_n (i := 0) d_Pf_find_35 rfl) (.cons (v_getA (k := 3) k_Pf (by decide) rfl (Or.inl w_350) d_Pf_find_36) (.cons (v_iload_n (i := 2) d_Pf_find_39 rfl) (.cons (v_iconst (v := (1 : Int32)) d_Pf_find_40 (by decide +kernel)) (.cons (v_isub d_Pf_find_41) .nil))))
theorem d_Pf_find_42 : decode y_Pf_find.2.1 42 = .ok (.invokestatic 51, 3) := by decide +kernel
theorem b_Pf_find_35 {X : aw_X} {d : Nat} {Q : Option Value → aw_H → Prop} {I : Nat → Nat → Int32} {L : Nat → Nat → Int64} {D : Nat → Nat} {v2 : Int32}
    (h1 : aw_m X d y_AW_valueAt_aII [.ref 25, .int (v2 - (1 : Int32))] (aw_s I L D) (fun r A => aw_z X (d + 1) y_Pf_find Q 45 [some (.ref 23), none, some (.int v2), none] (r.toList ++ []) A)) :
    aw_z X (d + 1) y_Pf_find Q 35 [some (.ref 23), none, some (.int v2), none] [] (aw_s I L D) :=
  (s_Pf_find_35.go [some (.ref 23), none, some (.int v2), none] [.int (v2 - (1 : Int32)), .ref 25] (aw_s I L D) rfl (z_callS (av := [.ref 25, .int (v2 - (1 : Int32))]) (st := []) ok_AW_valueAt_aII (Or.inr ⟨"AllWays", w_1295⟩) w_927 d_Pf_find_42 rfl rfl (Nat.le_of_ble_eq_true rfl) (Nat.le_refl _) (Nat.le_refl _) (h1)))
theorem d_Pf_find_29 : decode y_Pf_find.2.1 29 = .ok (.iinc 3 (1), 3) := by decide +kernel
theorem s_Pf_find_29 : aw_VS y_Pf_find 29 [o_inc 3 (1 : Int32)] 32 := .cons (v_iinc (k0 := (1 : Int32)) d_Pf_find_29 (by decide +kernel)) .nil
theorem d_Pf_find_32 : decode y_Pf_find.2.1 32 = .ok (.goto (-20), 3) := by decide +kernel
theorem b_Pf_find_29 {X : aw_X} {d : Nat} {Q : Option Value → aw_H → Prop} {I : Nat → Nat → Int32} {L : Nat → Nat → Int64} {D : Nat → Nat} {v2 : Int32} {v3 : Int32}
    (h1 : aw_z X (d + 1) y_Pf_find Q 12 [some (.ref 23), none, some (.int v2), some (.int (v3 + (1 : Int32)))] [] (aw_s I L D)) :
    aw_z X (d + 1) y_Pf_find Q 29 [some (.ref 23), none, some (.int v2), some (.int v3)] [] (aw_s I L D) :=
  (s_Pf_find_29.go [some (.ref 23), none, some (.int v2), some (.int (v3 + (1 : Int32)))] [] (aw_s I L D) rfl (z_goto (tgt := 12) d_Pf_find_32 rfl (h1)))
theorem d_Pf_find_45 : decode y_Pf_find.2.1 45 = .ok (.ldc 55, 2) := by decide +kernel
theorem s_Pf_find_45 : aw_VS y_Pf_find 45 [o_c (.int (100000 : Int32))] 47 := .cons (v_ldc d_Pf_find_45 w_1318) .nil
theorem d_Pf_find_47 : decode y_Pf_find.2.1 47 = .ok (.if_icmp .lt (5), 3) := by decide +kernel
theorem d_Pf_find_52 : decode y_Pf_find.2.1 52 = .ok (.aload_n 0, 1) := by decide +kernel
theorem d_Pf_find_53 : decode y_Pf_find.2.1 53 = .ok (.iload_n 2, 1) := by decide +kernel
theorem d_Pf_find_54 : decode y_Pf_find.2.1 54 = .ok (.iconst 1, 1) := by decide +kernel
theorem d_Pf_find_55 : decode y_Pf_find.2.1 55 = .ok (.isub, 1) := by decide +kernel
theorem s_Pf_find_52 : aw_VS y_Pf_find 52 [o_ald 0, o_ild 2, o_c (.int (1 : Int32)), o_i2 (fun x z => x - z)] 56 := .cons (v_aload_n (i := 0) d_Pf_find_52 rfl) (.cons (v_iload_n (i := 2) d_Pf_find_53 rfl) (.cons (v_iconst (v := (1 : Int32)) d_Pf_find_54 (by decide +kernel)) (.cons (v_isub d_Pf_find_55) .nil)))
theorem d_Pf_find_56 : decode y_Pf_find.2.1 56 = .ok (.invokevirtual 56, 3) := by decide +kernel
theorem d_Pf_find_50 : decode y_Pf_find.2.1 50 = .ok (.iconst (-1), 1) := by decide +kernel
theorem s_Pf_find_50 : aw_VS y_Pf_find 50 [o_c (.int (-1 : Int32))] 51 := .cons (v_iconst (v := (-1 : Int32)) d_Pf_find_50 (by decide +kernel)) .nil
theorem d_Pf_find_51 : decode y_Pf_find.2.1 51 = .ok (.ireturn, 1) := by decide +kernel
theorem b_Pf_find_45 {X : aw_X} {d : Nat} {Q : Option Value → aw_H → Prop} {I : Nat → Nat → Int32} {L : Nat → Nat → Int64} {D : Nat → Nat} {v2 : Int32} {s0 : Int32}
    (h1 : s0 < (100000 : Int32) → aw_m X d y_Pf_writeDown [.ref 23, .int (v2 - (1 : Int32))] (aw_s I L D) (fun r A => aw_z X (d + 1) y_Pf_find Q 59 [some (.ref 23), none, none, none] (r.toList ++ []) A))
    (h2 : ¬ s0 < (100000 : Int32) → Q (some (.int (-1 : Int32))) (aw_s I L D)) :
    aw_z X (d + 1) y_Pf_find Q 45 [some (.ref 23), none, some (.int v2), none] [.int s0] (aw_s I L D) :=
  (s_Pf_find_45.go [some (.ref 23), none, some (.int v2), none] [.int (100000 : Int32), .int s0] (aw_s I L D) rfl (z_icmp_lt (tgt := 52) d_Pf_find_47 rfl (fun q1 => (s_Pf_find_52.go [some (.ref 23), none, some (.int v2), none] [.int (v2 - (1 : Int32)), .ref 23] (aw_s I L D) rfl (z_callV (av := [.int (v2 - (1 : Int32))]) (st := []) ok_Pf_writeDown (Or.inl w_1320) w_1322 w_63 k_Pf d_Pf_find_56 rfl (aw_lt (o := 23) rfl) rfl rfl (Nat.le_of_ble_eq_true rfl) (Nat.le_refl _) (Nat.le_refl _) (aw_C.mono (h1 q1) (fun _ _ zz => aw_Z.weak (ls' := [some (.ref 23), none, none, none]) zz (Nat.le_of_ble_eq_true rfl) ⟨Or.inr rfl, ⟨Or.inl rfl, ⟨Or.inl rfl, ⟨Or.inl rfl, trivial⟩⟩⟩⟩))))) (fun q2 => (s_Pf_find_50.go [some (.ref 23), none, some (.int v2), none] [.int (-1 : Int32)] (aw_s I L D) rfl (z_iret d_Pf_find_51 rfl rfl (h2 q2))))))
theorem d_Pf_find_59 : decode y_Pf_find.2.1 59 = .ok (.aload_n 0, 1) := by decide +kernel
theorem d_Pf_find_60 : decode y_Pf_find.2.1 60 = .ok (.getfield 35, 3) := by decide +kernel
theorem s_Pf_find_59 : aw_VS y_Pf_find 59 [o_ald 0, o_getI 5 8] 63 := .cons (v_aload_n (i := 0) d_Pf_find_59 rfl) (.cons (v_getI (k := 8) k_Pf (by decide) (Or.inl rfl) (Or.inl w_355) d_Pf_find_60) .nil)
theorem d_Pf_find_63 : decode y_Pf_find.2.1 63 = .ok (.ireturn, 1) := by decide +kernel
theorem b_Pf_find_59 {X : aw_X} {d : Nat} {Q : Option Value → aw_H → Prop} {I : Nat → Nat → Int32} {L : Nat → Nat → Int64} {D : Nat → Nat} 
    (h1 : Q (some (.int (I 23 8))) (aw_s I L D)) :
    aw_z X (d + 1) y_Pf_find Q 59 [some (.ref 23), none, none, none] [] (aw_s I L D) :=
  (s_Pf_find_59.go [some (.ref 23), none, none, none] [.int (I 23 8)] (aw_s I L D) rfl (z_iret d_Pf_find_63 rfl rfl (h1)))
/-! Pf_fillFailing -/
theorem d_Pf_fillFailing_0 : decode y_Pf_fillFailing.2.1 0 = .ok (.aload_n 0, 1) := by decide +kernel
theorem s_Pf_fillFailing_0 : aw_VS y_Pf_fillFailing 0 [o_ald 0] 1 := .cons (v_aload_n (i := 0) d_Pf_fillFailing_0 rfl) .nil
theorem d_Pf_fillFailing_1 : decode y_Pf_fillFailing.2.1 1 = .ok (.invokevirtual 43, 3) := by decide +kernel
theorem b_Pf_fillFailing_0 {X : aw_X} {d : Nat} {Q : Option Value → aw_H → Prop} {I : Nat → Nat → Int32} {L : Nat → Nat → Int64} {D : Nat → Nat} {c1 : Nat}
    (h1 : aw_m X d y_Pf_parts [.ref 23] (aw_s I L D) (fun r A => aw_z X (d + 1) y_Pf_fillFailing Q 4 [some (.ref 23), some (.ref c1), none, none, none] (r.toList ++ []) A)) :
    aw_z X (d + 1) y_Pf_fillFailing Q 0 [some (.ref 23), some (.ref c1), none, none, none] [] (aw_s I L D) :=
  (s_Pf_fillFailing_0.go [some (.ref 23), some (.ref c1), none, none, none] [.ref 23] (aw_s I L D) rfl (z_callV (av := []) (st := []) ok_Pf_parts (Or.inl w_1288) w_1290 w_59 k_Pf d_Pf_fillFailing_1 rfl (aw_lt (o := 23) rfl) rfl rfl (Nat.le_of_ble_eq_true rfl) (Nat.le_refl _) (Nat.le_refl _) (h1)))
theorem d_Pf_fillFailing_4 : decode y_Pf_fillFailing.2.1 4 = .ok (.istore_n 2, 1) := by decide +kernel
theorem d_Pf_fillFailing_5 : decode y_Pf_fillFailing.2.1 5 = .ok (.iconst 0, 1) := by decide +kernel
theorem d_Pf_fillFailing_6 : decode y_Pf_fillFailing.2.1 6 = .ok (.istore_n 3, 1) := by decide +kernel
theorem s_Pf_fillFailing_4 : aw_VS y_Pf_fillFailing 4 [o_ist 2, o_c (.int (0 : Int32)), o_ist 3] 7 := .cons (v_istore_n d_Pf_fillFailing_4) (.cons (v_iconst (v := (0 : Int32)) d_Pf_fillFailing_5 (by decide +kernel)) (.cons (v_istore_n d_Pf_fillFailing_6) .nil))
theorem b_Pf_fillFailing_4 {X : aw_X} {d : Nat} {Q : Option Value → aw_H → Prop} {I : Nat → Nat → Int32} {L : Nat → Nat → Int64} {D : Nat → Nat} {c1 : Nat} {s0 : Int32}
    (h1 : aw_z X (d + 1) y_Pf_fillFailing Q 7 [some (.ref 23), some (.ref c1), some (.int s0), some (.int (0 : Int32)), none] [] (aw_s I L D)) :
    aw_z X (d + 1) y_Pf_fillFailing Q 4 [some (.ref 23), some (.ref c1), none, none, none] [.int s0] (aw_s I L D) :=
  (s_Pf_fillFailing_4.go [some (.ref 23), some (.ref c1), some (.int s0), some (.int (0 : Int32)), none] [] (aw_s I L D) rfl (h1))
theorem d_Pf_fillFailing_7 : decode y_Pf_fillFailing.2.1 7 = .ok (.iload_n 3, 1) := by decide +kernel
theorem d_Pf_fillFailing_8 : decode y_Pf_fillFailing.2.1 8 = .ok (.iload_n 2, 1) := by decide +kernel
theorem s_Pf_fillFailing_7 : aw_VS y_Pf_fillFailing 7 [o_ild 3, o_ild 2] 9 := .cons (v_iload_n (i := 3) d_Pf_fillFailing_7 rfl) (.cons (v_iload_n (i := 2) d_Pf_fillFailing_8 rfl) .nil)
theorem d_Pf_fillFailing_9 : decode y_Pf_fillFailing.2.1 9 = .ok (.if_icmp .ge (86), 3) := by decide +kernel
theorem d_Pf_fillFailing_95 : decode y_Pf_fillFailing.2.1 95 = .ok (.return_, 1) := by decide +kernel
theorem d_Pf_fillFailing_12 : decode y_Pf_fillFailing.2.1 12 = .ok (.iload_n 3, 1) := by decide +kernel
theorem d_Pf_fillFailing_13 : decode y_Pf_fillFailing.2.1 13 = .ok (.sipush 6561, 3) := by decide +kernel
theorem s_Pf_fillFailing_12 : aw_VS y_Pf_fillFailing 12 [o_ild 3, o_c (.int (6561 : Int32))] 16 := .cons (v_iload_n (i := 3) d_Pf_fillFailing_12 rfl) (.cons (v_sipush (v := (6561 : Int32)) d_Pf_fillFailing_13 (by decide +kernel)) .nil)
theorem d_Pf_fillFailing_16 : decode y_Pf_fillFailing.2.1 16 = .ok (.if_icmp .ge (79), 3) := by decide +kernel
theorem d_Pf_fillFailing_19 : decode y_Pf_fillFailing.2.1 19 = .ok (.aload_n 0, 1) := by decide +kernel
theorem d_Pf_fillFailing_20 : decode y_Pf_fillFailing.2.1 20 = .ok (.iload_n 3, 1) := by decide +kernel
theorem s_Pf_fillFailing_19 : aw_VS y_Pf_fillFailing 19 [o_ald 0, o_ild 3] 21 := .cons (v_aload_n (i := 0) d_Pf_fillFailing_19 rfl) (.cons (v_iload_n (i := 3) d_Pf_fillFailing_20 rfl) .nil)
theorem d_Pf_fillFailing_21 : decode y_Pf_fillFailing.2.1 21 = .ok (.invokevirtual 105, 3) := by decide +kernel
theorem b_Pf_fillFailing_7 {X : aw_X} {d : Nat} {Q : Option Value → aw_H → Prop} {I : Nat → Nat → Int32} {L : Nat → Nat → Int64} {D : Nat → Nat} {c1 : Nat} {v2 : Int32} {v3 : Int32}
    (h1 : v2 ≤ v3 → Q none (aw_s I L D))
    (h2 : ¬ v2 ≤ v3 → (6561 : Int32) ≤ v3 → Q none (aw_s I L D))
    (h3 : ¬ v2 ≤ v3 → ¬ (6561 : Int32) ≤ v3 → aw_m X d y_Pf_lowestEither [.ref 23, .int v3] (aw_s I L D) (fun r A => aw_z X (d + 1) y_Pf_fillFailing Q 24 [some (.ref 23), some (.ref c1), some (.int v2), some (.int v3), none] (r.toList ++ []) A)) :
    aw_z X (d + 1) y_Pf_fillFailing Q 7 [some (.ref 23), some (.ref c1), some (.int v2), some (.int v3), none] [] (aw_s I L D) :=
  (s_Pf_fillFailing_7.go [some (.ref 23), some (.ref c1), some (.int v2), some (.int v3), none] [.int v2, .int v3] (aw_s I L D) rfl (z_icmp_ge (tgt := 95) d_Pf_fillFailing_9 rfl (fun q1 => (z_vret d_Pf_fillFailing_95 rfl (h1 q1))) (fun q2 => (s_Pf_fillFailing_12.go [some (.ref 23), some (.ref c1), some (.int v2), some (.int v3), none] [.int (6561 : Int32), .int v3] (aw_s I L D) rfl (z_icmp_ge (tgt := 95) d_Pf_fillFailing_16 rfl (fun q3 => (z_vret d_Pf_fillFailing_95 rfl (h2 q2 q3))) (fun q4 => (s_Pf_fillFailing_19.go [some (.ref 23), some (.ref c1), some (.int v2), some (.int v3), none] [.int v3, .ref 23] (aw_s I L D) rfl (z_callV (av := [.int v3]) (st := []) ok_Pf_lowestEither (Or.inl w_1296) w_1298 w_60 k_Pf d_Pf_fillFailing_21 rfl (aw_lt (o := 23) rfl) rfl rfl (Nat.le_of_ble_eq_true rfl) (Nat.le_refl _) (Nat.le_refl _) (h3 q2 q4)))))))))
theorem d_Pf_fillFailing_24 : decode y_Pf_fillFailing.2.1 24 = .ok (.istore 4, 2) := by decide +kernel
theorem d_Pf_fillFailing_26 : decode y_Pf_fillFailing.2.1 26 = .ok (.iload 4, 2) := by decide +kernel
theorem d_Pf_fillFailing_28 : decode y_Pf_fillFailing.2.1 28 = .ok (.iconst (-1), 1) := by decide +kernel
theorem s_Pf_fillFailing_24 : aw_VS y_Pf_fillFailing 24 [o_ist 4, o_ild 4, o_c (.int (-1 : Int32))] 29 := .cons (v_istore d_Pf_fillFailing_24) (.cons (v_iload (i := 4) d_Pf_fillFailing_26) (.cons (v_iconst (v := (-1 : Int32)) d_Pf_fillFailing_28 (by decide +kernel)) .nil))
theorem d_Pf_fillFailing_29 : decode y_Pf_fillFailing.2.1 29 = .ok (.if_icmp .ne (25), 3) := by decide +kernel
theorem d_Pf_fillFailing_54 : decode y_Pf_fillFailing.2.1 54 = .ok (.aload_n 0, 1) := by decide +kernel
theorem d_Pf_fillFailing_55 : decode y_Pf_fillFailing.2.1 55 = .ok (.getfield 11, 3) := by decide +kernel
theorem d_Pf_fillFailing_58 : decode y_Pf_fillFailing.2.1 58 = .ok (.iload_n 3, 1) := by decide +kernel
theorem d_Pf_fillFailing_59 : decode y_Pf_fillFailing.2.1 59 = .ok (.aload_n 0, 1) := by decide +kernel
theorem d_Pf_fillFailing_60 : decode y_Pf_fillFailing.2.1 60 = .ok (.getfield 11, 3) := by decide +kernel
theorem d_Pf_fillFailing_63 : decode y_Pf_fillFailing.2.1 63 = .ok (.iload_n 3, 1) := by decide +kernel
theorem d_Pf_fillFailing_64 : decode y_Pf_fillFailing.2.1 64 = .ok (.iload 4, 2) := by decide +kernel
theorem d_Pf_fillFailing_66 : decode y_Pf_fillFailing.2.1 66 = .ok (.iconst 0, 1) := by decide +kernel
theorem s_Pf_fillFailing_54 : aw_VS y_Pf_fillFailing 54 [o_ald 0, o_getA 5 2, o_ild 3, o_ald 0, o_getA 5 2, o_ild 3, o_ild 4, o_c (.int (0 : Int32))] 67 := .cons (v_aload_n (i := 0) d_Pf_fillFailing_54 rfl) (.cons (v_getA (k := 2) k_Pf (by decide) rfl (Or.inl w_349) d_Pf_fillFailing_55) (.cons (v_iload_n (i := 3) d_Pf_fillFailing_58 rfl) (.cons (v_aload_n (i := 0) d_Pf_fillFailing_59 rfl) (.cons (v_getA (k := 2) k_Pf (by decide) rfl (Or.inl w_349) d_Pf_fillFailing_60) (.cons (v_iload_n (i := 3) d_Pf_fillFailing_63 rfl) (.cons (v_iload (i := 4) d_Pf_fillFailing_64) (.cons (v_iconst (v := (0 : Int32)) d_Pf_fillFailing_66 (by decide +kernel)) .nil)))))))
theorem d_Pf_fillFailing_67 : decode y_Pf_fillFailing.2.1 67 = .ok (.invokestatic 117, 3) := by decide +kernel
theorem d_Pf_fillFailing_32 : decode y_Pf_fillFailing.2.1 32 = .ok (.aload_n 0, 1) := by decide +kernel
theorem d_Pf_fillFailing_33 : decode y_Pf_fillFailing.2.1 33 = .ok (.getfield 11, 3) := by decide +kernel
theorem d_Pf_fillFailing_36 : decode y_Pf_fillFailing.2.1 36 = .ok (.iload_n 3, 1) := by decide +kernel
theorem d_Pf_fillFailing_37 : decode y_Pf_fillFailing.2.1 37 = .ok (.aload_n 0, 1) := by decide +kernel
theorem d_Pf_fillFailing_38 : decode y_Pf_fillFailing.2.1 38 = .ok (.getfield 31, 3) := by decide +kernel
theorem d_Pf_fillFailing_41 : decode y_Pf_fillFailing.2.1 41 = .ok (.aload_n 1, 1) := by decide +kernel
theorem d_Pf_fillFailing_42 : decode y_Pf_fillFailing.2.1 42 = .ok (.aload_n 0, 1) := by decide +kernel
theorem d_Pf_fillFailing_43 : decode y_Pf_fillFailing.2.1 43 = .ok (.iload_n 3, 1) := by decide +kernel
theorem s_Pf_fillFailing_32 : aw_VS y_Pf_fillFailing 32 [o_ald 0, o_getA 5 2, o_ild 3, o_ald 0, o_getA 5 1, o_ald 1, o_ald 0, o_ild 3] 44 := .cons (v_aload_n (i := 0) d_Pf_fillFailing_32 rfl) (.cons (v_getA (k := 2) k_Pf (by decide) rfl (Or.inl w_349) d_Pf_fillFailing_33) (.cons (v_iload_n (i := 3) d_Pf_fillFailing_36 rfl) (.cons (v_aload_n (i := 0) d_Pf_fillFailing_37 rfl) (.cons (v_getA (k := 1) k_Pf (by decide) rfl (Or.inl w_348) d_Pf_fillFailing_38) (.cons (v_aload_n (i := 1) d_Pf_fillFailing_41 rfl) (.cons (v_aload_n (i := 0) d_Pf_fillFailing_42 rfl) (.cons (v_iload_n (i := 3) d_Pf_fillFailing_43 rfl) .nil)))))))
theorem d_Pf_fillFailing_44 : decode y_Pf_fillFailing.2.1 44 = .ok (.invokevirtual 108, 3) := by decide +kernel
theorem b_Pf_fillFailing_24 {X : aw_X} {d : Nat} {Q : Option Value → aw_H → Prop} {I : Nat → Nat → Int32} {L : Nat → Nat → Int64} {D : Nat → Nat} {c1 : Nat} {v2 : Int32} {v3 : Int32} {s0 : Int32}
    (h1 : ¬ s0 = (-1 : Int32) → aw_m X d y_Pf_half [.int v3, .int s0, .int (0 : Int32)] (aw_s I L D) (fun r A => aw_z X (d + 1) y_Pf_fillFailing Q 70 [some (.ref 23), some (.ref c1), some (.int v2), some (.int v3), some (.int s0)] (r.toList ++ [.ref 24, .int v3, .ref 24]) A))
    (h2 : s0 = (-1 : Int32) → aw_m X d y_Pf_rowOf [.ref 23, .int v3] (aw_s I L D) (fun r A => aw_z X (d + 1) y_Pf_fillFailing Q 47 [some (.ref 23), some (.ref c1), some (.int v2), some (.int v3), none] (r.toList ++ [.ref c1, .ref 4, .int v3, .ref 24]) A)) :
    aw_z X (d + 1) y_Pf_fillFailing Q 24 [some (.ref 23), some (.ref c1), some (.int v2), some (.int v3), none] [.int s0] (aw_s I L D) :=
  (s_Pf_fillFailing_24.go [some (.ref 23), some (.ref c1), some (.int v2), some (.int v3), some (.int s0)] [.int (-1 : Int32), .int s0] (aw_s I L D) rfl (z_icmp_ne (tgt := 54) d_Pf_fillFailing_29 rfl (fun q1 => (s_Pf_fillFailing_54.go [some (.ref 23), some (.ref c1), some (.int v2), some (.int v3), some (.int s0)] [.int (0 : Int32), .int s0, .int v3, .ref 24, .int v3, .ref 24] (aw_s I L D) rfl (z_callS (av := [.int v3, .int s0, .int (0 : Int32)]) (st := [.ref 24, .int v3, .ref 24]) ok_Pf_half (Or.inl w_1311) w_1312 d_Pf_fillFailing_67 rfl rfl (Nat.le_of_ble_eq_true rfl) (Nat.le_refl _) (Nat.le_refl _) (h1 q1)))) (fun q2 => (s_Pf_fillFailing_32.go [some (.ref 23), some (.ref c1), some (.int v2), some (.int v3), some (.int s0)] [.int v3, .ref 23, .ref c1, .ref 4, .int v3, .ref 24] (aw_s I L D) rfl (z_callV (av := [.int v3]) (st := [.ref c1, .ref 4, .int v3, .ref 24]) ok_Pf_rowOf (Or.inl w_1306) w_1308 w_61 k_Pf d_Pf_fillFailing_44 rfl (aw_lt (o := 23) rfl) rfl rfl (Nat.le_of_ble_eq_true rfl) (Nat.le_refl _) (Nat.le_refl _) (aw_C.mono (h2 q2) (fun _ _ zz => aw_Z.weak (ls' := [some (.ref 23), some (.ref c1), some (.int v2), some (.int v3), none]) zz (Nat.le_of_ble_eq_true rfl) ⟨Or.inr rfl, ⟨Or.inr rfl, ⟨Or.inr rfl, ⟨Or.inr rfl, ⟨Or.inl rfl, trivial⟩⟩⟩⟩⟩)))))))
theorem d_Pf_fillFailing_70 : decode y_Pf_fillFailing.2.1 70 = .ok (.invokestatic 51, 3) := by decide +kernel
theorem b_Pf_fillFailing_70 {X : aw_X} {d : Nat} {Q : Option Value → aw_H → Prop} {I : Nat → Nat → Int32} {L : Nat → Nat → Int64} {D : Nat → Nat} {c1 : Nat} {v2 : Int32} {v3 : Int32} {v4 : Int32} {s3 : Int32} {s1 : Int32}
    (h1 : aw_m X d y_AW_valueAt_aII [.ref 24, .int s3] (aw_s I L D) (fun r A => aw_z X (d + 1) y_Pf_fillFailing Q 73 [some (.ref 23), some (.ref c1), some (.int v2), some (.int v3), some (.int v4)] (r.toList ++ [.int s1, .ref 24]) A)) :
    aw_z X (d + 1) y_Pf_fillFailing Q 70 [some (.ref 23), some (.ref c1), some (.int v2), some (.int v3), some (.int v4)] [.int s3, .ref 24, .int s1, .ref 24] (aw_s I L D) :=
  (z_callS (av := [.ref 24, .int s3]) (st := [.int s1, .ref 24]) ok_AW_valueAt_aII (Or.inr ⟨"AllWays", w_1295⟩) w_927 d_Pf_fillFailing_70 rfl rfl (Nat.le_of_ble_eq_true rfl) (Nat.le_refl _) (Nat.le_refl _) (h1))
theorem d_Pf_fillFailing_47 : decode y_Pf_fillFailing.2.1 47 = .ok (.invokevirtual 111, 3) := by decide +kernel
theorem b_Pf_fillFailing_47 {X : aw_X} {d : Nat} {Q : Option Value → aw_H → Prop} {I : Nat → Nat → Int32} {L : Nat → Nat → Int64} {D : Nat → Nat} {c1 : Nat} {v2 : Int32} {v3 : Int32} {s4 : Int32} {t3 : Nat} {s1 : Int32}
    (h1 : aw_m X d y_Mc_failingTests [.ref 4, .ref t3, .int s4] (aw_s I L D) (fun r A => aw_z X (d + 1) y_Pf_fillFailing Q 50 [some (.ref 23), some (.ref c1), some (.int v2), some (.int v3), none] (r.toList ++ [.int s1, .ref 24]) A)) :
    aw_z X (d + 1) y_Pf_fillFailing Q 47 [some (.ref 23), some (.ref c1), some (.int v2), some (.int v3), none] [.int s4, .ref t3, .ref 4, .int s1, .ref 24] (aw_s I L D) :=
  (z_callV (av := [.ref t3, .int s4]) (st := [.int s1, .ref 24]) ok_Mc_failingTests (Or.inl w_1310) w_1269 w_1270 k_Mc d_Pf_fillFailing_47 rfl (aw_lt (o := 4) rfl) rfl rfl (Nat.le_of_ble_eq_true rfl) (Nat.le_refl _) (Nat.le_refl _) (h1))
theorem d_Pf_fillFailing_73 : decode y_Pf_fillFailing.2.1 73 = .ok (.aload_n 0, 1) := by decide +kernel
theorem d_Pf_fillFailing_74 : decode y_Pf_fillFailing.2.1 74 = .ok (.getfield 11, 3) := by decide +kernel
theorem d_Pf_fillFailing_77 : decode y_Pf_fillFailing.2.1 77 = .ok (.iload_n 3, 1) := by decide +kernel
theorem d_Pf_fillFailing_78 : decode y_Pf_fillFailing.2.1 78 = .ok (.iload 4, 2) := by decide +kernel
theorem d_Pf_fillFailing_80 : decode y_Pf_fillFailing.2.1 80 = .ok (.iconst 1, 1) := by decide +kernel
theorem s_Pf_fillFailing_73 : aw_VS y_Pf_fillFailing 73 [o_ald 0, o_getA 5 2, o_ild 3, o_ild 4, o_c (.int (1 : Int32))] 81 := .cons (v_aload_n (i := 0) d_Pf_fillFailing_73 rfl) (.cons (v_getA (k := 2) k_Pf (by decide) rfl (Or.inl w_349) d_Pf_fillFailing_74) (.cons (v_iload_n (i := 3) d_Pf_fillFailing_77 rfl) (.cons (v_iload (i := 4) d_Pf_fillFailing_78) (.cons (v_iconst (v := (1 : Int32)) d_Pf_fillFailing_80 (by decide +kernel)) .nil))))
theorem d_Pf_fillFailing_81 : decode y_Pf_fillFailing.2.1 81 = .ok (.invokestatic 117, 3) := by decide +kernel
theorem b_Pf_fillFailing_73 {X : aw_X} {d : Nat} {Q : Option Value → aw_H → Prop} {I : Nat → Nat → Int32} {L : Nat → Nat → Int64} {D : Nat → Nat} {c1 : Nat} {v2 : Int32} {v3 : Int32} {v4 : Int32} {s2 : Int32} {s1 : Int32}
    (h1 : aw_m X d y_Pf_half [.int v3, .int v4, .int (1 : Int32)] (aw_s I L D) (fun r A => aw_z X (d + 1) y_Pf_fillFailing Q 84 [some (.ref 23), some (.ref c1), some (.int v2), some (.int v3), none] (r.toList ++ [.ref 24, .int s2, .int s1, .ref 24]) A)) :
    aw_z X (d + 1) y_Pf_fillFailing Q 73 [some (.ref 23), some (.ref c1), some (.int v2), some (.int v3), some (.int v4)] [.int s2, .int s1, .ref 24] (aw_s I L D) :=
  (s_Pf_fillFailing_73.go [some (.ref 23), some (.ref c1), some (.int v2), some (.int v3), some (.int v4)] [.int (1 : Int32), .int v4, .int v3, .ref 24, .int s2, .int s1, .ref 24] (aw_s I L D) rfl (z_callS (av := [.int v3, .int v4, .int (1 : Int32)]) (st := [.ref 24, .int s2, .int s1, .ref 24]) ok_Pf_half (Or.inl w_1311) w_1312 d_Pf_fillFailing_81 rfl rfl (Nat.le_of_ble_eq_true rfl) (Nat.le_refl _) (Nat.le_refl _) (aw_C.mono (h1) (fun _ _ zz => aw_Z.weak (ls' := [some (.ref 23), some (.ref c1), some (.int v2), some (.int v3), none]) zz (Nat.le_of_ble_eq_true rfl) ⟨Or.inr rfl, ⟨Or.inr rfl, ⟨Or.inr rfl, ⟨Or.inr rfl, ⟨Or.inl rfl, trivial⟩⟩⟩⟩⟩))))
theorem d_Pf_fillFailing_50 : decode y_Pf_fillFailing.2.1 50 = .ok (.iastore, 1) := by decide +kernel
theorem d_Pf_fillFailing_51 : decode y_Pf_fillFailing.2.1 51 = .ok (.goto (38), 3) := by decide +kernel
theorem d_Pf_fillFailing_89 : decode y_Pf_fillFailing.2.1 89 = .ok (.iinc 3 (1), 3) := by decide +kernel
theorem s_Pf_fillFailing_89 : aw_VS y_Pf_fillFailing 89 [o_inc 3 (1 : Int32)] 92 := .cons (v_iinc (k0 := (1 : Int32)) d_Pf_fillFailing_89 (by decide +kernel)) .nil
theorem d_Pf_fillFailing_92 : decode y_Pf_fillFailing.2.1 92 = .ok (.goto (-85), 3) := by decide +kernel
theorem b_Pf_fillFailing_50 {X : aw_X} {d : Nat} {Q : Option Value → aw_H → Prop} {I : Nat → Nat → Int32} {L : Nat → Nat → Int64} {D : Nat → Nat} {c1 : Nat} {v2 : Int32} {v3 : Int32} {s2 : Int32} {s1 : Int32}
    (h1 : vp_in s1 6561)
    (h2 : aw_z X (d + 1) y_Pf_fillFailing Q 7 [some (.ref 23), some (.ref c1), some (.int v2), some (.int (v3 + (1 : Int32))), none] [] (aw_s (aw_u I 24 s1.toNatClampNeg s2) L D)) :
    aw_z X (d + 1) y_Pf_fillFailing Q 50 [some (.ref 23), some (.ref c1), some (.int v2), some (.int v3), none] [.int s2, .int s1, .ref 24] (aw_s I L D) :=
  (z_iast (n := 6561) rfl (aw_lt (o := 24) rfl) (h1) d_Pf_fillFailing_50 (z_goto (tgt := 89) d_Pf_fillFailing_51 rfl (s_Pf_fillFailing_89.go [some (.ref 23), some (.ref c1), some (.int v2), some (.int (v3 + (1 : Int32))), none] [] (aw_s (aw_u I 24 s1.toNatClampNeg s2) L D) rfl (z_goto (tgt := 7) d_Pf_fillFailing_92 rfl (h2)))))
theorem d_Pf_fillFailing_84 : decode y_Pf_fillFailing.2.1 84 = .ok (.invokestatic 51, 3) := by decide +kernel
theorem b_Pf_fillFailing_84 {X : aw_X} {d : Nat} {Q : Option Value → aw_H → Prop} {I : Nat → Nat → Int32} {L : Nat → Nat → Int64} {D : Nat → Nat} {c1 : Nat} {v2 : Int32} {v3 : Int32} {s4 : Int32} {s2 : Int32} {s1 : Int32}
    (h1 : aw_m X d y_AW_valueAt_aII [.ref 24, .int s4] (aw_s I L D) (fun r A => aw_z X (d + 1) y_Pf_fillFailing Q 87 [some (.ref 23), some (.ref c1), some (.int v2), some (.int v3), none] (r.toList ++ [.int s2, .int s1, .ref 24]) A)) :
    aw_z X (d + 1) y_Pf_fillFailing Q 84 [some (.ref 23), some (.ref c1), some (.int v2), some (.int v3), none] [.int s4, .ref 24, .int s2, .int s1, .ref 24] (aw_s I L D) :=
  (z_callS (av := [.ref 24, .int s4]) (st := [.int s2, .int s1, .ref 24]) ok_AW_valueAt_aII (Or.inr ⟨"AllWays", w_1295⟩) w_927 d_Pf_fillFailing_84 rfl rfl (Nat.le_of_ble_eq_true rfl) (Nat.le_refl _) (Nat.le_refl _) (h1))
theorem d_Pf_fillFailing_87 : decode y_Pf_fillFailing.2.1 87 = .ok (.iand, 1) := by decide +kernel
theorem s_Pf_fillFailing_87 : aw_VS y_Pf_fillFailing 87 [o_i2 (fun x z => x &&& z)] 88 := .cons (v_iand d_Pf_fillFailing_87) .nil
theorem d_Pf_fillFailing_88 : decode y_Pf_fillFailing.2.1 88 = .ok (.iastore, 1) := by decide +kernel
theorem b_Pf_fillFailing_87 {X : aw_X} {d : Nat} {Q : Option Value → aw_H → Prop} {I : Nat → Nat → Int32} {L : Nat → Nat → Int64} {D : Nat → Nat} {c1 : Nat} {v2 : Int32} {v3 : Int32} {s3 : Int32} {s2 : Int32} {s1 : Int32}
    (h1 : vp_in s1 6561)
    (h2 : aw_z X (d + 1) y_Pf_fillFailing Q 7 [some (.ref 23), some (.ref c1), some (.int v2), some (.int (v3 + (1 : Int32))), none] [] (aw_s (aw_u I 24 s1.toNatClampNeg (s2 &&& s3)) L D)) :
    aw_z X (d + 1) y_Pf_fillFailing Q 87 [some (.ref 23), some (.ref c1), some (.int v2), some (.int v3), none] [.int s3, .int s2, .int s1, .ref 24] (aw_s I L D) :=
  (s_Pf_fillFailing_87.go [some (.ref 23), some (.ref c1), some (.int v2), some (.int v3), none] [.int (s2 &&& s3), .int s1, .ref 24] (aw_s I L D) rfl (z_iast (n := 6561) rfl (aw_lt (o := 24) rfl) (h1) d_Pf_fillFailing_88 (s_Pf_fillFailing_89.go [some (.ref 23), some (.ref c1), some (.int v2), some (.int (v3 + (1 : Int32))), none] [] (aw_s (aw_u I 24 s1.toNatClampNeg (s2 &&& s3)) L D) rfl (z_goto (tgt := 7) d_Pf_fillFailing_92 rfl (h2)))))
/-! Pf_lowestEither -/
theorem d_Pf_lowestEither_0 : decode y_Pf_lowestEither.2.1 0 = .ok (.iconst 0, 1) := by decide +kernel
theorem d_Pf_lowestEither_1 : decode y_Pf_lowestEither.2.1 1 = .ok (.istore_n 2, 1) := by decide +kernel
theorem s_Pf_lowestEither_0 : aw_VS y_Pf_lowestEither 0 [o_c (.int (0 : Int32)), o_ist 2] 2 := .cons (v_iconst (v := (0 : Int32)) d_Pf_lowestEither_0 (by decide +kernel)) (.cons (v_istore_n d_Pf_lowestEither_1) .nil)
theorem b_Pf_lowestEither_0 {X : aw_X} {d : Nat} {Q : Option Value → aw_H → Prop} {I : Nat → Nat → Int32} {L : Nat → Nat → Int64} {D : Nat → Nat} {v1 : Int32}
    (h1 : aw_z X (d + 1) y_Pf_lowestEither Q 2 [some (.ref 23), some (.int v1), some (.int (0 : Int32))] [] (aw_s I L D)) :
    aw_z X (d + 1) y_Pf_lowestEither Q 0 [some (.ref 23), some (.int v1), none] [] (aw_s I L D) :=
  (s_Pf_lowestEither_0.go [some (.ref 23), some (.int v1), some (.int (0 : Int32))] [] (aw_s I L D) rfl (h1))
theorem d_Pf_lowestEither_2 : decode y_Pf_lowestEither.2.1 2 = .ok (.iload_n 2, 1) := by decide +kernel
theorem d_Pf_lowestEither_3 : decode y_Pf_lowestEither.2.1 3 = .ok (.aload_n 0, 1) := by decide +kernel
theorem d_Pf_lowestEither_4 : decode y_Pf_lowestEither.2.1 4 = .ok (.getfield 27, 3) := by decide +kernel
theorem s_Pf_lowestEither_2 : aw_VS y_Pf_lowestEither 2 [o_ild 2, o_ald 0, o_getA 5 0] 7 := .cons (v_iload_n (i := 2) d_Pf_lowestEither_2 rfl) (.cons (v_aload_n (i := 0) d_Pf_lowestEither_3 rfl) (.cons (v_getA (k := 0) k_Pf (by decide) rfl (Or.inl w_347) d_Pf_lowestEither_4) .nil))
theorem d_Pf_lowestEither_7 : decode y_Pf_lowestEither.2.1 7 = .ok (.invokevirtual 86, 3) := by decide +kernel
theorem b_Pf_lowestEither_2 {X : aw_X} {d : Nat} {Q : Option Value → aw_H → Prop} {I : Nat → Nat → Int32} {L : Nat → Nat → Int64} {D : Nat → Nat} {v1 : Int32} {v2 : Int32}
    (h1 : aw_m X d y_Sz_rowBits [.ref 1] (aw_s I L D) (fun r A => aw_z X (d + 1) y_Pf_lowestEither Q 10 [some (.ref 23), some (.int v1), some (.int v2)] (r.toList ++ [.int v2]) A)) :
    aw_z X (d + 1) y_Pf_lowestEither Q 2 [some (.ref 23), some (.int v1), some (.int v2)] [] (aw_s I L D) :=
  (s_Pf_lowestEither_2.go [some (.ref 23), some (.int v1), some (.int v2)] [.ref 1, .int v2] (aw_s I L D) rfl (z_callV (av := []) (st := [.int v2]) ok_Sz_rowBits (Or.inl w_1294) w_882 w_883 k_Sz d_Pf_lowestEither_7 rfl (aw_lt (o := 1) rfl) rfl rfl (Nat.le_of_ble_eq_true rfl) (Nat.le_refl _) (Nat.le_refl _) (h1)))
theorem d_Pf_lowestEither_10 : decode y_Pf_lowestEither.2.1 10 = .ok (.if_icmp .ge (20), 3) := by decide +kernel
theorem d_Pf_lowestEither_30 : decode y_Pf_lowestEither.2.1 30 = .ok (.iconst (-1), 1) := by decide +kernel
theorem s_Pf_lowestEither_30 : aw_VS y_Pf_lowestEither 30 [o_c (.int (-1 : Int32))] 31 := .cons (v_iconst (v := (-1 : Int32)) d_Pf_lowestEither_30 (by decide +kernel)) .nil
theorem d_Pf_lowestEither_31 : decode y_Pf_lowestEither.2.1 31 = .ok (.ireturn, 1) := by decide +kernel
theorem d_Pf_lowestEither_13 : decode y_Pf_lowestEither.2.1 13 = .ok (.iload_n 1, 1) := by decide +kernel
theorem d_Pf_lowestEither_14 : decode y_Pf_lowestEither.2.1 14 = .ok (.iload_n 2, 1) := by decide +kernel
theorem s_Pf_lowestEither_13 : aw_VS y_Pf_lowestEither 13 [o_ild 1, o_ild 2] 15 := .cons (v_iload_n (i := 1) d_Pf_lowestEither_13 rfl) (.cons (v_iload_n (i := 2) d_Pf_lowestEither_14 rfl) .nil)
theorem d_Pf_lowestEither_15 : decode y_Pf_lowestEither.2.1 15 = .ok (.invokestatic 91, 3) := by decide +kernel
theorem b_Pf_lowestEither_10 {X : aw_X} {d : Nat} {Q : Option Value → aw_H → Prop} {I : Nat → Nat → Int32} {L : Nat → Nat → Int64} {D : Nat → Nat} {v1 : Int32} {v2 : Int32} {s1 : Int32} {s0 : Int32}
    (h1 : s1 ≤ s0 → Q (some (.int (-1 : Int32))) (aw_s I L D))
    (h2 : ¬ s1 ≤ s0 → aw_m X d y_Pf_digit [.int v1, .int v2] (aw_s I L D) (fun r A => aw_z X (d + 1) y_Pf_lowestEither Q 18 [some (.ref 23), some (.int v1), some (.int v2)] (r.toList ++ []) A)) :
    aw_z X (d + 1) y_Pf_lowestEither Q 10 [some (.ref 23), some (.int v1), some (.int v2)] [.int s1, .int s0] (aw_s I L D) :=
  (z_icmp_ge (tgt := 30) d_Pf_lowestEither_10 rfl (fun q1 => (s_Pf_lowestEither_30.go [some (.ref 23), some (.int v1), some (.int v2)] [.int (-1 : Int32)] (aw_s I L D) rfl (z_iret d_Pf_lowestEither_31 rfl rfl (h1 q1)))) (fun q2 => (s_Pf_lowestEither_13.go [some (.ref 23), some (.int v1), some (.int v2)] [.int v2, .int v1] (aw_s I L D) rfl (z_callS (av := [.int v1, .int v2]) (st := []) ok_Pf_digit (Or.inl w_1300) w_1301 d_Pf_lowestEither_15 rfl rfl (Nat.le_of_ble_eq_true rfl) (Nat.le_refl _) (Nat.le_refl _) (h2 q2)))))
theorem d_Pf_lowestEither_18 : decode y_Pf_lowestEither.2.1 18 = .ok (.iconst 2, 1) := by decide +kernel
theorem s_Pf_lowestEither_18 : aw_VS y_Pf_lowestEither 18 [o_c (.int (2 : Int32))] 19 := .cons (v_iconst (v := (2 : Int32)) d_Pf_lowestEither_18 (by decide +kernel)) .nil
theorem d_Pf_lowestEither_19 : decode y_Pf_lowestEither.2.1 19 = .ok (.if_icmp .ne (5), 3) := by decide +kernel
theorem d_Pf_lowestEither_24 : decode y_Pf_lowestEither.2.1 24 = .ok (.iinc 2 (1), 3) := by decide +kernel
theorem s_Pf_lowestEither_24 : aw_VS y_Pf_lowestEither 24 [o_inc 2 (1 : Int32)] 27 := .cons (v_iinc (k0 := (1 : Int32)) d_Pf_lowestEither_24 (by decide +kernel)) .nil
theorem d_Pf_lowestEither_27 : decode y_Pf_lowestEither.2.1 27 = .ok (.goto (-25), 3) := by decide +kernel
theorem d_Pf_lowestEither_22 : decode y_Pf_lowestEither.2.1 22 = .ok (.iload_n 2, 1) := by decide +kernel
theorem s_Pf_lowestEither_22 : aw_VS y_Pf_lowestEither 22 [o_ild 2] 23 := .cons (v_iload_n (i := 2) d_Pf_lowestEither_22 rfl) .nil
theorem d_Pf_lowestEither_23 : decode y_Pf_lowestEither.2.1 23 = .ok (.ireturn, 1) := by decide +kernel
theorem b_Pf_lowestEither_18 {X : aw_X} {d : Nat} {Q : Option Value → aw_H → Prop} {I : Nat → Nat → Int32} {L : Nat → Nat → Int64} {D : Nat → Nat} {v1 : Int32} {v2 : Int32} {s0 : Int32}
    (h1 : ¬ s0 = (2 : Int32) → aw_z X (d + 1) y_Pf_lowestEither Q 2 [some (.ref 23), some (.int v1), some (.int (v2 + (1 : Int32)))] [] (aw_s I L D))
    (h2 : s0 = (2 : Int32) → Q (some (.int v2)) (aw_s I L D)) :
    aw_z X (d + 1) y_Pf_lowestEither Q 18 [some (.ref 23), some (.int v1), some (.int v2)] [.int s0] (aw_s I L D) :=
  (s_Pf_lowestEither_18.go [some (.ref 23), some (.int v1), some (.int v2)] [.int (2 : Int32), .int s0] (aw_s I L D) rfl (z_icmp_ne (tgt := 24) d_Pf_lowestEither_19 rfl (fun q1 => (s_Pf_lowestEither_24.go [some (.ref 23), some (.int v1), some (.int (v2 + (1 : Int32)))] [] (aw_s I L D) rfl (z_goto (tgt := 2) d_Pf_lowestEither_27 rfl (h1 q1)))) (fun q2 => (s_Pf_lowestEither_22.go [some (.ref 23), some (.int v1), some (.int v2)] [.int v2] (aw_s I L D) rfl (z_iret d_Pf_lowestEither_23 rfl rfl (h2 q2))))))
/-! Pf_digit -/
theorem d_Pf_digit_0 : decode y_Pf_digit.2.1 0 = .ok (.iload_n 1, 1) := by decide +kernel
theorem s_Pf_digit_0 : aw_VS y_Pf_digit 0 [o_ild 1] 1 := .cons (v_iload_n (i := 1) d_Pf_digit_0 rfl) .nil
theorem d_Pf_digit_1 : decode y_Pf_digit.2.1 1 = .ok (.invokestatic 102, 3) := by decide +kernel
theorem b_Pf_digit_0 {X : aw_X} {d : Nat} {Q : Option Value → aw_H → Prop} {I : Nat → Nat → Int32} {L : Nat → Nat → Int64} {D : Nat → Nat} {v0 : Int32} {v1 : Int32}
    (h1 : aw_m X d y_Pf_three [.int v1] (aw_s I L D) (fun r A => aw_z X (d + 1) y_Pf_digit Q 4 [some (.int v0), none, none] (r.toList ++ []) A)) :
    aw_z X (d + 1) y_Pf_digit Q 0 [some (.int v0), some (.int v1), none] [] (aw_s I L D) :=
  (s_Pf_digit_0.go [some (.int v0), some (.int v1), none] [.int v1] (aw_s I L D) rfl (z_callS (av := [.int v1]) (st := []) ok_Pf_three (Or.inl w_1303) w_1304 d_Pf_digit_1 rfl rfl (Nat.le_of_ble_eq_true rfl) (Nat.le_refl _) (Nat.le_refl _) (aw_C.mono (h1) (fun _ _ zz => aw_Z.weak (ls' := [some (.int v0), none, none]) zz (Nat.le_of_ble_eq_true rfl) ⟨Or.inr rfl, ⟨Or.inl rfl, ⟨Or.inl rfl, trivial⟩⟩⟩))))
theorem d_Pf_digit_4 : decode y_Pf_digit.2.1 4 = .ok (.istore_n 2, 1) := by decide +kernel
theorem d_Pf_digit_5 : decode y_Pf_digit.2.1 5 = .ok (.iload_n 2, 1) := by decide +kernel
theorem s_Pf_digit_4 : aw_VS y_Pf_digit 4 [o_ist 2, o_ild 2] 6 := .cons (v_istore_n d_Pf_digit_4) (.cons (v_iload_n (i := 2) d_Pf_digit_5 rfl) .nil)
theorem d_Pf_digit_6 : decode y_Pf_digit.2.1 6 = .ok (.ifCond .le (11), 3) := by decide +kernel
theorem d_Pf_digit_17 : decode y_Pf_digit.2.1 17 = .ok (.iconst 0, 1) := by decide +kernel
theorem s_Pf_digit_17 : aw_VS y_Pf_digit 17 [o_c (.int (0 : Int32))] 18 := .cons (v_iconst (v := (0 : Int32)) d_Pf_digit_17 (by decide +kernel)) .nil
theorem d_Pf_digit_18 : decode y_Pf_digit.2.1 18 = .ok (.ireturn, 1) := by decide +kernel
theorem d_Pf_digit_9 : decode y_Pf_digit.2.1 9 = .ok (.iload_n 0, 1) := by decide +kernel
theorem d_Pf_digit_10 : decode y_Pf_digit.2.1 10 = .ok (.iload_n 2, 1) := by decide +kernel
theorem s_Pf_digit_9 : aw_VS y_Pf_digit 9 [o_ild 0, o_ild 2] 11 := .cons (v_iload_n (i := 0) d_Pf_digit_9 rfl) (.cons (v_iload_n (i := 2) d_Pf_digit_10 rfl) .nil)
theorem d_Pf_digit_11 : decode y_Pf_digit.2.1 11 = .ok (.idiv, 1) := by decide +kernel
theorem d_Pf_digit_12 : decode y_Pf_digit.2.1 12 = .ok (.iconst 3, 1) := by decide +kernel
theorem s_Pf_digit_12 : aw_VS y_Pf_digit 12 [o_c (.int (3 : Int32))] 13 := .cons (v_iconst (v := (3 : Int32)) d_Pf_digit_12 (by decide +kernel)) .nil
theorem d_Pf_digit_13 : decode y_Pf_digit.2.1 13 = .ok (.irem, 1) := by decide +kernel
theorem d_Pf_digit_14 : decode y_Pf_digit.2.1 14 = .ok (.goto (4), 3) := by decide +kernel
theorem b_Pf_digit_4 {X : aw_X} {d : Nat} {Q : Option Value → aw_H → Prop} {I : Nat → Nat → Int32} {L : Nat → Nat → Int64} {D : Nat → Nat} {v0 : Int32} {s0 : Int32}
    (h1 : s0 ≤ 0 → Q (some (.int (0 : Int32))) (aw_s I L D))
    (h2 : ¬ s0 ≤ 0 → ¬ s0 = 0)
    (h3 : ¬ s0 ≤ 0 → Q (some (.int ((v0 / s0) - (v0 / s0) / (3 : Int32) * (3 : Int32)))) (aw_s I L D)) :
    aw_z X (d + 1) y_Pf_digit Q 4 [some (.int v0), none, none] [.int s0] (aw_s I L D) :=
  (s_Pf_digit_4.go [some (.int v0), none, some (.int s0)] [.int s0] (aw_s I L D) rfl (z_if_le (tgt := 17) d_Pf_digit_6 rfl (fun q1 => (s_Pf_digit_17.go [some (.int v0), none, some (.int s0)] [.int (0 : Int32)] (aw_s I L D) rfl (z_iret d_Pf_digit_18 rfl rfl (h1 q1)))) (fun q2 => (s_Pf_digit_9.go [some (.int v0), none, some (.int s0)] [.int s0, .int v0] (aw_s I L D) rfl (z_idiv d_Pf_digit_11 (h2 q2) (s_Pf_digit_12.go [some (.int v0), none, some (.int s0)] [.int (3 : Int32), .int (v0 / s0)] (aw_s I L D) rfl (z_irem d_Pf_digit_13 (by decide +kernel) (z_goto (tgt := 18) d_Pf_digit_14 rfl (z_iret d_Pf_digit_18 rfl rfl (h3 q2))))))))))
/-! Pf_rowOf -/
theorem d_Pf_rowOf_0 : decode y_Pf_rowOf.2.1 0 = .ok (.iconst 0, 1) := by decide +kernel
theorem d_Pf_rowOf_1 : decode y_Pf_rowOf.2.1 1 = .ok (.istore_n 2, 1) := by decide +kernel
theorem d_Pf_rowOf_2 : decode y_Pf_rowOf.2.1 2 = .ok (.iconst 0, 1) := by decide +kernel
theorem d_Pf_rowOf_3 : decode y_Pf_rowOf.2.1 3 = .ok (.istore_n 3, 1) := by decide +kernel
theorem s_Pf_rowOf_0 : aw_VS y_Pf_rowOf 0 [o_c (.int (0 : Int32)), o_ist 2, o_c (.int (0 : Int32)), o_ist 3] 4 := .cons (v_iconst (v := (0 : Int32)) d_Pf_rowOf_0 (by decide +kernel)) (.cons (v_istore_n d_Pf_rowOf_1) (.cons (v_iconst (v := (0 : Int32)) d_Pf_rowOf_2 (by decide +kernel)) (.cons (v_istore_n d_Pf_rowOf_3) .nil)))
theorem b_Pf_rowOf_0 {X : aw_X} {d : Nat} {Q : Option Value → aw_H → Prop} {I : Nat → Nat → Int32} {L : Nat → Nat → Int64} {D : Nat → Nat} {v1 : Int32}
    (h1 : aw_z X (d + 1) y_Pf_rowOf Q 4 [some (.ref 23), some (.int v1), some (.int (0 : Int32)), some (.int (0 : Int32))] [] (aw_s I L D)) :
    aw_z X (d + 1) y_Pf_rowOf Q 0 [some (.ref 23), some (.int v1), none, none] [] (aw_s I L D) :=
  (s_Pf_rowOf_0.go [some (.ref 23), some (.int v1), some (.int (0 : Int32)), some (.int (0 : Int32))] [] (aw_s I L D) rfl (h1))
theorem d_Pf_rowOf_4 : decode y_Pf_rowOf.2.1 4 = .ok (.iload_n 3, 1) := by decide +kernel
theorem d_Pf_rowOf_5 : decode y_Pf_rowOf.2.1 5 = .ok (.aload_n 0, 1) := by decide +kernel
theorem d_Pf_rowOf_6 : decode y_Pf_rowOf.2.1 6 = .ok (.getfield 27, 3) := by decide +kernel
theorem s_Pf_rowOf_4 : aw_VS y_Pf_rowOf 4 [o_ild 3, o_ald 0, o_getA 5 0] 9 := .cons (v_iload_n (i := 3) d_Pf_rowOf_4 rfl) (.cons (v_aload_n (i := 0) d_Pf_rowOf_5 rfl) (.cons (v_getA (k := 0) k_Pf (by decide) rfl (Or.inl w_347) d_Pf_rowOf_6) .nil))
theorem d_Pf_rowOf_9 : decode y_Pf_rowOf.2.1 9 = .ok (.invokevirtual 86, 3) := by decide +kernel
theorem b_Pf_rowOf_4 {X : aw_X} {d : Nat} {Q : Option Value → aw_H → Prop} {I : Nat → Nat → Int32} {L : Nat → Nat → Int64} {D : Nat → Nat} {v1 : Int32} {v2 : Int32} {v3 : Int32}
    (h1 : aw_m X d y_Sz_rowBits [.ref 1] (aw_s I L D) (fun r A => aw_z X (d + 1) y_Pf_rowOf Q 12 [some (.ref 23), some (.int v1), some (.int v2), some (.int v3)] (r.toList ++ [.int v3]) A)) :
    aw_z X (d + 1) y_Pf_rowOf Q 4 [some (.ref 23), some (.int v1), some (.int v2), some (.int v3)] [] (aw_s I L D) :=
  (s_Pf_rowOf_4.go [some (.ref 23), some (.int v1), some (.int v2), some (.int v3)] [.ref 1, .int v3] (aw_s I L D) rfl (z_callV (av := []) (st := [.int v3]) ok_Sz_rowBits (Or.inl w_1294) w_882 w_883 k_Sz d_Pf_rowOf_9 rfl (aw_lt (o := 1) rfl) rfl rfl (Nat.le_of_ble_eq_true rfl) (Nat.le_refl _) (Nat.le_refl _) (h1)))
theorem d_Pf_rowOf_12 : decode y_Pf_rowOf.2.1 12 = .ok (.if_icmp .ge (19), 3) := by decide +kernel
theorem d_Pf_rowOf_31 : decode y_Pf_rowOf.2.1 31 = .ok (.iload_n 2, 1) := by decide +kernel
theorem s_Pf_rowOf_31 : aw_VS y_Pf_rowOf 31 [o_ild 2] 32 := .cons (v_iload_n (i := 2) d_Pf_rowOf_31 rfl) .nil
theorem d_Pf_rowOf_32 : decode y_Pf_rowOf.2.1 32 = .ok (.ireturn, 1) := by decide +kernel
theorem d_Pf_rowOf_15 : decode y_Pf_rowOf.2.1 15 = .ok (.iload_n 2, 1) := by decide +kernel
theorem d_Pf_rowOf_16 : decode y_Pf_rowOf.2.1 16 = .ok (.iload_n 1, 1) := by decide +kernel
theorem d_Pf_rowOf_17 : decode y_Pf_rowOf.2.1 17 = .ok (.iload_n 3, 1) := by decide +kernel
theorem s_Pf_rowOf_15 : aw_VS y_Pf_rowOf 15 [o_ild 2, o_ild 1, o_ild 3] 18 := .cons (v_iload_n (i := 2) d_Pf_rowOf_15 rfl) (.cons (v_iload_n (i := 1) d_Pf_rowOf_16 rfl) (.cons (v_iload_n (i := 3) d_Pf_rowOf_17 rfl) .nil))
theorem d_Pf_rowOf_18 : decode y_Pf_rowOf.2.1 18 = .ok (.invokestatic 91, 3) := by decide +kernel
theorem b_Pf_rowOf_12 {X : aw_X} {d : Nat} {Q : Option Value → aw_H → Prop} {I : Nat → Nat → Int32} {L : Nat → Nat → Int64} {D : Nat → Nat} {v1 : Int32} {v2 : Int32} {v3 : Int32} {s1 : Int32} {s0 : Int32}
    (h1 : s1 ≤ s0 → Q (some (.int v2)) (aw_s I L D))
    (h2 : ¬ s1 ≤ s0 → aw_m X d y_Pf_digit [.int v1, .int v3] (aw_s I L D) (fun r A => aw_z X (d + 1) y_Pf_rowOf Q 21 [some (.ref 23), some (.int v1), none, some (.int v3)] (r.toList ++ [.int v2]) A)) :
    aw_z X (d + 1) y_Pf_rowOf Q 12 [some (.ref 23), some (.int v1), some (.int v2), some (.int v3)] [.int s1, .int s0] (aw_s I L D) :=
  (z_icmp_ge (tgt := 31) d_Pf_rowOf_12 rfl (fun q1 => (s_Pf_rowOf_31.go [some (.ref 23), some (.int v1), some (.int v2), some (.int v3)] [.int v2] (aw_s I L D) rfl (z_iret d_Pf_rowOf_32 rfl rfl (h1 q1)))) (fun q2 => (s_Pf_rowOf_15.go [some (.ref 23), some (.int v1), some (.int v2), some (.int v3)] [.int v3, .int v1, .int v2] (aw_s I L D) rfl (z_callS (av := [.int v1, .int v3]) (st := [.int v2]) ok_Pf_digit (Or.inl w_1300) w_1301 d_Pf_rowOf_18 rfl rfl (Nat.le_of_ble_eq_true rfl) (Nat.le_refl _) (Nat.le_refl _) (aw_C.mono (h2 q2) (fun _ _ zz => aw_Z.weak (ls' := [some (.ref 23), some (.int v1), none, some (.int v3)]) zz (Nat.le_of_ble_eq_true rfl) ⟨Or.inr rfl, ⟨Or.inr rfl, ⟨Or.inl rfl, ⟨Or.inr rfl, trivial⟩⟩⟩⟩))))))
theorem d_Pf_rowOf_21 : decode y_Pf_rowOf.2.1 21 = .ok (.iload_n 3, 1) := by decide +kernel
theorem d_Pf_rowOf_22 : decode y_Pf_rowOf.2.1 22 = .ok (.ishl, 1) := by decide +kernel
theorem d_Pf_rowOf_23 : decode y_Pf_rowOf.2.1 23 = .ok (.ior, 1) := by decide +kernel
theorem d_Pf_rowOf_24 : decode y_Pf_rowOf.2.1 24 = .ok (.istore_n 2, 1) := by decide +kernel
theorem d_Pf_rowOf_25 : decode y_Pf_rowOf.2.1 25 = .ok (.iinc 3 (1), 3) := by decide +kernel
theorem s_Pf_rowOf_21 : aw_VS y_Pf_rowOf 21 [o_ild 3, o_i2 (fun x z => x <<< (z &&& 31)), o_i2 (fun x z => x ||| z), o_ist 2, o_inc 3 (1 : Int32)] 28 := .cons (v_iload_n (i := 3) d_Pf_rowOf_21 rfl) (.cons (v_ishl d_Pf_rowOf_22) (.cons (v_ior d_Pf_rowOf_23) (.cons (v_istore_n d_Pf_rowOf_24) (.cons (v_iinc (k0 := (1 : Int32)) d_Pf_rowOf_25 (by decide +kernel)) .nil))))
theorem d_Pf_rowOf_28 : decode y_Pf_rowOf.2.1 28 = .ok (.goto (-24), 3) := by decide +kernel
theorem b_Pf_rowOf_21 {X : aw_X} {d : Nat} {Q : Option Value → aw_H → Prop} {I : Nat → Nat → Int32} {L : Nat → Nat → Int64} {D : Nat → Nat} {v1 : Int32} {v3 : Int32} {s1 : Int32} {s0 : Int32}
    (h1 : aw_z X (d + 1) y_Pf_rowOf Q 4 [some (.ref 23), some (.int v1), some (.int (s0 ||| (s1 <<< (v3 &&& 31)))), some (.int (v3 + (1 : Int32)))] [] (aw_s I L D)) :
    aw_z X (d + 1) y_Pf_rowOf Q 21 [some (.ref 23), some (.int v1), none, some (.int v3)] [.int s1, .int s0] (aw_s I L D) :=
  (s_Pf_rowOf_21.go [some (.ref 23), some (.int v1), some (.int (s0 ||| (s1 <<< (v3 &&& 31)))), some (.int (v3 + (1 : Int32)))] [] (aw_s I L D) rfl (z_goto (tgt := 4) d_Pf_rowOf_28 rfl (h1)))
/-! Pf_half -/
theorem d_Pf_half_0 : decode y_Pf_half.2.1 0 = .ok (.iload_n 0, 1) := by decide +kernel
theorem d_Pf_half_1 : decode y_Pf_half.2.1 1 = .ok (.iconst 2, 1) := by decide +kernel
theorem d_Pf_half_2 : decode y_Pf_half.2.1 2 = .ok (.iload_n 2, 1) := by decide +kernel
theorem d_Pf_half_3 : decode y_Pf_half.2.1 3 = .ok (.isub, 1) := by decide +kernel
theorem d_Pf_half_4 : decode y_Pf_half.2.1 4 = .ok (.iload_n 1, 1) := by decide +kernel
theorem s_Pf_half_0 : aw_VS y_Pf_half 0 [o_ild 0, o_c (.int (2 : Int32)), o_ild 2, o_i2 (fun x z => x - z), o_ild 1] 5 := .cons (v_iload_n (i := 0) d_Pf_half_0 rfl) (.cons (v_iconst (v := (2 : Int32)) d_Pf_half_1 (by decide +kernel)) (.cons (v_iload_n (i := 2) d_Pf_half_2 rfl) (.cons (v_isub d_Pf_half_3) (.cons (v_iload_n (i := 1) d_Pf_half_4 rfl) .nil))))
theorem d_Pf_half_5 : decode y_Pf_half.2.1 5 = .ok (.invokestatic 102, 3) := by decide +kernel
theorem b_Pf_half_0 {X : aw_X} {d : Nat} {Q : Option Value → aw_H → Prop} {I : Nat → Nat → Int32} {L : Nat → Nat → Int64} {D : Nat → Nat} {v0 : Int32} {v1 : Int32} {v2 : Int32}
    (h1 : aw_m X d y_Pf_three [.int v1] (aw_s I L D) (fun r A => aw_z X (d + 1) y_Pf_half Q 8 [none, none, none] (r.toList ++ [.int ((2 : Int32) - v2), .int v0]) A)) :
    aw_z X (d + 1) y_Pf_half Q 0 [some (.int v0), some (.int v1), some (.int v2)] [] (aw_s I L D) :=
  (s_Pf_half_0.go [some (.int v0), some (.int v1), some (.int v2)] [.int v1, .int ((2 : Int32) - v2), .int v0] (aw_s I L D) rfl (z_callS (av := [.int v1]) (st := [.int ((2 : Int32) - v2), .int v0]) ok_Pf_three (Or.inl w_1303) w_1304 d_Pf_half_5 rfl rfl (Nat.le_of_ble_eq_true rfl) (Nat.le_refl _) (Nat.le_refl _) (aw_C.mono (h1) (fun _ _ zz => aw_Z.weak (ls' := [none, none, none]) zz (Nat.le_of_ble_eq_true rfl) ⟨Or.inl rfl, ⟨Or.inl rfl, ⟨Or.inl rfl, trivial⟩⟩⟩))))
theorem d_Pf_half_8 : decode y_Pf_half.2.1 8 = .ok (.imul, 1) := by decide +kernel
theorem d_Pf_half_9 : decode y_Pf_half.2.1 9 = .ok (.isub, 1) := by decide +kernel
theorem s_Pf_half_8 : aw_VS y_Pf_half 8 [o_i2 (fun x z => x * z), o_i2 (fun x z => x - z)] 10 := .cons (v_imul d_Pf_half_8) (.cons (v_isub d_Pf_half_9) .nil)
theorem d_Pf_half_10 : decode y_Pf_half.2.1 10 = .ok (.ireturn, 1) := by decide +kernel
theorem b_Pf_half_8 {X : aw_X} {d : Nat} {Q : Option Value → aw_H → Prop} {I : Nat → Nat → Int32} {L : Nat → Nat → Int64} {D : Nat → Nat} {s2 : Int32} {s1 : Int32} {s0 : Int32}
    (h1 : Q (some (.int (s0 - (s1 * s2)))) (aw_s I L D)) :
    aw_z X (d + 1) y_Pf_half Q 8 [none, none, none] [.int s2, .int s1, .int s0] (aw_s I L D) :=
  (s_Pf_half_8.go [none, none, none] [.int (s0 - (s1 * s2))] (aw_s I L D) rfl (z_iret d_Pf_half_10 rfl rfl (h1)))
/-! Pf_chooseFirst -/
theorem d_Pf_chooseFirst_0 : decode y_Pf_chooseFirst.2.1 0 = .ok (.iload_n 1, 1) := by decide +kernel
theorem s_Pf_chooseFirst_0 : aw_VS y_Pf_chooseFirst 0 [o_ild 1] 1 := .cons (v_iload_n (i := 1) d_Pf_chooseFirst_0 rfl) .nil
theorem d_Pf_chooseFirst_1 : decode y_Pf_chooseFirst.2.1 1 = .ok (.ifCond .lt (10), 3) := by decide +kernel
theorem d_Pf_chooseFirst_11 : decode y_Pf_chooseFirst.2.1 11 = .ok (.return_, 1) := by decide +kernel
theorem d_Pf_chooseFirst_4 : decode y_Pf_chooseFirst.2.1 4 = .ok (.iload_n 1, 1) := by decide +kernel
theorem d_Pf_chooseFirst_5 : decode y_Pf_chooseFirst.2.1 5 = .ok (.sipush 6561, 3) := by decide +kernel
theorem s_Pf_chooseFirst_4 : aw_VS y_Pf_chooseFirst 4 [o_ild 1, o_c (.int (6561 : Int32))] 8 := .cons (v_iload_n (i := 1) d_Pf_chooseFirst_4 rfl) (.cons (v_sipush (v := (6561 : Int32)) d_Pf_chooseFirst_5 (by decide +kernel)) .nil)
theorem d_Pf_chooseFirst_8 : decode y_Pf_chooseFirst.2.1 8 = .ok (.if_icmp .lt (4), 3) := by decide +kernel
theorem d_Pf_chooseFirst_12 : decode y_Pf_chooseFirst.2.1 12 = .ok (.aload_n 0, 1) := by decide +kernel
theorem d_Pf_chooseFirst_13 : decode y_Pf_chooseFirst.2.1 13 = .ok (.getfield 15, 3) := by decide +kernel
theorem d_Pf_chooseFirst_16 : decode y_Pf_chooseFirst.2.1 16 = .ok (.iload_n 1, 1) := by decide +kernel
theorem d_Pf_chooseFirst_17 : decode y_Pf_chooseFirst.2.1 17 = .ok (.ldc 55, 2) := by decide +kernel
theorem s_Pf_chooseFirst_12 : aw_VS y_Pf_chooseFirst 12 [o_ald 0, o_getA 5 3, o_ild 1, o_c (.int (100000 : Int32))] 19 := .cons (v_aload_n (i := 0) d_Pf_chooseFirst_12 rfl) (.cons (v_getA (k := 3) k_Pf (by decide) rfl (Or.inl w_350) d_Pf_chooseFirst_13) (.cons (v_iload_n (i := 1) d_Pf_chooseFirst_16 rfl) (.cons (v_ldc d_Pf_chooseFirst_17 w_1318) .nil)))
theorem d_Pf_chooseFirst_19 : decode y_Pf_chooseFirst.2.1 19 = .ok (.iastore, 1) := by decide +kernel
theorem d_Pf_chooseFirst_20 : decode y_Pf_chooseFirst.2.1 20 = .ok (.aload_n 0, 1) := by decide +kernel
theorem d_Pf_chooseFirst_21 : decode y_Pf_chooseFirst.2.1 21 = .ok (.getfield 18, 3) := by decide +kernel
theorem d_Pf_chooseFirst_24 : decode y_Pf_chooseFirst.2.1 24 = .ok (.iload_n 1, 1) := by decide +kernel
theorem d_Pf_chooseFirst_25 : decode y_Pf_chooseFirst.2.1 25 = .ok (.iconst (-1), 1) := by decide +kernel
theorem s_Pf_chooseFirst_20 : aw_VS y_Pf_chooseFirst 20 [o_ald 0, o_getA 5 4, o_ild 1, o_c (.int (-1 : Int32))] 26 := .cons (v_aload_n (i := 0) d_Pf_chooseFirst_20 rfl) (.cons (v_getA (k := 4) k_Pf (by decide) rfl (Or.inl w_351) d_Pf_chooseFirst_21) (.cons (v_iload_n (i := 1) d_Pf_chooseFirst_24 rfl) (.cons (v_iconst (v := (-1 : Int32)) d_Pf_chooseFirst_25 (by decide +kernel)) .nil)))
theorem d_Pf_chooseFirst_26 : decode y_Pf_chooseFirst.2.1 26 = .ok (.iastore, 1) := by decide +kernel
theorem d_Pf_chooseFirst_27 : decode y_Pf_chooseFirst.2.1 27 = .ok (.aload_n 0, 1) := by decide +kernel
theorem d_Pf_chooseFirst_28 : decode y_Pf_chooseFirst.2.1 28 = .ok (.getfield 11, 3) := by decide +kernel
theorem d_Pf_chooseFirst_31 : decode y_Pf_chooseFirst.2.1 31 = .ok (.iload_n 1, 1) := by decide +kernel
theorem s_Pf_chooseFirst_27 : aw_VS y_Pf_chooseFirst 27 [o_ald 0, o_getA 5 2, o_ild 1] 32 := .cons (v_aload_n (i := 0) d_Pf_chooseFirst_27 rfl) (.cons (v_getA (k := 2) k_Pf (by decide) rfl (Or.inl w_349) d_Pf_chooseFirst_28) (.cons (v_iload_n (i := 1) d_Pf_chooseFirst_31 rfl) .nil))
theorem d_Pf_chooseFirst_32 : decode y_Pf_chooseFirst.2.1 32 = .ok (.iaload, 1) := by decide +kernel
theorem d_Pf_chooseFirst_33 : decode y_Pf_chooseFirst.2.1 33 = .ok (.ifCond .eq (29), 3) := by decide +kernel
theorem d_Pf_chooseFirst_62 : decode y_Pf_chooseFirst.2.1 62 = .ok (.iconst 0, 1) := by decide +kernel
theorem d_Pf_chooseFirst_63 : decode y_Pf_chooseFirst.2.1 63 = .ok (.istore_n 2, 1) := by decide +kernel
theorem s_Pf_chooseFirst_62 : aw_VS y_Pf_chooseFirst 62 [o_c (.int (0 : Int32)), o_ist 2] 64 := .cons (v_iconst (v := (0 : Int32)) d_Pf_chooseFirst_62 (by decide +kernel)) (.cons (v_istore_n d_Pf_chooseFirst_63) .nil)
theorem d_Pf_chooseFirst_36 : decode y_Pf_chooseFirst.2.1 36 = .ok (.aload_n 0, 1) := by decide +kernel
theorem d_Pf_chooseFirst_37 : decode y_Pf_chooseFirst.2.1 37 = .ok (.getfield 15, 3) := by decide +kernel
theorem d_Pf_chooseFirst_40 : decode y_Pf_chooseFirst.2.1 40 = .ok (.iload_n 1, 1) := by decide +kernel
theorem d_Pf_chooseFirst_41 : decode y_Pf_chooseFirst.2.1 41 = .ok (.iconst 1, 1) := by decide +kernel
theorem s_Pf_chooseFirst_36 : aw_VS y_Pf_chooseFirst 36 [o_ald 0, o_getA 5 3, o_ild 1, o_c (.int (1 : Int32))] 42 := .cons (v_aload_n (i := 0) d_Pf_chooseFirst_36 rfl) (.cons (v_getA (k := 3) k_Pf (by decide) rfl (Or.inl w_350) d_Pf_chooseFirst_37) (.cons (v_iload_n (i := 1) d_Pf_chooseFirst_40 rfl) (.cons (v_iconst (v := (1 : Int32)) d_Pf_chooseFirst_41 (by decide +kernel)) .nil)))
theorem d_Pf_chooseFirst_42 : decode y_Pf_chooseFirst.2.1 42 = .ok (.iastore, 1) := by decide +kernel
theorem d_Pf_chooseFirst_43 : decode y_Pf_chooseFirst.2.1 43 = .ok (.aload_n 0, 1) := by decide +kernel
theorem d_Pf_chooseFirst_44 : decode y_Pf_chooseFirst.2.1 44 = .ok (.getfield 18, 3) := by decide +kernel
theorem d_Pf_chooseFirst_47 : decode y_Pf_chooseFirst.2.1 47 = .ok (.iload_n 1, 1) := by decide +kernel
theorem d_Pf_chooseFirst_48 : decode y_Pf_chooseFirst.2.1 48 = .ok (.bipush 100, 2) := by decide +kernel
theorem d_Pf_chooseFirst_50 : decode y_Pf_chooseFirst.2.1 50 = .ok (.aload_n 0, 1) := by decide +kernel
theorem d_Pf_chooseFirst_51 : decode y_Pf_chooseFirst.2.1 51 = .ok (.getfield 11, 3) := by decide +kernel
theorem d_Pf_chooseFirst_54 : decode y_Pf_chooseFirst.2.1 54 = .ok (.iload_n 1, 1) := by decide +kernel
theorem s_Pf_chooseFirst_43 : aw_VS y_Pf_chooseFirst 43 [o_ald 0, o_getA 5 4, o_ild 1, o_c (.int (100 : Int32)), o_ald 0, o_getA 5 2, o_ild 1] 55 := .cons (v_aload_n (i := 0) d_Pf_chooseFirst_43 rfl) (.cons (v_getA (k := 4) k_Pf (by decide) rfl (Or.inl w_351) d_Pf_chooseFirst_44) (.cons (v_iload_n (i := 1) d_Pf_chooseFirst_47 rfl) (.cons (v_bipush (v := (100 : Int32)) d_Pf_chooseFirst_48 (by decide +kernel)) (.cons (v_aload_n (i := 0) d_Pf_chooseFirst_50 rfl) (.cons (v_getA (k := 2) k_Pf (by decide) rfl (Or.inl w_349) d_Pf_chooseFirst_51) (.cons (v_iload_n (i := 1) d_Pf_chooseFirst_54 rfl) .nil))))))
theorem d_Pf_chooseFirst_55 : decode y_Pf_chooseFirst.2.1 55 = .ok (.iaload, 1) := by decide +kernel
theorem d_Pf_chooseFirst_56 : decode y_Pf_chooseFirst.2.1 56 = .ok (.invokestatic 121, 3) := by decide +kernel
theorem b_Pf_chooseFirst_0 {X : aw_X} {d : Nat} {Q : Option Value → aw_H → Prop} {I : Nat → Nat → Int32} {L : Nat → Nat → Int64} {D : Nat → Nat} {v1 : Int32}
    (h1 : v1 < 0 → Q none (aw_s I L D))
    (h2 : ¬ v1 < 0 → v1 < (6561 : Int32) → vp_in v1 6561)
    (h3 : ¬ v1 < 0 → v1 < (6561 : Int32) → vp_in v1 6561)
    (h4 : ¬ v1 < 0 → v1 < (6561 : Int32) → vp_in v1 6561)
    (h5 : ¬ v1 < 0 → v1 < (6561 : Int32) → (I 24 v1.toNatClampNeg) = 0 → aw_z X (d + 1) y_Pf_chooseFirst Q 64 [some (.ref 23), some (.int v1), some (.int (0 : Int32)), none] [] (aw_s (aw_u (aw_u I 25 v1.toNatClampNeg (100000 : Int32)) 26 v1.toNatClampNeg (-1 : Int32)) L D))
    (h6 : ¬ v1 < 0 → v1 < (6561 : Int32) → ¬ (I 24 v1.toNatClampNeg) = 0 → vp_in v1 6561)
    (h7 : ¬ v1 < 0 → v1 < (6561 : Int32) → ¬ (I 24 v1.toNatClampNeg) = 0 → vp_in v1 6561)
    (h8 : ¬ v1 < 0 → v1 < (6561 : Int32) → ¬ (I 24 v1.toNatClampNeg) = 0 → aw_m X d y_JI_numberOfTrailingZeros [.int (I 24 v1.toNatClampNeg)] (aw_s (aw_u (aw_u (aw_u I 25 v1.toNatClampNeg (100000 : Int32)) 26 v1.toNatClampNeg (-1 : Int32)) 25 v1.toNatClampNeg (1 : Int32)) L D) (fun r A => aw_z X (d + 1) y_Pf_chooseFirst Q 59 [none, none, none, none] (r.toList ++ [.int (100 : Int32), .int v1, .ref 26]) A))
    (h9 : ¬ v1 < 0 → ¬ v1 < (6561 : Int32) → Q none (aw_s I L D)) :
    aw_z X (d + 1) y_Pf_chooseFirst Q 0 [some (.ref 23), some (.int v1), none, none] [] (aw_s I L D) :=
  (s_Pf_chooseFirst_0.go [some (.ref 23), some (.int v1), none, none] [.int v1] (aw_s I L D) rfl (z_if_lt (tgt := 11) d_Pf_chooseFirst_1 rfl (fun q1 => (z_vret d_Pf_chooseFirst_11 rfl (h1 q1))) (fun q2 => (s_Pf_chooseFirst_4.go [some (.ref 23), some (.int v1), none, none] [.int (6561 : Int32), .int v1] (aw_s I L D) rfl (z_icmp_lt (tgt := 12) d_Pf_chooseFirst_8 rfl (fun q3 => (s_Pf_chooseFirst_12.go [some (.ref 23), some (.int v1), none, none] [.int (100000 : Int32), .int v1, .ref 25] (aw_s I L D) rfl (z_iast (n := 6561) rfl (aw_lt (o := 25) rfl) (h2 q2 q3) d_Pf_chooseFirst_19 (s_Pf_chooseFirst_20.go [some (.ref 23), some (.int v1), none, none] [.int (-1 : Int32), .int v1, .ref 26] (aw_s (aw_u I 25 v1.toNatClampNeg (100000 : Int32)) L D) rfl (z_iast (n := 6561) rfl (aw_lt (o := 26) rfl) (h3 q2 q3) d_Pf_chooseFirst_26 (s_Pf_chooseFirst_27.go [some (.ref 23), some (.int v1), none, none] [.int v1, .ref 24] (aw_s (aw_u (aw_u I 25 v1.toNatClampNeg (100000 : Int32)) 26 v1.toNatClampNeg (-1 : Int32)) L D) rfl (z_iald (n := 6561) rfl (aw_lt (o := 24) rfl) (h4 q2 q3) d_Pf_chooseFirst_32 (z_if_eq (tgt := 62) d_Pf_chooseFirst_33 rfl (fun q5 => (s_Pf_chooseFirst_62.go [some (.ref 23), some (.int v1), some (.int (0 : Int32)), none] [] (aw_s (aw_u (aw_u I 25 v1.toNatClampNeg (100000 : Int32)) 26 v1.toNatClampNeg (-1 : Int32)) L D) rfl (h5 q2 q3 q5))) (fun q6 => (s_Pf_chooseFirst_36.go [some (.ref 23), some (.int v1), none, none] [.int (1 : Int32), .int v1, .ref 25] (aw_s (aw_u (aw_u I 25 v1.toNatClampNeg (100000 : Int32)) 26 v1.toNatClampNeg (-1 : Int32)) L D) rfl (z_iast (n := 6561) rfl (aw_lt (o := 25) rfl) (h6 q2 q3 q6) d_Pf_chooseFirst_42 (s_Pf_chooseFirst_43.go [some (.ref 23), some (.int v1), none, none] [.int v1, .ref 24, .int (100 : Int32), .int v1, .ref 26] (aw_s (aw_u (aw_u (aw_u I 25 v1.toNatClampNeg (100000 : Int32)) 26 v1.toNatClampNeg (-1 : Int32)) 25 v1.toNatClampNeg (1 : Int32)) L D) rfl (z_iald (n := 6561) rfl (aw_lt (o := 24) rfl) (h7 q2 q3 q6) d_Pf_chooseFirst_55 (z_callS (av := [.int (I 24 v1.toNatClampNeg)]) (st := [.int (100 : Int32), .int v1, .ref 26]) ok_JI_numberOfTrailingZeros (Or.inl w_1319) w_1101 d_Pf_chooseFirst_56 rfl rfl (Nat.le_of_ble_eq_true rfl) (Nat.le_refl _) (Nat.le_refl _) (aw_C.mono (h8 q2 q3 q6) (fun _ _ zz => aw_Z.weak (ls' := [none, none, none, none]) zz (Nat.le_of_ble_eq_true rfl) ⟨Or.inl rfl, ⟨Or.inl rfl, ⟨Or.inl rfl, ⟨Or.inl rfl, trivial⟩⟩⟩⟩)))))))))))))))) (fun q4 => (z_vret d_Pf_chooseFirst_11 rfl (h9 q2 q4))))))))
theorem d_Pf_chooseFirst_64 : decode y_Pf_chooseFirst.2.1 64 = .ok (.iload_n 2, 1) := by decide +kernel
theorem d_Pf_chooseFirst_65 : decode y_Pf_chooseFirst.2.1 65 = .ok (.aload_n 0, 1) := by decide +kernel
theorem d_Pf_chooseFirst_66 : decode y_Pf_chooseFirst.2.1 66 = .ok (.getfield 27, 3) := by decide +kernel
theorem s_Pf_chooseFirst_64 : aw_VS y_Pf_chooseFirst 64 [o_ild 2, o_ald 0, o_getA 5 0] 69 := .cons (v_iload_n (i := 2) d_Pf_chooseFirst_64 rfl) (.cons (v_aload_n (i := 0) d_Pf_chooseFirst_65 rfl) (.cons (v_getA (k := 0) k_Pf (by decide) rfl (Or.inl w_347) d_Pf_chooseFirst_66) .nil))
theorem d_Pf_chooseFirst_69 : decode y_Pf_chooseFirst.2.1 69 = .ok (.invokevirtual 86, 3) := by decide +kernel
theorem b_Pf_chooseFirst_64 {X : aw_X} {d : Nat} {Q : Option Value → aw_H → Prop} {I : Nat → Nat → Int32} {L : Nat → Nat → Int64} {D : Nat → Nat} {v1 : Int32} {v2 : Int32}
    (h1 : aw_m X d y_Sz_rowBits [.ref 1] (aw_s I L D) (fun r A => aw_z X (d + 1) y_Pf_chooseFirst Q 72 [some (.ref 23), some (.int v1), some (.int v2), none] (r.toList ++ [.int v2]) A)) :
    aw_z X (d + 1) y_Pf_chooseFirst Q 64 [some (.ref 23), some (.int v1), some (.int v2), none] [] (aw_s I L D) :=
  (s_Pf_chooseFirst_64.go [some (.ref 23), some (.int v1), some (.int v2), none] [.ref 1, .int v2] (aw_s I L D) rfl (z_callV (av := []) (st := [.int v2]) ok_Sz_rowBits (Or.inl w_1294) w_882 w_883 k_Sz d_Pf_chooseFirst_69 rfl (aw_lt (o := 1) rfl) rfl rfl (Nat.le_of_ble_eq_true rfl) (Nat.le_refl _) (Nat.le_refl _) (h1)))
theorem d_Pf_chooseFirst_59 : decode y_Pf_chooseFirst.2.1 59 = .ok (.iadd, 1) := by decide +kernel
theorem s_Pf_chooseFirst_59 : aw_VS y_Pf_chooseFirst 59 [o_i2 (fun x z => x + z)] 60 := .cons (v_iadd d_Pf_chooseFirst_59) .nil
theorem d_Pf_chooseFirst_60 : decode y_Pf_chooseFirst.2.1 60 = .ok (.iastore, 1) := by decide +kernel
theorem d_Pf_chooseFirst_61 : decode y_Pf_chooseFirst.2.1 61 = .ok (.return_, 1) := by decide +kernel
theorem b_Pf_chooseFirst_59 {X : aw_X} {d : Nat} {Q : Option Value → aw_H → Prop} {I : Nat → Nat → Int32} {L : Nat → Nat → Int64} {D : Nat → Nat} {s3 : Int32} {s2 : Int32} {s1 : Int32}
    (h1 : vp_in s1 6561)
    (h2 : Q none (aw_s (aw_u I 26 s1.toNatClampNeg (s2 + s3)) L D)) :
    aw_z X (d + 1) y_Pf_chooseFirst Q 59 [none, none, none, none] [.int s3, .int s2, .int s1, .ref 26] (aw_s I L D) :=
  (s_Pf_chooseFirst_59.go [none, none, none, none] [.int (s2 + s3), .int s1, .ref 26] (aw_s I L D) rfl (z_iast (n := 6561) rfl (aw_lt (o := 26) rfl) (h1) d_Pf_chooseFirst_60 (z_vret d_Pf_chooseFirst_61 rfl (h2))))
theorem d_Pf_chooseFirst_72 : decode y_Pf_chooseFirst.2.1 72 = .ok (.if_icmp .ge (70), 3) := by decide +kernel
theorem d_Pf_chooseFirst_142 : decode y_Pf_chooseFirst.2.1 142 = .ok (.return_, 1) := by decide +kernel
theorem d_Pf_chooseFirst_75 : decode y_Pf_chooseFirst.2.1 75 = .ok (.iload_n 1, 1) := by decide +kernel
theorem d_Pf_chooseFirst_76 : decode y_Pf_chooseFirst.2.1 76 = .ok (.iload_n 2, 1) := by decide +kernel
theorem s_Pf_chooseFirst_75 : aw_VS y_Pf_chooseFirst 75 [o_ild 1, o_ild 2] 77 := .cons (v_iload_n (i := 1) d_Pf_chooseFirst_75 rfl) (.cons (v_iload_n (i := 2) d_Pf_chooseFirst_76 rfl) .nil)
theorem d_Pf_chooseFirst_77 : decode y_Pf_chooseFirst.2.1 77 = .ok (.invokestatic 91, 3) := by decide +kernel
theorem b_Pf_chooseFirst_72 {X : aw_X} {d : Nat} {Q : Option Value → aw_H → Prop} {I : Nat → Nat → Int32} {L : Nat → Nat → Int64} {D : Nat → Nat} {v1 : Int32} {v2 : Int32} {s1 : Int32} {s0 : Int32}
    (h1 : s1 ≤ s0 → Q none (aw_s I L D))
    (h2 : ¬ s1 ≤ s0 → aw_m X d y_Pf_digit [.int v1, .int v2] (aw_s I L D) (fun r A => aw_z X (d + 1) y_Pf_chooseFirst Q 80 [some (.ref 23), some (.int v1), some (.int v2), none] (r.toList ++ []) A)) :
    aw_z X (d + 1) y_Pf_chooseFirst Q 72 [some (.ref 23), some (.int v1), some (.int v2), none] [.int s1, .int s0] (aw_s I L D) :=
  (z_icmp_ge (tgt := 142) d_Pf_chooseFirst_72 rfl (fun q1 => (z_vret d_Pf_chooseFirst_142 rfl (h1 q1))) (fun q2 => (s_Pf_chooseFirst_75.go [some (.ref 23), some (.int v1), some (.int v2), none] [.int v2, .int v1] (aw_s I L D) rfl (z_callS (av := [.int v1, .int v2]) (st := []) ok_Pf_digit (Or.inl w_1300) w_1301 d_Pf_chooseFirst_77 rfl rfl (Nat.le_of_ble_eq_true rfl) (Nat.le_refl _) (Nat.le_refl _) (h2 q2)))))
theorem d_Pf_chooseFirst_80 : decode y_Pf_chooseFirst.2.1 80 = .ok (.iconst 2, 1) := by decide +kernel
theorem s_Pf_chooseFirst_80 : aw_VS y_Pf_chooseFirst 80 [o_c (.int (2 : Int32))] 81 := .cons (v_iconst (v := (2 : Int32)) d_Pf_chooseFirst_80 (by decide +kernel)) .nil
theorem d_Pf_chooseFirst_81 : decode y_Pf_chooseFirst.2.1 81 = .ok (.if_icmp .ne (55), 3) := by decide +kernel
theorem d_Pf_chooseFirst_136 : decode y_Pf_chooseFirst.2.1 136 = .ok (.iinc 2 (1), 3) := by decide +kernel
theorem s_Pf_chooseFirst_136 : aw_VS y_Pf_chooseFirst 136 [o_inc 2 (1 : Int32)] 139 := .cons (v_iinc (k0 := (1 : Int32)) d_Pf_chooseFirst_136 (by decide +kernel)) .nil
theorem d_Pf_chooseFirst_139 : decode y_Pf_chooseFirst.2.1 139 = .ok (.goto (-75), 3) := by decide +kernel
theorem d_Pf_chooseFirst_84 : decode y_Pf_chooseFirst.2.1 84 = .ok (.aload_n 0, 1) := by decide +kernel
theorem d_Pf_chooseFirst_85 : decode y_Pf_chooseFirst.2.1 85 = .ok (.getfield 15, 3) := by decide +kernel
theorem d_Pf_chooseFirst_88 : decode y_Pf_chooseFirst.2.1 88 = .ok (.iload_n 1, 1) := by decide +kernel
theorem d_Pf_chooseFirst_89 : decode y_Pf_chooseFirst.2.1 89 = .ok (.iload_n 2, 1) := by decide +kernel
theorem d_Pf_chooseFirst_90 : decode y_Pf_chooseFirst.2.1 90 = .ok (.iconst 0, 1) := by decide +kernel
theorem s_Pf_chooseFirst_84 : aw_VS y_Pf_chooseFirst 84 [o_ald 0, o_getA 5 3, o_ild 1, o_ild 2, o_c (.int (0 : Int32))] 91 := .cons (v_aload_n (i := 0) d_Pf_chooseFirst_84 rfl) (.cons (v_getA (k := 3) k_Pf (by decide) rfl (Or.inl w_350) d_Pf_chooseFirst_85) (.cons (v_iload_n (i := 1) d_Pf_chooseFirst_88 rfl) (.cons (v_iload_n (i := 2) d_Pf_chooseFirst_89 rfl) (.cons (v_iconst (v := (0 : Int32)) d_Pf_chooseFirst_90 (by decide +kernel)) .nil))))
theorem d_Pf_chooseFirst_91 : decode y_Pf_chooseFirst.2.1 91 = .ok (.invokestatic 117, 3) := by decide +kernel
theorem b_Pf_chooseFirst_80 {X : aw_X} {d : Nat} {Q : Option Value → aw_H → Prop} {I : Nat → Nat → Int32} {L : Nat → Nat → Int64} {D : Nat → Nat} {v1 : Int32} {v2 : Int32} {s0 : Int32}
    (h1 : ¬ s0 = (2 : Int32) → aw_z X (d + 1) y_Pf_chooseFirst Q 64 [some (.ref 23), some (.int v1), some (.int (v2 + (1 : Int32))), none] [] (aw_s I L D))
    (h2 : s0 = (2 : Int32) → aw_m X d y_Pf_half [.int v1, .int v2, .int (0 : Int32)] (aw_s I L D) (fun r A => aw_z X (d + 1) y_Pf_chooseFirst Q 94 [some (.ref 23), some (.int v1), some (.int v2), none] (r.toList ++ [.ref 25]) A)) :
    aw_z X (d + 1) y_Pf_chooseFirst Q 80 [some (.ref 23), some (.int v1), some (.int v2), none] [.int s0] (aw_s I L D) :=
  (s_Pf_chooseFirst_80.go [some (.ref 23), some (.int v1), some (.int v2), none] [.int (2 : Int32), .int s0] (aw_s I L D) rfl (z_icmp_ne (tgt := 136) d_Pf_chooseFirst_81 rfl (fun q1 => (s_Pf_chooseFirst_136.go [some (.ref 23), some (.int v1), some (.int (v2 + (1 : Int32))), none] [] (aw_s I L D) rfl (z_goto (tgt := 64) d_Pf_chooseFirst_139 rfl (h1 q1)))) (fun q2 => (s_Pf_chooseFirst_84.go [some (.ref 23), some (.int v1), some (.int v2), none] [.int (0 : Int32), .int v2, .int v1, .ref 25] (aw_s I L D) rfl (z_callS (av := [.int v1, .int v2, .int (0 : Int32)]) (st := [.ref 25]) ok_Pf_half (Or.inl w_1311) w_1312 d_Pf_chooseFirst_91 rfl rfl (Nat.le_of_ble_eq_true rfl) (Nat.le_refl _) (Nat.le_refl _) (h2 q2))))))
theorem d_Pf_chooseFirst_94 : decode y_Pf_chooseFirst.2.1 94 = .ok (.invokestatic 51, 3) := by decide +kernel
theorem b_Pf_chooseFirst_94 {X : aw_X} {d : Nat} {Q : Option Value → aw_H → Prop} {I : Nat → Nat → Int32} {L : Nat → Nat → Int64} {D : Nat → Nat} {v1 : Int32} {v2 : Int32} {s1 : Int32}
    (h1 : aw_m X d y_AW_valueAt_aII [.ref 25, .int s1] (aw_s I L D) (fun r A => aw_z X (d + 1) y_Pf_chooseFirst Q 97 [some (.ref 23), some (.int v1), some (.int v2), none] (r.toList ++ []) A)) :
    aw_z X (d + 1) y_Pf_chooseFirst Q 94 [some (.ref 23), some (.int v1), some (.int v2), none] [.int s1, .ref 25] (aw_s I L D) :=
  (z_callS (av := [.ref 25, .int s1]) (st := []) ok_AW_valueAt_aII (Or.inr ⟨"AllWays", w_1295⟩) w_927 d_Pf_chooseFirst_94 rfl rfl (Nat.le_of_ble_eq_true rfl) (Nat.le_refl _) (Nat.le_refl _) (h1))
theorem d_Pf_chooseFirst_97 : decode y_Pf_chooseFirst.2.1 97 = .ok (.aload_n 0, 1) := by decide +kernel
theorem d_Pf_chooseFirst_98 : decode y_Pf_chooseFirst.2.1 98 = .ok (.getfield 15, 3) := by decide +kernel
theorem d_Pf_chooseFirst_101 : decode y_Pf_chooseFirst.2.1 101 = .ok (.iload_n 1, 1) := by decide +kernel
theorem d_Pf_chooseFirst_102 : decode y_Pf_chooseFirst.2.1 102 = .ok (.iload_n 2, 1) := by decide +kernel
theorem d_Pf_chooseFirst_103 : decode y_Pf_chooseFirst.2.1 103 = .ok (.iconst 1, 1) := by decide +kernel
theorem s_Pf_chooseFirst_97 : aw_VS y_Pf_chooseFirst 97 [o_ald 0, o_getA 5 3, o_ild 1, o_ild 2, o_c (.int (1 : Int32))] 104 := .cons (v_aload_n (i := 0) d_Pf_chooseFirst_97 rfl) (.cons (v_getA (k := 3) k_Pf (by decide) rfl (Or.inl w_350) d_Pf_chooseFirst_98) (.cons (v_iload_n (i := 1) d_Pf_chooseFirst_101 rfl) (.cons (v_iload_n (i := 2) d_Pf_chooseFirst_102 rfl) (.cons (v_iconst (v := (1 : Int32)) d_Pf_chooseFirst_103 (by decide +kernel)) .nil))))
theorem d_Pf_chooseFirst_104 : decode y_Pf_chooseFirst.2.1 104 = .ok (.invokestatic 117, 3) := by decide +kernel
theorem b_Pf_chooseFirst_97 {X : aw_X} {d : Nat} {Q : Option Value → aw_H → Prop} {I : Nat → Nat → Int32} {L : Nat → Nat → Int64} {D : Nat → Nat} {v1 : Int32} {v2 : Int32} {s0 : Int32}
    (h1 : aw_m X d y_Pf_half [.int v1, .int v2, .int (1 : Int32)] (aw_s I L D) (fun r A => aw_z X (d + 1) y_Pf_chooseFirst Q 107 [some (.ref 23), some (.int v1), some (.int v2), none] (r.toList ++ [.ref 25, .int s0]) A)) :
    aw_z X (d + 1) y_Pf_chooseFirst Q 97 [some (.ref 23), some (.int v1), some (.int v2), none] [.int s0] (aw_s I L D) :=
  (s_Pf_chooseFirst_97.go [some (.ref 23), some (.int v1), some (.int v2), none] [.int (1 : Int32), .int v2, .int v1, .ref 25, .int s0] (aw_s I L D) rfl (z_callS (av := [.int v1, .int v2, .int (1 : Int32)]) (st := [.ref 25, .int s0]) ok_Pf_half (Or.inl w_1311) w_1312 d_Pf_chooseFirst_104 rfl rfl (Nat.le_of_ble_eq_true rfl) (Nat.le_refl _) (Nat.le_refl _) (h1)))
theorem d_Pf_chooseFirst_107 : decode y_Pf_chooseFirst.2.1 107 = .ok (.invokestatic 51, 3) := by decide +kernel
theorem b_Pf_chooseFirst_107 {X : aw_X} {d : Nat} {Q : Option Value → aw_H → Prop} {I : Nat → Nat → Int32} {L : Nat → Nat → Int64} {D : Nat → Nat} {v1 : Int32} {v2 : Int32} {s2 : Int32} {s0 : Int32}
    (h1 : aw_m X d y_AW_valueAt_aII [.ref 25, .int s2] (aw_s I L D) (fun r A => aw_z X (d + 1) y_Pf_chooseFirst Q 110 [some (.ref 23), some (.int v1), some (.int v2), none] (r.toList ++ [.int s0]) A)) :
    aw_z X (d + 1) y_Pf_chooseFirst Q 107 [some (.ref 23), some (.int v1), some (.int v2), none] [.int s2, .ref 25, .int s0] (aw_s I L D) :=
  (z_callS (av := [.ref 25, .int s2]) (st := [.int s0]) ok_AW_valueAt_aII (Or.inr ⟨"AllWays", w_1295⟩) w_927 d_Pf_chooseFirst_107 rfl rfl (Nat.le_of_ble_eq_true rfl) (Nat.le_refl _) (Nat.le_refl _) (h1))
theorem d_Pf_chooseFirst_110 : decode y_Pf_chooseFirst.2.1 110 = .ok (.iadd, 1) := by decide +kernel
theorem d_Pf_chooseFirst_111 : decode y_Pf_chooseFirst.2.1 111 = .ok (.istore_n 3, 1) := by decide +kernel
theorem d_Pf_chooseFirst_112 : decode y_Pf_chooseFirst.2.1 112 = .ok (.iload_n 3, 1) := by decide +kernel
theorem d_Pf_chooseFirst_113 : decode y_Pf_chooseFirst.2.1 113 = .ok (.aload_n 0, 1) := by decide +kernel
theorem d_Pf_chooseFirst_114 : decode y_Pf_chooseFirst.2.1 114 = .ok (.getfield 15, 3) := by decide +kernel
theorem d_Pf_chooseFirst_117 : decode y_Pf_chooseFirst.2.1 117 = .ok (.iload_n 1, 1) := by decide +kernel
theorem s_Pf_chooseFirst_110 : aw_VS y_Pf_chooseFirst 110 [o_i2 (fun x z => x + z), o_ist 3, o_ild 3, o_ald 0, o_getA 5 3, o_ild 1] 118 := .cons (v_iadd d_Pf_chooseFirst_110) (.cons (v_istore_n d_Pf_chooseFirst_111) (.cons (v_iload_n (i := 3) d_Pf_chooseFirst_112 rfl) (.cons (v_aload_n (i := 0) d_Pf_chooseFirst_113 rfl) (.cons (v_getA (k := 3) k_Pf (by decide) rfl (Or.inl w_350) d_Pf_chooseFirst_114) (.cons (v_iload_n (i := 1) d_Pf_chooseFirst_117 rfl) .nil)))))
theorem d_Pf_chooseFirst_118 : decode y_Pf_chooseFirst.2.1 118 = .ok (.iaload, 1) := by decide +kernel
theorem d_Pf_chooseFirst_119 : decode y_Pf_chooseFirst.2.1 119 = .ok (.if_icmp .ge (17), 3) := by decide +kernel
theorem d_Pf_chooseFirst_122 : decode y_Pf_chooseFirst.2.1 122 = .ok (.aload_n 0, 1) := by decide +kernel
theorem d_Pf_chooseFirst_123 : decode y_Pf_chooseFirst.2.1 123 = .ok (.getfield 15, 3) := by decide +kernel
theorem d_Pf_chooseFirst_126 : decode y_Pf_chooseFirst.2.1 126 = .ok (.iload_n 1, 1) := by decide +kernel
theorem d_Pf_chooseFirst_127 : decode y_Pf_chooseFirst.2.1 127 = .ok (.iload_n 3, 1) := by decide +kernel
theorem s_Pf_chooseFirst_122 : aw_VS y_Pf_chooseFirst 122 [o_ald 0, o_getA 5 3, o_ild 1, o_ild 3] 128 := .cons (v_aload_n (i := 0) d_Pf_chooseFirst_122 rfl) (.cons (v_getA (k := 3) k_Pf (by decide) rfl (Or.inl w_350) d_Pf_chooseFirst_123) (.cons (v_iload_n (i := 1) d_Pf_chooseFirst_126 rfl) (.cons (v_iload_n (i := 3) d_Pf_chooseFirst_127 rfl) .nil)))
theorem d_Pf_chooseFirst_128 : decode y_Pf_chooseFirst.2.1 128 = .ok (.iastore, 1) := by decide +kernel
theorem d_Pf_chooseFirst_129 : decode y_Pf_chooseFirst.2.1 129 = .ok (.aload_n 0, 1) := by decide +kernel
theorem d_Pf_chooseFirst_130 : decode y_Pf_chooseFirst.2.1 130 = .ok (.getfield 18, 3) := by decide +kernel
theorem d_Pf_chooseFirst_133 : decode y_Pf_chooseFirst.2.1 133 = .ok (.iload_n 1, 1) := by decide +kernel
theorem d_Pf_chooseFirst_134 : decode y_Pf_chooseFirst.2.1 134 = .ok (.iload_n 2, 1) := by decide +kernel
theorem s_Pf_chooseFirst_129 : aw_VS y_Pf_chooseFirst 129 [o_ald 0, o_getA 5 4, o_ild 1, o_ild 2] 135 := .cons (v_aload_n (i := 0) d_Pf_chooseFirst_129 rfl) (.cons (v_getA (k := 4) k_Pf (by decide) rfl (Or.inl w_351) d_Pf_chooseFirst_130) (.cons (v_iload_n (i := 1) d_Pf_chooseFirst_133 rfl) (.cons (v_iload_n (i := 2) d_Pf_chooseFirst_134 rfl) .nil)))
theorem d_Pf_chooseFirst_135 : decode y_Pf_chooseFirst.2.1 135 = .ok (.iastore, 1) := by decide +kernel
theorem b_Pf_chooseFirst_110 {X : aw_X} {d : Nat} {Q : Option Value → aw_H → Prop} {I : Nat → Nat → Int32} {L : Nat → Nat → Int64} {D : Nat → Nat} {v1 : Int32} {v2 : Int32} {s1 : Int32} {s0 : Int32}
    (h1 : vp_in v1 6561)
    (h2 : (I 25 v1.toNatClampNeg) ≤ (s0 + s1) → aw_z X (d + 1) y_Pf_chooseFirst Q 64 [some (.ref 23), some (.int v1), some (.int (v2 + (1 : Int32))), none] [] (aw_s I L D))
    (h3 : ¬ (I 25 v1.toNatClampNeg) ≤ (s0 + s1) → vp_in v1 6561)
    (h4 : ¬ (I 25 v1.toNatClampNeg) ≤ (s0 + s1) → vp_in v1 6561)
    (h5 : ¬ (I 25 v1.toNatClampNeg) ≤ (s0 + s1) → aw_z X (d + 1) y_Pf_chooseFirst Q 64 [some (.ref 23), some (.int v1), some (.int (v2 + (1 : Int32))), none] [] (aw_s (aw_u (aw_u I 25 v1.toNatClampNeg (s0 + s1)) 26 v1.toNatClampNeg v2) L D)) :
    aw_z X (d + 1) y_Pf_chooseFirst Q 110 [some (.ref 23), some (.int v1), some (.int v2), none] [.int s1, .int s0] (aw_s I L D) :=
  (s_Pf_chooseFirst_110.go [some (.ref 23), some (.int v1), some (.int v2), some (.int (s0 + s1))] [.int v1, .ref 25, .int (s0 + s1)] (aw_s I L D) rfl (z_iald (n := 6561) rfl (aw_lt (o := 25) rfl) (h1) d_Pf_chooseFirst_118 (z_icmp_ge (tgt := 136) d_Pf_chooseFirst_119 rfl (fun q1 => (s_Pf_chooseFirst_136.go [some (.ref 23), some (.int v1), some (.int (v2 + (1 : Int32))), some (.int (s0 + s1))] [] (aw_s I L D) rfl (z_goto (tgt := 64) d_Pf_chooseFirst_139 rfl (aw_Z.weak (ls' := [some (.ref 23), some (.int v1), some (.int (v2 + (1 : Int32))), none]) (h2 q1) (Nat.le_of_ble_eq_true rfl) ⟨Or.inr rfl, ⟨Or.inr rfl, ⟨Or.inr rfl, ⟨Or.inl rfl, trivial⟩⟩⟩⟩)))) (fun q2 => (s_Pf_chooseFirst_122.go [some (.ref 23), some (.int v1), some (.int v2), some (.int (s0 + s1))] [.int (s0 + s1), .int v1, .ref 25] (aw_s I L D) rfl (z_iast (n := 6561) rfl (aw_lt (o := 25) rfl) (h3 q2) d_Pf_chooseFirst_128 (s_Pf_chooseFirst_129.go [some (.ref 23), some (.int v1), some (.int v2), some (.int (s0 + s1))] [.int v2, .int v1, .ref 26] (aw_s (aw_u I 25 v1.toNatClampNeg (s0 + s1)) L D) rfl (z_iast (n := 6561) rfl (aw_lt (o := 26) rfl) (h4 q2) d_Pf_chooseFirst_135 (s_Pf_chooseFirst_136.go [some (.ref 23), some (.int v1), some (.int (v2 + (1 : Int32))), some (.int (s0 + s1))] [] (aw_s (aw_u (aw_u I 25 v1.toNatClampNeg (s0 + s1)) 26 v1.toNatClampNeg v2) L D) rfl (z_goto (tgt := 64) d_Pf_chooseFirst_139 rfl (aw_Z.weak (ls' := [some (.ref 23), some (.int v1), some (.int (v2 + (1 : Int32))), none]) (h5 q2) (Nat.le_of_ble_eq_true rfl) ⟨Or.inr rfl, ⟨Or.inr rfl, ⟨Or.inr rfl, ⟨Or.inl rfl, trivial⟩⟩⟩⟩)))))))))))
/-! Pf_writeDown -/
theorem d_Pf_writeDown_0 : decode y_Pf_writeDown.2.1 0 = .ok (.aload_n 0, 1) := by decide +kernel
theorem d_Pf_writeDown_1 : decode y_Pf_writeDown.2.1 1 = .ok (.iconst 0, 1) := by decide +kernel
theorem d_Pf_writeDown_2 : decode y_Pf_writeDown.2.1 2 = .ok (.putfield 35, 3) := by decide +kernel
theorem d_Pf_writeDown_5 : decode y_Pf_writeDown.2.1 5 = .ok (.aload_n 0, 1) := by decide +kernel
theorem d_Pf_writeDown_6 : decode y_Pf_writeDown.2.1 6 = .ok (.iconst 0, 1) := by decide +kernel
theorem d_Pf_writeDown_7 : decode y_Pf_writeDown.2.1 7 = .ok (.putfield 59, 3) := by decide +kernel
theorem d_Pf_writeDown_10 : decode y_Pf_writeDown.2.1 10 = .ok (.aload_n 0, 1) := by decide +kernel
theorem d_Pf_writeDown_11 : decode y_Pf_writeDown.2.1 11 = .ok (.iload_n 1, 1) := by decide +kernel
theorem s_Pf_writeDown_0 : aw_VS y_Pf_writeDown 0 [o_ald 0, o_c (.int (0 : Int32)), o_putI 5 8, o_ald 0, o_c (.int (0 : Int32)), o_putI 5 6, o_ald 0, o_ild 1] 12 := .cons (v_aload_n (i := 0) d_Pf_writeDown_0 rfl) (.cons (v_iconst (v := (0 : Int32)) d_Pf_writeDown_1 (by decide +kernel)) (.cons (v_putI (k := 8) k_Pf (by decide) rfl (Or.inl ⟨rfl, Or.inl w_355⟩) d_Pf_writeDown_2) (.cons (v_aload_n (i := 0) d_Pf_writeDown_5 rfl) (.cons (v_iconst (v := (0 : Int32)) d_Pf_writeDown_6 (by decide +kernel)) (.cons (v_putI (k := 6) k_Pf (by decide) rfl (Or.inl ⟨rfl, Or.inl w_353⟩) d_Pf_writeDown_7) (.cons (v_aload_n (i := 0) d_Pf_writeDown_10 rfl) (.cons (v_iload_n (i := 1) d_Pf_writeDown_11 rfl) .nil)))))))
theorem d_Pf_writeDown_12 : decode y_Pf_writeDown.2.1 12 = .ok (.invokevirtual 62, 3) := by decide +kernel
theorem b_Pf_writeDown_0 {X : aw_X} {d : Nat} {Q : Option Value → aw_H → Prop} {I : Nat → Nat → Int32} {L : Nat → Nat → Int64} {D : Nat → Nat} {v1 : Int32}
    (h1 : aw_m X d y_Pf_push [.ref 23, .int v1] (aw_s (aw_u (aw_u I 23 8 (0 : Int32)) 23 6 (0 : Int32)) L D) (fun r A => aw_z X (d + 1) y_Pf_writeDown Q 15 [some (.ref 23), none, none, none, none] (r.toList ++ []) A)) :
    aw_z X (d + 1) y_Pf_writeDown Q 0 [some (.ref 23), some (.int v1), none, none, none] [] (aw_s I L D) :=
  (s_Pf_writeDown_0.go [some (.ref 23), some (.int v1), none, none, none] [.int v1, .ref 23] (aw_s (aw_u (aw_u I 23 8 (0 : Int32)) 23 6 (0 : Int32)) L D) rfl (z_callV (av := [.int v1]) (st := []) ok_Pf_push (Or.inl w_1324) w_1326 w_64 k_Pf d_Pf_writeDown_12 rfl (aw_lt (o := 23) rfl) rfl rfl (Nat.le_of_ble_eq_true rfl) (Nat.le_refl _) (Nat.le_refl _) (aw_C.mono (h1) (fun _ _ zz => aw_Z.weak (ls' := [some (.ref 23), none, none, none, none]) zz (Nat.le_of_ble_eq_true rfl) ⟨Or.inr rfl, ⟨Or.inl rfl, ⟨Or.inl rfl, ⟨Or.inl rfl, ⟨Or.inl rfl, trivial⟩⟩⟩⟩⟩))))
theorem d_Pf_writeDown_15 : decode y_Pf_writeDown.2.1 15 = .ok (.iconst 0, 1) := by decide +kernel
theorem d_Pf_writeDown_16 : decode y_Pf_writeDown.2.1 16 = .ok (.istore_n 2, 1) := by decide +kernel
theorem s_Pf_writeDown_15 : aw_VS y_Pf_writeDown 15 [o_c (.int (0 : Int32)), o_ist 2] 17 := .cons (v_iconst (v := (0 : Int32)) d_Pf_writeDown_15 (by decide +kernel)) (.cons (v_istore_n d_Pf_writeDown_16) .nil)
theorem b_Pf_writeDown_15 {X : aw_X} {d : Nat} {Q : Option Value → aw_H → Prop} {I : Nat → Nat → Int32} {L : Nat → Nat → Int64} {D : Nat → Nat} 
    (h1 : aw_z X (d + 1) y_Pf_writeDown Q 17 [some (.ref 23), none, some (.int (0 : Int32)), none, none] [] (aw_s I L D)) :
    aw_z X (d + 1) y_Pf_writeDown Q 15 [some (.ref 23), none, none, none, none] [] (aw_s I L D) :=
  (s_Pf_writeDown_15.go [some (.ref 23), none, some (.int (0 : Int32)), none, none] [] (aw_s I L D) rfl (h1))
theorem d_Pf_writeDown_17 : decode y_Pf_writeDown.2.1 17 = .ok (.iload_n 2, 1) := by decide +kernel
theorem d_Pf_writeDown_18 : decode y_Pf_writeDown.2.1 18 = .ok (.aload_n 0, 1) := by decide +kernel
theorem d_Pf_writeDown_19 : decode y_Pf_writeDown.2.1 19 = .ok (.getfield 24, 3) := by decide +kernel
theorem d_Pf_writeDown_22 : decode y_Pf_writeDown.2.1 22 = .ok (.arraylength, 1) := by decide +kernel
theorem s_Pf_writeDown_17 : aw_VS y_Pf_writeDown 17 [o_ild 2, o_ald 0, o_getA 5 7, o_alen] 23 := .cons (v_iload_n (i := 2) d_Pf_writeDown_17 rfl) (.cons (v_aload_n (i := 0) d_Pf_writeDown_18 rfl) (.cons (v_getA (k := 7) k_Pf (by decide) rfl (Or.inl w_354) d_Pf_writeDown_19) (.cons (v_alen d_Pf_writeDown_22) .nil)))
theorem d_Pf_writeDown_23 : decode y_Pf_writeDown.2.1 23 = .ok (.if_icmp .ge (60), 3) := by decide +kernel
theorem d_Pf_writeDown_83 : decode y_Pf_writeDown.2.1 83 = .ok (.return_, 1) := by decide +kernel
theorem d_Pf_writeDown_26 : decode y_Pf_writeDown.2.1 26 = .ok (.aload_n 0, 1) := by decide +kernel
theorem d_Pf_writeDown_27 : decode y_Pf_writeDown.2.1 27 = .ok (.getfield 59, 3) := by decide +kernel
theorem s_Pf_writeDown_26 : aw_VS y_Pf_writeDown 26 [o_ald 0, o_getI 5 6] 30 := .cons (v_aload_n (i := 0) d_Pf_writeDown_26 rfl) (.cons (v_getI (k := 6) k_Pf (by decide) (Or.inl rfl) (Or.inl w_353) d_Pf_writeDown_27) .nil)
theorem d_Pf_writeDown_30 : decode y_Pf_writeDown.2.1 30 = .ok (.ifCond .le (53), 3) := by decide +kernel
theorem d_Pf_writeDown_33 : decode y_Pf_writeDown.2.1 33 = .ok (.aload_n 0, 1) := by decide +kernel
theorem s_Pf_writeDown_33 : aw_VS y_Pf_writeDown 33 [o_ald 0] 34 := .cons (v_aload_n (i := 0) d_Pf_writeDown_33 rfl) .nil
theorem d_Pf_writeDown_34 : decode y_Pf_writeDown.2.1 34 = .ok (.invokevirtual 70, 3) := by decide +kernel
theorem b_Pf_writeDown_17 {X : aw_X} {d : Nat} {Q : Option Value → aw_H → Prop} {I : Nat → Nat → Int32} {L : Nat → Nat → Int64} {D : Nat → Nat} {v2 : Int32}
    (h1 : (511 : Int32) ≤ v2 → Q none (aw_s I L D))
    (h2 : ¬ (511 : Int32) ≤ v2 → (I 23 6) ≤ 0 → Q none (aw_s I L D))
    (h3 : ¬ (511 : Int32) ≤ v2 → ¬ (I 23 6) ≤ 0 → aw_m X d y_Pf_pop [.ref 23] (aw_s I L D) (fun r A => aw_z X (d + 1) y_Pf_writeDown Q 37 [some (.ref 23), none, some (.int v2), none, none] (r.toList ++ []) A)) :
    aw_z X (d + 1) y_Pf_writeDown Q 17 [some (.ref 23), none, some (.int v2), none, none] [] (aw_s I L D) :=
  (s_Pf_writeDown_17.go [some (.ref 23), none, some (.int v2), none, none] [.int (511 : Int32), .int v2] (aw_s I L D) rfl (z_icmp_ge (tgt := 83) d_Pf_writeDown_23 rfl (fun q1 => (z_vret d_Pf_writeDown_83 rfl (h1 q1))) (fun q2 => (s_Pf_writeDown_26.go [some (.ref 23), none, some (.int v2), none, none] [.int (I 23 6)] (aw_s I L D) rfl (z_if_le (tgt := 83) d_Pf_writeDown_30 rfl (fun q3 => (z_vret d_Pf_writeDown_83 rfl (h2 q2 q3))) (fun q4 => (s_Pf_writeDown_33.go [some (.ref 23), none, some (.int v2), none, none] [.ref 23] (aw_s I L D) rfl (z_callV (av := []) (st := []) ok_Pf_pop (Or.inl w_1328) w_1330 w_65 k_Pf d_Pf_writeDown_34 rfl (aw_lt (o := 23) rfl) rfl rfl (Nat.le_of_ble_eq_true rfl) (Nat.le_refl _) (Nat.le_refl _) (h3 q2 q4)))))))))
theorem d_Pf_writeDown_37 : decode y_Pf_writeDown.2.1 37 = .ok (.istore_n 3, 1) := by decide +kernel
theorem d_Pf_writeDown_38 : decode y_Pf_writeDown.2.1 38 = .ok (.aload_n 0, 1) := by decide +kernel
theorem d_Pf_writeDown_39 : decode y_Pf_writeDown.2.1 39 = .ok (.getfield 18, 3) := by decide +kernel
theorem d_Pf_writeDown_42 : decode y_Pf_writeDown.2.1 42 = .ok (.iload_n 3, 1) := by decide +kernel
theorem s_Pf_writeDown_37 : aw_VS y_Pf_writeDown 37 [o_ist 3, o_ald 0, o_getA 5 4, o_ild 3] 43 := .cons (v_istore_n d_Pf_writeDown_37) (.cons (v_aload_n (i := 0) d_Pf_writeDown_38 rfl) (.cons (v_getA (k := 4) k_Pf (by decide) rfl (Or.inl w_351) d_Pf_writeDown_39) (.cons (v_iload_n (i := 3) d_Pf_writeDown_42 rfl) .nil)))
theorem d_Pf_writeDown_43 : decode y_Pf_writeDown.2.1 43 = .ok (.invokestatic 51, 3) := by decide +kernel
theorem b_Pf_writeDown_37 {X : aw_X} {d : Nat} {Q : Option Value → aw_H → Prop} {I : Nat → Nat → Int32} {L : Nat → Nat → Int64} {D : Nat → Nat} {v2 : Int32} {s0 : Int32}
    (h1 : aw_m X d y_AW_valueAt_aII [.ref 26, .int s0] (aw_s I L D) (fun r A => aw_z X (d + 1) y_Pf_writeDown Q 46 [some (.ref 23), none, some (.int v2), some (.int s0), none] (r.toList ++ []) A)) :
    aw_z X (d + 1) y_Pf_writeDown Q 37 [some (.ref 23), none, some (.int v2), none, none] [.int s0] (aw_s I L D) :=
  (s_Pf_writeDown_37.go [some (.ref 23), none, some (.int v2), some (.int s0), none] [.int s0, .ref 26] (aw_s I L D) rfl (z_callS (av := [.ref 26, .int s0]) (st := []) ok_AW_valueAt_aII (Or.inr ⟨"AllWays", w_1295⟩) w_927 d_Pf_writeDown_43 rfl rfl (Nat.le_of_ble_eq_true rfl) (Nat.le_refl _) (Nat.le_refl _) (h1)))
theorem d_Pf_writeDown_46 : decode y_Pf_writeDown.2.1 46 = .ok (.istore 4, 2) := by decide +kernel
theorem d_Pf_writeDown_48 : decode y_Pf_writeDown.2.1 48 = .ok (.aload_n 0, 1) := by decide +kernel
theorem d_Pf_writeDown_49 : decode y_Pf_writeDown.2.1 49 = .ok (.getfield 24, 3) := by decide +kernel
theorem d_Pf_writeDown_52 : decode y_Pf_writeDown.2.1 52 = .ok (.iload_n 2, 1) := by decide +kernel
theorem d_Pf_writeDown_53 : decode y_Pf_writeDown.2.1 53 = .ok (.iload 4, 2) := by decide +kernel
theorem s_Pf_writeDown_46 : aw_VS y_Pf_writeDown 46 [o_ist 4, o_ald 0, o_getA 5 7, o_ild 2, o_ild 4] 55 := .cons (v_istore d_Pf_writeDown_46) (.cons (v_aload_n (i := 0) d_Pf_writeDown_48 rfl) (.cons (v_getA (k := 7) k_Pf (by decide) rfl (Or.inl w_354) d_Pf_writeDown_49) (.cons (v_iload_n (i := 2) d_Pf_writeDown_52 rfl) (.cons (v_iload (i := 4) d_Pf_writeDown_53) .nil))))
theorem d_Pf_writeDown_55 : decode y_Pf_writeDown.2.1 55 = .ok (.iastore, 1) := by decide +kernel
theorem d_Pf_writeDown_56 : decode y_Pf_writeDown.2.1 56 = .ok (.aload_n 0, 1) := by decide +kernel
theorem d_Pf_writeDown_57 : decode y_Pf_writeDown.2.1 57 = .ok (.iload_n 2, 1) := by decide +kernel
theorem d_Pf_writeDown_58 : decode y_Pf_writeDown.2.1 58 = .ok (.iconst 1, 1) := by decide +kernel
theorem d_Pf_writeDown_59 : decode y_Pf_writeDown.2.1 59 = .ok (.iadd, 1) := by decide +kernel
theorem d_Pf_writeDown_60 : decode y_Pf_writeDown.2.1 60 = .ok (.putfield 35, 3) := by decide +kernel
theorem d_Pf_writeDown_63 : decode y_Pf_writeDown.2.1 63 = .ok (.iload 4, 2) := by decide +kernel
theorem d_Pf_writeDown_65 : decode y_Pf_writeDown.2.1 65 = .ok (.bipush 100, 2) := by decide +kernel
theorem s_Pf_writeDown_56 : aw_VS y_Pf_writeDown 56 [o_ald 0, o_ild 2, o_c (.int (1 : Int32)), o_i2 (fun x z => x + z), o_putI 5 8, o_ild 4, o_c (.int (100 : Int32))] 67 := .cons (v_aload_n (i := 0) d_Pf_writeDown_56 rfl) (.cons (v_iload_n (i := 2) d_Pf_writeDown_57 rfl) (.cons (v_iconst (v := (1 : Int32)) d_Pf_writeDown_58 (by decide +kernel)) (.cons (v_iadd d_Pf_writeDown_59) (.cons (v_putI (k := 8) k_Pf (by decide) rfl (Or.inl ⟨rfl, Or.inl w_355⟩) d_Pf_writeDown_60) (.cons (v_iload (i := 4) d_Pf_writeDown_63) (.cons (v_bipush (v := (100 : Int32)) d_Pf_writeDown_65 (by decide +kernel)) .nil))))))
theorem d_Pf_writeDown_67 : decode y_Pf_writeDown.2.1 67 = .ok (.if_icmp .ge (10), 3) := by decide +kernel
theorem d_Pf_writeDown_70 : decode y_Pf_writeDown.2.1 70 = .ok (.aload_n 0, 1) := by decide +kernel
theorem d_Pf_writeDown_71 : decode y_Pf_writeDown.2.1 71 = .ok (.iload_n 3, 1) := by decide +kernel
theorem d_Pf_writeDown_72 : decode y_Pf_writeDown.2.1 72 = .ok (.iload 4, 2) := by decide +kernel
theorem s_Pf_writeDown_70 : aw_VS y_Pf_writeDown 70 [o_ald 0, o_ild 3, o_ild 4] 74 := .cons (v_aload_n (i := 0) d_Pf_writeDown_70 rfl) (.cons (v_iload_n (i := 3) d_Pf_writeDown_71 rfl) (.cons (v_iload (i := 4) d_Pf_writeDown_72) .nil))
theorem d_Pf_writeDown_74 : decode y_Pf_writeDown.2.1 74 = .ok (.invokevirtual 95, 3) := by decide +kernel
theorem b_Pf_writeDown_46 {X : aw_X} {d : Nat} {Q : Option Value → aw_H → Prop} {I : Nat → Nat → Int32} {L : Nat → Nat → Int64} {D : Nat → Nat} {v2 : Int32} {v3 : Int32} {s0 : Int32}
    (h1 : vp_in v2 511)
    (h2 : (100 : Int32) ≤ s0 → aw_z X (d + 1) y_Pf_writeDown Q 77 [some (.ref 23), none, some (.int v2), none, none] [] (aw_s (aw_u (aw_u I 28 v2.toNatClampNeg s0) 23 8 (v2 + (1 : Int32))) L D))
    (h3 : ¬ (100 : Int32) ≤ s0 → aw_m X d y_Pf_pushHalves [.ref 23, .int v3, .int s0] (aw_s (aw_u (aw_u I 28 v2.toNatClampNeg s0) 23 8 (v2 + (1 : Int32))) L D) (fun r A => aw_z X (d + 1) y_Pf_writeDown Q 77 [some (.ref 23), none, some (.int v2), none, none] (r.toList ++ []) A)) :
    aw_z X (d + 1) y_Pf_writeDown Q 46 [some (.ref 23), none, some (.int v2), some (.int v3), none] [.int s0] (aw_s I L D) :=
  (s_Pf_writeDown_46.go [some (.ref 23), none, some (.int v2), some (.int v3), some (.int s0)] [.int s0, .int v2, .ref 28] (aw_s I L D) rfl (z_iast (n := 511) rfl (aw_lt (o := 28) rfl) (h1) d_Pf_writeDown_55 (s_Pf_writeDown_56.go [some (.ref 23), none, some (.int v2), some (.int v3), some (.int s0)] [.int (100 : Int32), .int s0] (aw_s (aw_u (aw_u I 28 v2.toNatClampNeg s0) 23 8 (v2 + (1 : Int32))) L D) rfl (z_icmp_ge (tgt := 77) d_Pf_writeDown_67 rfl (fun q1 => (aw_Z.weak (ls' := [some (.ref 23), none, some (.int v2), none, none]) (h2 q1) (Nat.le_of_ble_eq_true rfl) ⟨Or.inr rfl, ⟨Or.inl rfl, ⟨Or.inr rfl, ⟨Or.inl rfl, ⟨Or.inl rfl, trivial⟩⟩⟩⟩⟩)) (fun q2 => (s_Pf_writeDown_70.go [some (.ref 23), none, some (.int v2), some (.int v3), some (.int s0)] [.int s0, .int v3, .ref 23] (aw_s (aw_u (aw_u I 28 v2.toNatClampNeg s0) 23 8 (v2 + (1 : Int32))) L D) rfl (z_callV (av := [.int v3, .int s0]) (st := []) ok_Pf_pushHalves (Or.inl w_1332) w_1334 w_66 k_Pf d_Pf_writeDown_74 rfl (aw_lt (o := 23) rfl) rfl rfl (Nat.le_of_ble_eq_true rfl) (Nat.le_refl _) (Nat.le_refl _) (aw_C.mono (h3 q2) (fun _ _ zz => aw_Z.weak (ls' := [some (.ref 23), none, some (.int v2), none, none]) zz (Nat.le_of_ble_eq_true rfl) ⟨Or.inr rfl, ⟨Or.inl rfl, ⟨Or.inr rfl, ⟨Or.inl rfl, ⟨Or.inl rfl, trivial⟩⟩⟩⟩⟩)))))))))
theorem d_Pf_writeDown_77 : decode y_Pf_writeDown.2.1 77 = .ok (.iinc 2 (1), 3) := by decide +kernel
theorem s_Pf_writeDown_77 : aw_VS y_Pf_writeDown 77 [o_inc 2 (1 : Int32)] 80 := .cons (v_iinc (k0 := (1 : Int32)) d_Pf_writeDown_77 (by decide +kernel)) .nil
theorem d_Pf_writeDown_80 : decode y_Pf_writeDown.2.1 80 = .ok (.goto (-63), 3) := by decide +kernel
theorem b_Pf_writeDown_77 {X : aw_X} {d : Nat} {Q : Option Value → aw_H → Prop} {I : Nat → Nat → Int32} {L : Nat → Nat → Int64} {D : Nat → Nat} {v2 : Int32}
    (h1 : aw_z X (d + 1) y_Pf_writeDown Q 17 [some (.ref 23), none, some (.int (v2 + (1 : Int32))), none, none] [] (aw_s I L D)) :
    aw_z X (d + 1) y_Pf_writeDown Q 77 [some (.ref 23), none, some (.int v2), none, none] [] (aw_s I L D) :=
  (s_Pf_writeDown_77.go [some (.ref 23), none, some (.int (v2 + (1 : Int32))), none, none] [] (aw_s I L D) rfl (z_goto (tgt := 17) d_Pf_writeDown_80 rfl (h1)))
/-! Pf_push -/
theorem d_Pf_push_0 : decode y_Pf_push.2.1 0 = .ok (.aload_n 0, 1) := by decide +kernel
theorem d_Pf_push_1 : decode y_Pf_push.2.1 1 = .ok (.getfield 59, 3) := by decide +kernel
theorem s_Pf_push_0 : aw_VS y_Pf_push 0 [o_ald 0, o_getI 5 6] 4 := .cons (v_aload_n (i := 0) d_Pf_push_0 rfl) (.cons (v_getI (k := 6) k_Pf (by decide) (Or.inl rfl) (Or.inl w_353) d_Pf_push_1) .nil)
theorem d_Pf_push_4 : decode y_Pf_push.2.1 4 = .ok (.ifCond .lt (35), 3) := by decide +kernel
theorem d_Pf_push_39 : decode y_Pf_push.2.1 39 = .ok (.return_, 1) := by decide +kernel
theorem d_Pf_push_7 : decode y_Pf_push.2.1 7 = .ok (.aload_n 0, 1) := by decide +kernel
theorem d_Pf_push_8 : decode y_Pf_push.2.1 8 = .ok (.getfield 59, 3) := by decide +kernel
theorem d_Pf_push_11 : decode y_Pf_push.2.1 11 = .ok (.aload_n 0, 1) := by decide +kernel
theorem d_Pf_push_12 : decode y_Pf_push.2.1 12 = .ok (.getfield 21, 3) := by decide +kernel
theorem d_Pf_push_15 : decode y_Pf_push.2.1 15 = .ok (.arraylength, 1) := by decide +kernel
theorem s_Pf_push_7 : aw_VS y_Pf_push 7 [o_ald 0, o_getI 5 6, o_ald 0, o_getA 5 5, o_alen] 16 := .cons (v_aload_n (i := 0) d_Pf_push_7 rfl) (.cons (v_getI (k := 6) k_Pf (by decide) (Or.inl rfl) (Or.inl w_353) d_Pf_push_8) (.cons (v_aload_n (i := 0) d_Pf_push_11 rfl) (.cons (v_getA (k := 5) k_Pf (by decide) rfl (Or.inl w_352) d_Pf_push_12) (.cons (v_alen d_Pf_push_15) .nil))))
theorem d_Pf_push_16 : decode y_Pf_push.2.1 16 = .ok (.if_icmp .ge (23), 3) := by decide +kernel
theorem d_Pf_push_19 : decode y_Pf_push.2.1 19 = .ok (.aload_n 0, 1) := by decide +kernel
theorem d_Pf_push_20 : decode y_Pf_push.2.1 20 = .ok (.getfield 21, 3) := by decide +kernel
theorem d_Pf_push_23 : decode y_Pf_push.2.1 23 = .ok (.aload_n 0, 1) := by decide +kernel
theorem d_Pf_push_24 : decode y_Pf_push.2.1 24 = .ok (.getfield 59, 3) := by decide +kernel
theorem d_Pf_push_27 : decode y_Pf_push.2.1 27 = .ok (.iload_n 1, 1) := by decide +kernel
theorem s_Pf_push_19 : aw_VS y_Pf_push 19 [o_ald 0, o_getA 5 5, o_ald 0, o_getI 5 6, o_ild 1] 28 := .cons (v_aload_n (i := 0) d_Pf_push_19 rfl) (.cons (v_getA (k := 5) k_Pf (by decide) rfl (Or.inl w_352) d_Pf_push_20) (.cons (v_aload_n (i := 0) d_Pf_push_23 rfl) (.cons (v_getI (k := 6) k_Pf (by decide) (Or.inl rfl) (Or.inl w_353) d_Pf_push_24) (.cons (v_iload_n (i := 1) d_Pf_push_27 rfl) .nil))))
theorem d_Pf_push_28 : decode y_Pf_push.2.1 28 = .ok (.iastore, 1) := by decide +kernel
theorem d_Pf_push_29 : decode y_Pf_push.2.1 29 = .ok (.aload_n 0, 1) := by decide +kernel
theorem d_Pf_push_30 : decode y_Pf_push.2.1 30 = .ok (.dup, 1) := by decide +kernel
theorem d_Pf_push_31 : decode y_Pf_push.2.1 31 = .ok (.getfield 59, 3) := by decide +kernel
theorem d_Pf_push_34 : decode y_Pf_push.2.1 34 = .ok (.iconst 1, 1) := by decide +kernel
theorem d_Pf_push_35 : decode y_Pf_push.2.1 35 = .ok (.iadd, 1) := by decide +kernel
theorem d_Pf_push_36 : decode y_Pf_push.2.1 36 = .ok (.putfield 59, 3) := by decide +kernel
theorem s_Pf_push_29 : aw_VS y_Pf_push 29 [o_ald 0, o_dup, o_getI 5 6, o_c (.int (1 : Int32)), o_i2 (fun x z => x + z), o_putI 5 6] 39 := .cons (v_aload_n (i := 0) d_Pf_push_29 rfl) (.cons (v_dup d_Pf_push_30) (.cons (v_getI (k := 6) k_Pf (by decide) (Or.inl rfl) (Or.inl w_353) d_Pf_push_31) (.cons (v_iconst (v := (1 : Int32)) d_Pf_push_34 (by decide +kernel)) (.cons (v_iadd d_Pf_push_35) (.cons (v_putI (k := 6) k_Pf (by decide) rfl (Or.inl ⟨rfl, Or.inl w_353⟩) d_Pf_push_36) .nil)))))
theorem b_Pf_push_0 {X : aw_X} {d : Nat} {Q : Option Value → aw_H → Prop} {I : Nat → Nat → Int32} {L : Nat → Nat → Int64} {D : Nat → Nat} {v1 : Int32}
    (h1 : (I 23 6) < 0 → Q none (aw_s I L D))
    (h2 : ¬ (I 23 6) < 0 → (16 : Int32) ≤ (I 23 6) → Q none (aw_s I L D))
    (h3 : ¬ (I 23 6) < 0 → ¬ (16 : Int32) ≤ (I 23 6) → vp_in (I 23 6) 16)
    (h4 : ¬ (I 23 6) < 0 → ¬ (16 : Int32) ≤ (I 23 6) → Q none (aw_s (aw_u (aw_u I 27 ((I 23 6).toNatClampNeg) v1) 23 6 ((I 23 6) + (1 : Int32))) L D)) :
    aw_z X d y_Pf_push Q 0 [some (.ref 23), some (.int v1)] [] (aw_s I L D) :=
  (s_Pf_push_0.go [some (.ref 23), some (.int v1)] [.int (I 23 6)] (aw_s I L D) rfl (z_if_lt (tgt := 39) d_Pf_push_4 rfl (fun q1 => (z_vret d_Pf_push_39 rfl (h1 q1))) (fun q2 => (s_Pf_push_7.go [some (.ref 23), some (.int v1)] [.int (16 : Int32), .int (I 23 6)] (aw_s I L D) rfl (z_icmp_ge (tgt := 39) d_Pf_push_16 rfl (fun q3 => (z_vret d_Pf_push_39 rfl (h2 q2 q3))) (fun q4 => (s_Pf_push_19.go [some (.ref 23), some (.int v1)] [.int v1, .int (I 23 6), .ref 27] (aw_s I L D) rfl (z_iast (n := 16) rfl (aw_lt (o := 27) rfl) (h3 q2 q4) d_Pf_push_28 (s_Pf_push_29.go [some (.ref 23), some (.int v1)] [] (aw_s (aw_u (aw_u I 27 ((I 23 6).toNatClampNeg) v1) 23 6 ((I 23 6) + (1 : Int32))) L D) rfl (z_vret d_Pf_push_39 rfl (h4 q2 q4)))))))))))
/-! Pf_pop -/
theorem d_Pf_pop_0 : decode y_Pf_pop.2.1 0 = .ok (.aload_n 0, 1) := by decide +kernel
theorem d_Pf_pop_1 : decode y_Pf_pop.2.1 1 = .ok (.getfield 59, 3) := by decide +kernel
theorem s_Pf_pop_0 : aw_VS y_Pf_pop 0 [o_ald 0, o_getI 5 6] 4 := .cons (v_aload_n (i := 0) d_Pf_pop_0 rfl) (.cons (v_getI (k := 6) k_Pf (by decide) (Or.inl rfl) (Or.inl w_353) d_Pf_pop_1) .nil)
theorem d_Pf_pop_4 : decode y_Pf_pop.2.1 4 = .ok (.ifCond .le (15), 3) := by decide +kernel
theorem d_Pf_pop_19 : decode y_Pf_pop.2.1 19 = .ok (.iconst 0, 1) := by decide +kernel
theorem s_Pf_pop_19 : aw_VS y_Pf_pop 19 [o_c (.int (0 : Int32))] 20 := .cons (v_iconst (v := (0 : Int32)) d_Pf_pop_19 (by decide +kernel)) .nil
theorem d_Pf_pop_20 : decode y_Pf_pop.2.1 20 = .ok (.ireturn, 1) := by decide +kernel
theorem d_Pf_pop_7 : decode y_Pf_pop.2.1 7 = .ok (.aload_n 0, 1) := by decide +kernel
theorem d_Pf_pop_8 : decode y_Pf_pop.2.1 8 = .ok (.getfield 59, 3) := by decide +kernel
theorem d_Pf_pop_11 : decode y_Pf_pop.2.1 11 = .ok (.aload_n 0, 1) := by decide +kernel
theorem d_Pf_pop_12 : decode y_Pf_pop.2.1 12 = .ok (.getfield 21, 3) := by decide +kernel
theorem d_Pf_pop_15 : decode y_Pf_pop.2.1 15 = .ok (.arraylength, 1) := by decide +kernel
theorem s_Pf_pop_7 : aw_VS y_Pf_pop 7 [o_ald 0, o_getI 5 6, o_ald 0, o_getA 5 5, o_alen] 16 := .cons (v_aload_n (i := 0) d_Pf_pop_7 rfl) (.cons (v_getI (k := 6) k_Pf (by decide) (Or.inl rfl) (Or.inl w_353) d_Pf_pop_8) (.cons (v_aload_n (i := 0) d_Pf_pop_11 rfl) (.cons (v_getA (k := 5) k_Pf (by decide) rfl (Or.inl w_352) d_Pf_pop_12) (.cons (v_alen d_Pf_pop_15) .nil))))
theorem d_Pf_pop_16 : decode y_Pf_pop.2.1 16 = .ok (.if_icmp .le (5), 3) := by decide +kernel
theorem d_Pf_pop_21 : decode y_Pf_pop.2.1 21 = .ok (.aload_n 0, 1) := by decide +kernel
theorem d_Pf_pop_22 : decode y_Pf_pop.2.1 22 = .ok (.dup, 1) := by decide +kernel
theorem d_Pf_pop_23 : decode y_Pf_pop.2.1 23 = .ok (.getfield 59, 3) := by decide +kernel
theorem d_Pf_pop_26 : decode y_Pf_pop.2.1 26 = .ok (.iconst 1, 1) := by decide +kernel
theorem d_Pf_pop_27 : decode y_Pf_pop.2.1 27 = .ok (.isub, 1) := by decide +kernel
theorem d_Pf_pop_28 : decode y_Pf_pop.2.1 28 = .ok (.putfield 59, 3) := by decide +kernel
theorem d_Pf_pop_31 : decode y_Pf_pop.2.1 31 = .ok (.aload_n 0, 1) := by decide +kernel
theorem d_Pf_pop_32 : decode y_Pf_pop.2.1 32 = .ok (.getfield 21, 3) := by decide +kernel
theorem d_Pf_pop_35 : decode y_Pf_pop.2.1 35 = .ok (.aload_n 0, 1) := by decide +kernel
theorem d_Pf_pop_36 : decode y_Pf_pop.2.1 36 = .ok (.getfield 59, 3) := by decide +kernel
theorem s_Pf_pop_21 : aw_VS y_Pf_pop 21 [o_ald 0, o_dup, o_getI 5 6, o_c (.int (1 : Int32)), o_i2 (fun x z => x - z), o_putI 5 6, o_ald 0, o_getA 5 5, o_ald 0, o_getI 5 6] 39 := .cons (v_aload_n (i := 0) d_Pf_pop_21 rfl) (.cons (v_dup d_Pf_pop_22) (.cons (v_getI (k := 6) k_Pf (by decide) (Or.inl rfl) (Or.inl w_353) d_Pf_pop_23) (.cons (v_iconst (v := (1 : Int32)) d_Pf_pop_26 (by decide +kernel)) (.cons (v_isub d_Pf_pop_27) (.cons (v_putI (k := 6) k_Pf (by decide) rfl (Or.inl ⟨rfl, Or.inl w_353⟩) d_Pf_pop_28) (.cons (v_aload_n (i := 0) d_Pf_pop_31 rfl) (.cons (v_getA (k := 5) k_Pf (by decide) rfl (Or.inl w_352) d_Pf_pop_32) (.cons (v_aload_n (i := 0) d_Pf_pop_35 rfl) (.cons (v_getI (k := 6) k_Pf (by decide) (Or.inl rfl) (Or.inl w_353) d_Pf_pop_36) .nil)))))))))
theorem d_Pf_pop_39 : decode y_Pf_pop.2.1 39 = .ok (.iaload, 1) := by decide +kernel
theorem d_Pf_pop_40 : decode y_Pf_pop.2.1 40 = .ok (.ireturn, 1) := by decide +kernel
theorem b_Pf_pop_0 {X : aw_X} {d : Nat} {Q : Option Value → aw_H → Prop} {I : Nat → Nat → Int32} {L : Nat → Nat → Int64} {D : Nat → Nat} 
    (h1 : (I 23 6) ≤ 0 → Q (some (.int (0 : Int32))) (aw_s I L D))
    (h2 : ¬ (I 23 6) ≤ 0 → (I 23 6) ≤ (16 : Int32) → vp_in ((I 23 6) - (1 : Int32)) 16)
    (h3 : ¬ (I 23 6) ≤ 0 → (I 23 6) ≤ (16 : Int32) → Q (some (.int (I 27 (((I 23 6) - (1 : Int32)).toNatClampNeg)))) (aw_s (aw_u I 23 6 ((I 23 6) - (1 : Int32))) L D))
    (h4 : ¬ (I 23 6) ≤ 0 → ¬ (I 23 6) ≤ (16 : Int32) → Q (some (.int (0 : Int32))) (aw_s I L D)) :
    aw_z X d y_Pf_pop Q 0 [some (.ref 23)] [] (aw_s I L D) :=
  (s_Pf_pop_0.go [some (.ref 23)] [.int (I 23 6)] (aw_s I L D) rfl (z_if_le (tgt := 19) d_Pf_pop_4 rfl (fun q1 => (s_Pf_pop_19.go [some (.ref 23)] [.int (0 : Int32)] (aw_s I L D) rfl (z_iret d_Pf_pop_20 rfl rfl (h1 q1)))) (fun q2 => (s_Pf_pop_7.go [some (.ref 23)] [.int (16 : Int32), .int (I 23 6)] (aw_s I L D) rfl (z_icmp_le (tgt := 21) d_Pf_pop_16 rfl (fun q3 => (s_Pf_pop_21.go [some (.ref 23)] [.int ((I 23 6) - (1 : Int32)), .ref 27] (aw_s (aw_u I 23 6 ((I 23 6) - (1 : Int32))) L D) rfl (z_iald (n := 16) rfl (aw_lt (o := 27) rfl) (h2 q2 q3) d_Pf_pop_39 (z_iret d_Pf_pop_40 rfl rfl (h3 q2 q3))))) (fun q4 => (s_Pf_pop_19.go [some (.ref 23)] [.int (0 : Int32)] (aw_s I L D) rfl (z_iret d_Pf_pop_20 rfl rfl (h4 q2 q4)))))))))
/-! Pf_pushHalves -/
theorem d_Pf_pushHalves_0 : decode y_Pf_pushHalves.2.1 0 = .ok (.aload_n 0, 1) := by decide +kernel
theorem d_Pf_pushHalves_1 : decode y_Pf_pushHalves.2.1 1 = .ok (.iload_n 1, 1) := by decide +kernel
theorem d_Pf_pushHalves_2 : decode y_Pf_pushHalves.2.1 2 = .ok (.iload_n 2, 1) := by decide +kernel
theorem d_Pf_pushHalves_3 : decode y_Pf_pushHalves.2.1 3 = .ok (.iconst 1, 1) := by decide +kernel
theorem s_Pf_pushHalves_0 : aw_VS y_Pf_pushHalves 0 [o_ald 0, o_ild 1, o_ild 2, o_c (.int (1 : Int32))] 4 := .cons (v_aload_n (i := 0) d_Pf_pushHalves_0 rfl) (.cons (v_iload_n (i := 1) d_Pf_pushHalves_1 rfl) (.cons (v_iload_n (i := 2) d_Pf_pushHalves_2 rfl) (.cons (v_iconst (v := (1 : Int32)) d_Pf_pushHalves_3 (by decide +kernel)) .nil)))
theorem d_Pf_pushHalves_4 : decode y_Pf_pushHalves.2.1 4 = .ok (.invokestatic 117, 3) := by decide +kernel
theorem b_Pf_pushHalves_0 {X : aw_X} {d : Nat} {Q : Option Value → aw_H → Prop} {I : Nat → Nat → Int32} {L : Nat → Nat → Int64} {D : Nat → Nat} {v1 : Int32} {v2 : Int32}
    (h1 : aw_m X d y_Pf_half [.int v1, .int v2, .int (1 : Int32)] (aw_s I L D) (fun r A => aw_z X (d + 1) y_Pf_pushHalves Q 7 [some (.ref 23), some (.int v1), some (.int v2)] (r.toList ++ [.ref 23]) A)) :
    aw_z X (d + 1) y_Pf_pushHalves Q 0 [some (.ref 23), some (.int v1), some (.int v2)] [] (aw_s I L D) :=
  (s_Pf_pushHalves_0.go [some (.ref 23), some (.int v1), some (.int v2)] [.int (1 : Int32), .int v2, .int v1, .ref 23] (aw_s I L D) rfl (z_callS (av := [.int v1, .int v2, .int (1 : Int32)]) (st := [.ref 23]) ok_Pf_half (Or.inl w_1311) w_1312 d_Pf_pushHalves_4 rfl rfl (Nat.le_of_ble_eq_true rfl) (Nat.le_refl _) (Nat.le_refl _) (h1)))
theorem d_Pf_pushHalves_7 : decode y_Pf_pushHalves.2.1 7 = .ok (.invokevirtual 62, 3) := by decide +kernel
theorem b_Pf_pushHalves_7 {X : aw_X} {d : Nat} {Q : Option Value → aw_H → Prop} {I : Nat → Nat → Int32} {L : Nat → Nat → Int64} {D : Nat → Nat} {v1 : Int32} {v2 : Int32} {s1 : Int32}
    (h1 : aw_m X d y_Pf_push [.ref 23, .int s1] (aw_s I L D) (fun r A => aw_z X (d + 1) y_Pf_pushHalves Q 10 [some (.ref 23), some (.int v1), some (.int v2)] (r.toList ++ []) A)) :
    aw_z X (d + 1) y_Pf_pushHalves Q 7 [some (.ref 23), some (.int v1), some (.int v2)] [.int s1, .ref 23] (aw_s I L D) :=
  (z_callV (av := [.int s1]) (st := []) ok_Pf_push (Or.inl w_1324) w_1326 w_64 k_Pf d_Pf_pushHalves_7 rfl (aw_lt (o := 23) rfl) rfl rfl (Nat.le_of_ble_eq_true rfl) (Nat.le_refl _) (Nat.le_refl _) (h1))
theorem d_Pf_pushHalves_10 : decode y_Pf_pushHalves.2.1 10 = .ok (.aload_n 0, 1) := by decide +kernel
theorem d_Pf_pushHalves_11 : decode y_Pf_pushHalves.2.1 11 = .ok (.iload_n 1, 1) := by decide +kernel
theorem d_Pf_pushHalves_12 : decode y_Pf_pushHalves.2.1 12 = .ok (.iload_n 2, 1) := by decide +kernel
theorem d_Pf_pushHalves_13 : decode y_Pf_pushHalves.2.1 13 = .ok (.iconst 0, 1) := by decide +kernel
theorem s_Pf_pushHalves_10 : aw_VS y_Pf_pushHalves 10 [o_ald 0, o_ild 1, o_ild 2, o_c (.int (0 : Int32))] 14 := .cons (v_aload_n (i := 0) d_Pf_pushHalves_10 rfl) (.cons (v_iload_n (i := 1) d_Pf_pushHalves_11 rfl) (.cons (v_iload_n (i := 2) d_Pf_pushHalves_12 rfl) (.cons (v_iconst (v := (0 : Int32)) d_Pf_pushHalves_13 (by decide +kernel)) .nil)))
theorem d_Pf_pushHalves_14 : decode y_Pf_pushHalves.2.1 14 = .ok (.invokestatic 117, 3) := by decide +kernel
theorem b_Pf_pushHalves_10 {X : aw_X} {d : Nat} {Q : Option Value → aw_H → Prop} {I : Nat → Nat → Int32} {L : Nat → Nat → Int64} {D : Nat → Nat} {v1 : Int32} {v2 : Int32}
    (h1 : aw_m X d y_Pf_half [.int v1, .int v2, .int (0 : Int32)] (aw_s I L D) (fun r A => aw_z X (d + 1) y_Pf_pushHalves Q 17 [none, none, none] (r.toList ++ [.ref 23]) A)) :
    aw_z X (d + 1) y_Pf_pushHalves Q 10 [some (.ref 23), some (.int v1), some (.int v2)] [] (aw_s I L D) :=
  (s_Pf_pushHalves_10.go [some (.ref 23), some (.int v1), some (.int v2)] [.int (0 : Int32), .int v2, .int v1, .ref 23] (aw_s I L D) rfl (z_callS (av := [.int v1, .int v2, .int (0 : Int32)]) (st := [.ref 23]) ok_Pf_half (Or.inl w_1311) w_1312 d_Pf_pushHalves_14 rfl rfl (Nat.le_of_ble_eq_true rfl) (Nat.le_refl _) (Nat.le_refl _) (aw_C.mono (h1) (fun _ _ zz => aw_Z.weak (ls' := [none, none, none]) zz (Nat.le_of_ble_eq_true rfl) ⟨Or.inl rfl, ⟨Or.inl rfl, ⟨Or.inl rfl, trivial⟩⟩⟩))))
theorem d_Pf_pushHalves_17 : decode y_Pf_pushHalves.2.1 17 = .ok (.invokevirtual 62, 3) := by decide +kernel
theorem b_Pf_pushHalves_17 {X : aw_X} {d : Nat} {Q : Option Value → aw_H → Prop} {I : Nat → Nat → Int32} {L : Nat → Nat → Int64} {D : Nat → Nat} {s1 : Int32}
    (h1 : aw_m X d y_Pf_push [.ref 23, .int s1] (aw_s I L D) (fun r A => aw_z X (d + 1) y_Pf_pushHalves Q 20 [none, none, none] (r.toList ++ []) A)) :
    aw_z X (d + 1) y_Pf_pushHalves Q 17 [none, none, none] [.int s1, .ref 23] (aw_s I L D) :=
  (z_callV (av := [.int s1]) (st := []) ok_Pf_push (Or.inl w_1324) w_1326 w_64 k_Pf d_Pf_pushHalves_17 rfl (aw_lt (o := 23) rfl) rfl rfl (Nat.le_of_ble_eq_true rfl) (Nat.le_refl _) (Nat.le_refl _) (h1))
theorem d_Pf_pushHalves_20 : decode y_Pf_pushHalves.2.1 20 = .ok (.return_, 1) := by decide +kernel
theorem b_Pf_pushHalves_20 {X : aw_X} {d : Nat} {Q : Option Value → aw_H → Prop} {I : Nat → Nat → Int32} {L : Nat → Nat → Int64} {D : Nat → Nat} 
    (h1 : Q none (aw_s I L D)) :
    aw_z X (d + 1) y_Pf_pushHalves Q 20 [none, none, none] [] (aw_s I L D) :=
  (z_vret d_Pf_pushHalves_20 rfl (h1))
/-! Pf_byteAt -/
theorem d_Pf_byteAt_0 : decode y_Pf_byteAt.2.1 0 = .ok (.iload_n 1, 1) := by decide +kernel
theorem s_Pf_byteAt_0 : aw_VS y_Pf_byteAt 0 [o_ild 1] 1 := .cons (v_iload_n (i := 1) d_Pf_byteAt_0 rfl) .nil
theorem d_Pf_byteAt_1 : decode y_Pf_byteAt.2.1 1 = .ok (.ifCond .lt (29), 3) := by decide +kernel
theorem d_Pf_byteAt_30 : decode y_Pf_byteAt.2.1 30 = .ok (.iconst (-1), 1) := by decide +kernel
theorem s_Pf_byteAt_30 : aw_VS y_Pf_byteAt 30 [o_c (.int (-1 : Int32))] 31 := .cons (v_iconst (v := (-1 : Int32)) d_Pf_byteAt_30 (by decide +kernel)) .nil
theorem d_Pf_byteAt_31 : decode y_Pf_byteAt.2.1 31 = .ok (.ireturn, 1) := by decide +kernel
theorem d_Pf_byteAt_4 : decode y_Pf_byteAt.2.1 4 = .ok (.iload_n 1, 1) := by decide +kernel
theorem d_Pf_byteAt_5 : decode y_Pf_byteAt.2.1 5 = .ok (.aload_n 0, 1) := by decide +kernel
theorem d_Pf_byteAt_6 : decode y_Pf_byteAt.2.1 6 = .ok (.getfield 35, 3) := by decide +kernel
theorem s_Pf_byteAt_4 : aw_VS y_Pf_byteAt 4 [o_ild 1, o_ald 0, o_getI 5 8] 9 := .cons (v_iload_n (i := 1) d_Pf_byteAt_4 rfl) (.cons (v_aload_n (i := 0) d_Pf_byteAt_5 rfl) (.cons (v_getI (k := 8) k_Pf (by decide) (Or.inl rfl) (Or.inl w_355) d_Pf_byteAt_6) .nil))
theorem d_Pf_byteAt_9 : decode y_Pf_byteAt.2.1 9 = .ok (.if_icmp .ge (21), 3) := by decide +kernel
theorem d_Pf_byteAt_12 : decode y_Pf_byteAt.2.1 12 = .ok (.iload_n 1, 1) := by decide +kernel
theorem d_Pf_byteAt_13 : decode y_Pf_byteAt.2.1 13 = .ok (.aload_n 0, 1) := by decide +kernel
theorem d_Pf_byteAt_14 : decode y_Pf_byteAt.2.1 14 = .ok (.getfield 24, 3) := by decide +kernel
theorem d_Pf_byteAt_17 : decode y_Pf_byteAt.2.1 17 = .ok (.arraylength, 1) := by decide +kernel
theorem s_Pf_byteAt_12 : aw_VS y_Pf_byteAt 12 [o_ild 1, o_ald 0, o_getA 5 7, o_alen] 18 := .cons (v_iload_n (i := 1) d_Pf_byteAt_12 rfl) (.cons (v_aload_n (i := 0) d_Pf_byteAt_13 rfl) (.cons (v_getA (k := 7) k_Pf (by decide) rfl (Or.inl w_354) d_Pf_byteAt_14) (.cons (v_alen d_Pf_byteAt_17) .nil)))
theorem d_Pf_byteAt_18 : decode y_Pf_byteAt.2.1 18 = .ok (.if_icmp .ge (12), 3) := by decide +kernel
theorem d_Pf_byteAt_21 : decode y_Pf_byteAt.2.1 21 = .ok (.aload_n 0, 1) := by decide +kernel
theorem d_Pf_byteAt_22 : decode y_Pf_byteAt.2.1 22 = .ok (.getfield 24, 3) := by decide +kernel
theorem d_Pf_byteAt_25 : decode y_Pf_byteAt.2.1 25 = .ok (.iload_n 1, 1) := by decide +kernel
theorem s_Pf_byteAt_21 : aw_VS y_Pf_byteAt 21 [o_ald 0, o_getA 5 7, o_ild 1] 26 := .cons (v_aload_n (i := 0) d_Pf_byteAt_21 rfl) (.cons (v_getA (k := 7) k_Pf (by decide) rfl (Or.inl w_354) d_Pf_byteAt_22) (.cons (v_iload_n (i := 1) d_Pf_byteAt_25 rfl) .nil))
theorem d_Pf_byteAt_26 : decode y_Pf_byteAt.2.1 26 = .ok (.iaload, 1) := by decide +kernel
theorem d_Pf_byteAt_27 : decode y_Pf_byteAt.2.1 27 = .ok (.goto (4), 3) := by decide +kernel
theorem b_Pf_byteAt_0 {X : aw_X} {d : Nat} {Q : Option Value → aw_H → Prop} {I : Nat → Nat → Int32} {L : Nat → Nat → Int64} {D : Nat → Nat} {v1 : Int32}
    (h1 : v1 < 0 → Q (some (.int (-1 : Int32))) (aw_s I L D))
    (h2 : ¬ v1 < 0 → (I 23 8) ≤ v1 → Q (some (.int (-1 : Int32))) (aw_s I L D))
    (h3 : ¬ v1 < 0 → ¬ (I 23 8) ≤ v1 → (511 : Int32) ≤ v1 → Q (some (.int (-1 : Int32))) (aw_s I L D))
    (h4 : ¬ v1 < 0 → ¬ (I 23 8) ≤ v1 → ¬ (511 : Int32) ≤ v1 → vp_in v1 511)
    (h5 : ¬ v1 < 0 → ¬ (I 23 8) ≤ v1 → ¬ (511 : Int32) ≤ v1 → Q (some (.int (I 28 v1.toNatClampNeg))) (aw_s I L D)) :
    aw_z X d y_Pf_byteAt Q 0 [some (.ref 23), some (.int v1)] [] (aw_s I L D) :=
  (s_Pf_byteAt_0.go [some (.ref 23), some (.int v1)] [.int v1] (aw_s I L D) rfl (z_if_lt (tgt := 30) d_Pf_byteAt_1 rfl (fun q1 => (s_Pf_byteAt_30.go [some (.ref 23), some (.int v1)] [.int (-1 : Int32)] (aw_s I L D) rfl (z_iret d_Pf_byteAt_31 rfl rfl (h1 q1)))) (fun q2 => (s_Pf_byteAt_4.go [some (.ref 23), some (.int v1)] [.int (I 23 8), .int v1] (aw_s I L D) rfl (z_icmp_ge (tgt := 30) d_Pf_byteAt_9 rfl (fun q3 => (s_Pf_byteAt_30.go [some (.ref 23), some (.int v1)] [.int (-1 : Int32)] (aw_s I L D) rfl (z_iret d_Pf_byteAt_31 rfl rfl (h2 q2 q3)))) (fun q4 => (s_Pf_byteAt_12.go [some (.ref 23), some (.int v1)] [.int (511 : Int32), .int v1] (aw_s I L D) rfl (z_icmp_ge (tgt := 30) d_Pf_byteAt_18 rfl (fun q5 => (s_Pf_byteAt_30.go [some (.ref 23), some (.int v1)] [.int (-1 : Int32)] (aw_s I L D) rfl (z_iret d_Pf_byteAt_31 rfl rfl (h3 q2 q4 q5)))) (fun q6 => (s_Pf_byteAt_21.go [some (.ref 23), some (.int v1)] [.int v1, .ref 28] (aw_s I L D) rfl (z_iald (n := 511) rfl (aw_lt (o := 28) rfl) (h4 q2 q4 q6) d_Pf_byteAt_26 (z_goto (tgt := 31) d_Pf_byteAt_27 rfl (z_iret d_Pf_byteAt_31 rfl rfl (h5 q2 q4 q6))))))))))))))
/-! Pf_firstWrong -/
theorem d_Pf_firstWrong_0 : decode y_Pf_firstWrong.2.1 0 = .ok (.aload_n 0, 1) := by decide +kernel
theorem d_Pf_firstWrong_1 : decode y_Pf_firstWrong.2.1 1 = .ok (.aload_n 1, 1) := by decide +kernel
theorem s_Pf_firstWrong_0 : aw_VS y_Pf_firstWrong 0 [o_ald 0, o_ald 1] 2 := .cons (v_aload_n (i := 0) d_Pf_firstWrong_0 rfl) (.cons (v_aload_n (i := 1) d_Pf_firstWrong_1 rfl) .nil)
theorem d_Pf_firstWrong_2 : decode y_Pf_firstWrong.2.1 2 = .ok (.invokevirtual 39, 3) := by decide +kernel
theorem b_Pf_firstWrong_0 {X : aw_X} {d : Nat} {Q : Option Value → aw_H → Prop} {I : Nat → Nat → Int32} {L : Nat → Nat → Int64} {D : Nat → Nat} {c1 : Nat}
    (h1 : aw_m X d y_Pf_fillFailing [.ref 23, .ref c1] (aw_s I L D) (fun r A => aw_z X (d + 1) y_Pf_firstWrong Q 5 [some (.ref 23), some (.ref c1), some (.ref 2), none] (r.toList ++ []) A)) :
    aw_z X (d + 1) y_Pf_firstWrong Q 0 [some (.ref 23), some (.ref c1), some (.ref 2), none] [] (aw_s I L D) :=
  (s_Pf_firstWrong_0.go [some (.ref 23), some (.ref c1), some (.ref 2), none] [.ref c1, .ref 23] (aw_s I L D) rfl (z_callV (av := [.ref c1]) (st := []) ok_Pf_fillFailing (Or.inl w_1284) w_1286 w_58 k_Pf d_Pf_firstWrong_2 rfl (aw_lt (o := 23) rfl) rfl rfl (Nat.le_of_ble_eq_true rfl) (Nat.le_refl _) (Nat.le_refl _) (h1)))
theorem d_Pf_firstWrong_5 : decode y_Pf_firstWrong.2.1 5 = .ok (.aload_n 0, 1) := by decide +kernel
theorem d_Pf_firstWrong_6 : decode y_Pf_firstWrong.2.1 6 = .ok (.iconst 0, 1) := by decide +kernel
theorem d_Pf_firstWrong_7 : decode y_Pf_firstWrong.2.1 7 = .ok (.putfield 59, 3) := by decide +kernel
theorem d_Pf_firstWrong_10 : decode y_Pf_firstWrong.2.1 10 = .ok (.aload_n 0, 1) := by decide +kernel
theorem d_Pf_firstWrong_11 : decode y_Pf_firstWrong.2.1 11 = .ok (.aload_n 0, 1) := by decide +kernel
theorem s_Pf_firstWrong_5 : aw_VS y_Pf_firstWrong 5 [o_ald 0, o_c (.int (0 : Int32)), o_putI 5 6, o_ald 0, o_ald 0] 12 := .cons (v_aload_n (i := 0) d_Pf_firstWrong_5 rfl) (.cons (v_iconst (v := (0 : Int32)) d_Pf_firstWrong_6 (by decide +kernel)) (.cons (v_putI (k := 6) k_Pf (by decide) rfl (Or.inl ⟨rfl, Or.inl w_353⟩) d_Pf_firstWrong_7) (.cons (v_aload_n (i := 0) d_Pf_firstWrong_10 rfl) (.cons (v_aload_n (i := 0) d_Pf_firstWrong_11 rfl) .nil))))
theorem d_Pf_firstWrong_12 : decode y_Pf_firstWrong.2.1 12 = .ok (.invokevirtual 43, 3) := by decide +kernel
theorem b_Pf_firstWrong_5 {X : aw_X} {d : Nat} {Q : Option Value → aw_H → Prop} {I : Nat → Nat → Int32} {L : Nat → Nat → Int64} {D : Nat → Nat} {c1 : Nat}
    (h1 : aw_m X d y_Pf_parts [.ref 23] (aw_s (aw_u I 23 6 (0 : Int32)) L D) (fun r A => aw_z X (d + 1) y_Pf_firstWrong Q 15 [some (.ref 23), some (.ref c1), some (.ref 2), none] (r.toList ++ [.ref 23]) A)) :
    aw_z X (d + 1) y_Pf_firstWrong Q 5 [some (.ref 23), some (.ref c1), some (.ref 2), none] [] (aw_s I L D) :=
  (s_Pf_firstWrong_5.go [some (.ref 23), some (.ref c1), some (.ref 2), none] [.ref 23, .ref 23] (aw_s (aw_u I 23 6 (0 : Int32)) L D) rfl (z_callV (av := []) (st := [.ref 23]) ok_Pf_parts (Or.inl w_1288) w_1290 w_59 k_Pf d_Pf_firstWrong_12 rfl (aw_lt (o := 23) rfl) rfl rfl (Nat.le_of_ble_eq_true rfl) (Nat.le_refl _) (Nat.le_refl _) (h1)))
theorem d_Pf_firstWrong_15 : decode y_Pf_firstWrong.2.1 15 = .ok (.iconst 1, 1) := by decide +kernel
theorem d_Pf_firstWrong_16 : decode y_Pf_firstWrong.2.1 16 = .ok (.isub, 1) := by decide +kernel
theorem s_Pf_firstWrong_15 : aw_VS y_Pf_firstWrong 15 [o_c (.int (1 : Int32)), o_i2 (fun x z => x - z)] 17 := .cons (v_iconst (v := (1 : Int32)) d_Pf_firstWrong_15 (by decide +kernel)) (.cons (v_isub d_Pf_firstWrong_16) .nil)
theorem d_Pf_firstWrong_17 : decode y_Pf_firstWrong.2.1 17 = .ok (.invokevirtual 62, 3) := by decide +kernel
theorem b_Pf_firstWrong_15 {X : aw_X} {d : Nat} {Q : Option Value → aw_H → Prop} {I : Nat → Nat → Int32} {L : Nat → Nat → Int64} {D : Nat → Nat} {c1 : Nat} {s1 : Int32}
    (h1 : aw_m X d y_Pf_push [.ref 23, .int (s1 - (1 : Int32))] (aw_s I L D) (fun r A => aw_z X (d + 1) y_Pf_firstWrong Q 20 [some (.ref 23), some (.ref c1), some (.ref 2), none] (r.toList ++ []) A)) :
    aw_z X (d + 1) y_Pf_firstWrong Q 15 [some (.ref 23), some (.ref c1), some (.ref 2), none] [.int s1, .ref 23] (aw_s I L D) :=
  (s_Pf_firstWrong_15.go [some (.ref 23), some (.ref c1), some (.ref 2), none] [.int (s1 - (1 : Int32)), .ref 23] (aw_s I L D) rfl (z_callV (av := [.int (s1 - (1 : Int32))]) (st := []) ok_Pf_push (Or.inl w_1324) w_1326 w_64 k_Pf d_Pf_firstWrong_17 rfl (aw_lt (o := 23) rfl) rfl rfl (Nat.le_of_ble_eq_true rfl) (Nat.le_refl _) (Nat.le_refl _) (h1)))
theorem d_Pf_firstWrong_20 : decode y_Pf_firstWrong.2.1 20 = .ok (.iconst 0, 1) := by decide +kernel
theorem d_Pf_firstWrong_21 : decode y_Pf_firstWrong.2.1 21 = .ok (.istore_n 3, 1) := by decide +kernel
theorem s_Pf_firstWrong_20 : aw_VS y_Pf_firstWrong 20 [o_c (.int (0 : Int32)), o_ist 3] 22 := .cons (v_iconst (v := (0 : Int32)) d_Pf_firstWrong_20 (by decide +kernel)) (.cons (v_istore_n d_Pf_firstWrong_21) .nil)
theorem b_Pf_firstWrong_20 {X : aw_X} {d : Nat} {Q : Option Value → aw_H → Prop} {I : Nat → Nat → Int32} {L : Nat → Nat → Int64} {D : Nat → Nat} {c1 : Nat}
    (h1 : aw_z X (d + 1) y_Pf_firstWrong Q 22 [some (.ref 23), some (.ref c1), some (.ref 2), some (.int (0 : Int32))] [] (aw_s I L D)) :
    aw_z X (d + 1) y_Pf_firstWrong Q 20 [some (.ref 23), some (.ref c1), some (.ref 2), none] [] (aw_s I L D) :=
  (s_Pf_firstWrong_20.go [some (.ref 23), some (.ref c1), some (.ref 2), some (.int (0 : Int32))] [] (aw_s I L D) rfl (h1))
theorem d_Pf_firstWrong_22 : decode y_Pf_firstWrong.2.1 22 = .ok (.iload_n 3, 1) := by decide +kernel
theorem d_Pf_firstWrong_23 : decode y_Pf_firstWrong.2.1 23 = .ok (.aload_n 2, 1) := by decide +kernel
theorem d_Pf_firstWrong_24 : decode y_Pf_firstWrong.2.1 24 = .ok (.getfield 65, 3) := by decide +kernel
theorem s_Pf_firstWrong_22 : aw_VS y_Pf_firstWrong 22 [o_ild 3, o_ald 2, o_getI 2 1] 27 := .cons (v_iload_n (i := 3) d_Pf_firstWrong_22 rfl) (.cons (v_aload_n (i := 2) d_Pf_firstWrong_23 rfl) (.cons (v_getI (k := 1) k_Tp (by decide) (Or.inl rfl) (Or.inr ⟨"AllWays", w_194⟩) d_Pf_firstWrong_24) .nil))
theorem d_Pf_firstWrong_27 : decode y_Pf_firstWrong.2.1 27 = .ok (.if_icmp .ge (38), 3) := by decide +kernel
theorem d_Pf_firstWrong_65 : decode y_Pf_firstWrong.2.1 65 = .ok (.aload_n 0, 1) := by decide +kernel
theorem d_Pf_firstWrong_66 : decode y_Pf_firstWrong.2.1 66 = .ok (.getfield 59, 3) := by decide +kernel
theorem s_Pf_firstWrong_65 : aw_VS y_Pf_firstWrong 65 [o_ald 0, o_getI 5 6] 69 := .cons (v_aload_n (i := 0) d_Pf_firstWrong_65 rfl) (.cons (v_getI (k := 6) k_Pf (by decide) (Or.inl rfl) (Or.inl w_353) d_Pf_firstWrong_66) .nil)
theorem d_Pf_firstWrong_69 : decode y_Pf_firstWrong.2.1 69 = .ok (.ifCond .ne (7), 3) := by decide +kernel
theorem d_Pf_firstWrong_76 : decode y_Pf_firstWrong.2.1 76 = .ok (.aload_n 2, 1) := by decide +kernel
theorem d_Pf_firstWrong_77 : decode y_Pf_firstWrong.2.1 77 = .ok (.getfield 65, 3) := by decide +kernel
theorem s_Pf_firstWrong_76 : aw_VS y_Pf_firstWrong 76 [o_ald 2, o_getI 2 1] 80 := .cons (v_aload_n (i := 2) d_Pf_firstWrong_76 rfl) (.cons (v_getI (k := 1) k_Tp (by decide) (Or.inl rfl) (Or.inr ⟨"AllWays", w_194⟩) d_Pf_firstWrong_77) .nil)
theorem d_Pf_firstWrong_80 : decode y_Pf_firstWrong.2.1 80 = .ok (.ireturn, 1) := by decide +kernel
theorem d_Pf_firstWrong_72 : decode y_Pf_firstWrong.2.1 72 = .ok (.iconst (-1), 1) := by decide +kernel
theorem s_Pf_firstWrong_72 : aw_VS y_Pf_firstWrong 72 [o_c (.int (-1 : Int32))] 73 := .cons (v_iconst (v := (-1 : Int32)) d_Pf_firstWrong_72 (by decide +kernel)) .nil
theorem d_Pf_firstWrong_73 : decode y_Pf_firstWrong.2.1 73 = .ok (.goto (7), 3) := by decide +kernel
theorem d_Pf_firstWrong_30 : decode y_Pf_firstWrong.2.1 30 = .ok (.aload_n 0, 1) := by decide +kernel
theorem d_Pf_firstWrong_31 : decode y_Pf_firstWrong.2.1 31 = .ok (.getfield 59, 3) := by decide +kernel
theorem s_Pf_firstWrong_30 : aw_VS y_Pf_firstWrong 30 [o_ald 0, o_getI 5 6] 34 := .cons (v_aload_n (i := 0) d_Pf_firstWrong_30 rfl) (.cons (v_getI (k := 6) k_Pf (by decide) (Or.inl rfl) (Or.inl w_353) d_Pf_firstWrong_31) .nil)
theorem d_Pf_firstWrong_34 : decode y_Pf_firstWrong.2.1 34 = .ok (.ifCond .eq (23), 3) := by decide +kernel
theorem d_Pf_firstWrong_57 : decode y_Pf_firstWrong.2.1 57 = .ok (.iload_n 3, 1) := by decide +kernel
theorem s_Pf_firstWrong_57 : aw_VS y_Pf_firstWrong 57 [o_ild 3] 58 := .cons (v_iload_n (i := 3) d_Pf_firstWrong_57 rfl) .nil
theorem d_Pf_firstWrong_58 : decode y_Pf_firstWrong.2.1 58 = .ok (.ireturn, 1) := by decide +kernel
theorem d_Pf_firstWrong_37 : decode y_Pf_firstWrong.2.1 37 = .ok (.aload_n 0, 1) := by decide +kernel
theorem d_Pf_firstWrong_38 : decode y_Pf_firstWrong.2.1 38 = .ok (.aload_n 0, 1) := by decide +kernel
theorem s_Pf_firstWrong_37 : aw_VS y_Pf_firstWrong 37 [o_ald 0, o_ald 0] 39 := .cons (v_aload_n (i := 0) d_Pf_firstWrong_37 rfl) (.cons (v_aload_n (i := 0) d_Pf_firstWrong_38 rfl) .nil)
theorem d_Pf_firstWrong_39 : decode y_Pf_firstWrong.2.1 39 = .ok (.invokevirtual 70, 3) := by decide +kernel
theorem b_Pf_firstWrong_22 {X : aw_X} {d : Nat} {Q : Option Value → aw_H → Prop} {I : Nat → Nat → Int32} {L : Nat → Nat → Int64} {D : Nat → Nat} {c1 : Nat} {v3 : Int32}
    (h1 : (I 2 1) ≤ v3 → ¬ (I 23 6) = 0 → Q (some (.int (I 2 1))) (aw_s I L D))
    (h2 : (I 2 1) ≤ v3 → (I 23 6) = 0 → Q (some (.int (-1 : Int32))) (aw_s I L D))
    (h3 : ¬ (I 2 1) ≤ v3 → (I 23 6) = 0 → Q (some (.int v3)) (aw_s I L D))
    (h4 : ¬ (I 2 1) ≤ v3 → ¬ (I 23 6) = 0 → aw_m X d y_Pf_pop [.ref 23] (aw_s I L D) (fun r A => aw_z X (d + 1) y_Pf_firstWrong Q 42 [some (.ref 23), some (.ref c1), some (.ref 2), some (.int v3)] (r.toList ++ [.ref 23]) A)) :
    aw_z X (d + 1) y_Pf_firstWrong Q 22 [some (.ref 23), some (.ref c1), some (.ref 2), some (.int v3)] [] (aw_s I L D) :=
  (s_Pf_firstWrong_22.go [some (.ref 23), some (.ref c1), some (.ref 2), some (.int v3)] [.int (I 2 1), .int v3] (aw_s I L D) rfl (z_icmp_ge (tgt := 65) d_Pf_firstWrong_27 rfl (fun q1 => (s_Pf_firstWrong_65.go [some (.ref 23), some (.ref c1), some (.ref 2), some (.int v3)] [.int (I 23 6)] (aw_s I L D) rfl (z_if_ne (tgt := 76) d_Pf_firstWrong_69 rfl (fun q3 => (s_Pf_firstWrong_76.go [some (.ref 23), some (.ref c1), some (.ref 2), some (.int v3)] [.int (I 2 1)] (aw_s I L D) rfl (z_iret d_Pf_firstWrong_80 rfl rfl (h1 q1 q3)))) (fun q4 => (s_Pf_firstWrong_72.go [some (.ref 23), some (.ref c1), some (.ref 2), some (.int v3)] [.int (-1 : Int32)] (aw_s I L D) rfl (z_goto (tgt := 80) d_Pf_firstWrong_73 rfl (z_iret d_Pf_firstWrong_80 rfl rfl (h2 q1 q4)))))))) (fun q2 => (s_Pf_firstWrong_30.go [some (.ref 23), some (.ref c1), some (.ref 2), some (.int v3)] [.int (I 23 6)] (aw_s I L D) rfl (z_if_eq (tgt := 57) d_Pf_firstWrong_34 rfl (fun q5 => (s_Pf_firstWrong_57.go [some (.ref 23), some (.ref c1), some (.ref 2), some (.int v3)] [.int v3] (aw_s I L D) rfl (z_iret d_Pf_firstWrong_58 rfl rfl (h3 q2 q5)))) (fun q6 => (s_Pf_firstWrong_37.go [some (.ref 23), some (.ref c1), some (.ref 2), some (.int v3)] [.ref 23, .ref 23] (aw_s I L D) rfl (z_callV (av := []) (st := [.ref 23]) ok_Pf_pop (Or.inl w_1328) w_1330 w_65 k_Pf d_Pf_firstWrong_39 rfl (aw_lt (o := 23) rfl) rfl rfl (Nat.le_of_ble_eq_true rfl) (Nat.le_refl _) (Nat.le_refl _) (h4 q2 q6)))))))))
theorem d_Pf_firstWrong_42 : decode y_Pf_firstWrong.2.1 42 = .ok (.aload_n 2, 1) := by decide +kernel
theorem d_Pf_firstWrong_43 : decode y_Pf_firstWrong.2.1 43 = .ok (.iload_n 3, 1) := by decide +kernel
theorem s_Pf_firstWrong_42 : aw_VS y_Pf_firstWrong 42 [o_ald 2, o_ild 3] 44 := .cons (v_aload_n (i := 2) d_Pf_firstWrong_42 rfl) (.cons (v_iload_n (i := 3) d_Pf_firstWrong_43 rfl) .nil)
theorem d_Pf_firstWrong_44 : decode y_Pf_firstWrong.2.1 44 = .ok (.invokevirtual 73, 3) := by decide +kernel
theorem b_Pf_firstWrong_42 {X : aw_X} {d : Nat} {Q : Option Value → aw_H → Prop} {I : Nat → Nat → Int32} {L : Nat → Nat → Int64} {D : Nat → Nat} {c1 : Nat} {v3 : Int32} {s1 : Int32}
    (h1 : aw_m X d y_Tp_byteAt [.ref 2, .int v3] (aw_s I L D) (fun r A => aw_z X (d + 1) y_Pf_firstWrong Q 47 [some (.ref 23), some (.ref c1), some (.ref 2), some (.int v3)] (r.toList ++ [.int s1, .ref 23]) A)) :
    aw_z X (d + 1) y_Pf_firstWrong Q 42 [some (.ref 23), some (.ref c1), some (.ref 2), some (.int v3)] [.int s1, .ref 23] (aw_s I L D) :=
  (s_Pf_firstWrong_42.go [some (.ref 23), some (.ref c1), some (.ref 2), some (.int v3)] [.int v3, .ref 2, .int s1, .ref 23] (aw_s I L D) rfl (z_callV (av := [.int v3]) (st := [.int s1, .ref 23]) ok_Tp_byteAt (Or.inl w_1352) w_594 w_595 k_Tp d_Pf_firstWrong_44 rfl (aw_lt (o := 2) rfl) rfl rfl (Nat.le_of_ble_eq_true rfl) (Nat.le_refl _) (Nat.le_refl _) (h1)))
theorem d_Pf_firstWrong_47 : decode y_Pf_firstWrong.2.1 47 = .ok (.aload_n 1, 1) := by decide +kernel
theorem d_Pf_firstWrong_48 : decode y_Pf_firstWrong.2.1 48 = .ok (.getfield 77, 3) := by decide +kernel
theorem s_Pf_firstWrong_47 : aw_VS y_Pf_firstWrong 47 [o_ald 1, o_getI 6 9] 51 := .cons (v_aload_n (i := 1) d_Pf_firstWrong_47 rfl) (.cons (v_getI (k := 9) k_Cd (by decide) (Or.inl rfl) (Or.inr ⟨"AllWays", w_400⟩) d_Pf_firstWrong_48) .nil)
theorem d_Pf_firstWrong_51 : decode y_Pf_firstWrong.2.1 51 = .ok (.invokevirtual 82, 3) := by decide +kernel
theorem b_Pf_firstWrong_47 {X : aw_X} {d : Nat} {Q : Option Value → aw_H → Prop} {I : Nat → Nat → Int32} {L : Nat → Nat → Int64} {D : Nat → Nat} {c1 : Nat} {v3 : Int32} {s2 : Int32} {s1 : Int32} (hc1 : c1 ∈ aw_codes)
    (h1 : aw_m X d y_Pf_follow [.ref 23, .int s1, .int s2, .int (I c1 9)] (aw_s I L D) (fun r A => aw_z X (d + 1) y_Pf_firstWrong Q 54 [some (.ref 23), some (.ref c1), some (.ref 2), some (.int v3)] (r.toList ++ []) A)) :
    aw_z X (d + 1) y_Pf_firstWrong Q 47 [some (.ref 23), some (.ref c1), some (.ref 2), some (.int v3)] [.int s2, .int s1, .ref 23] (aw_s I L D) := by
  simp only [aw_codes, List.mem_cons, List.not_mem_nil, or_false] at hc1
  rcases hc1 with rfl | rfl | rfl | rfl | rfl | rfl
  · exact (s_Pf_firstWrong_47.go [some (.ref 23), some (.ref 30), some (.ref 2), some (.int v3)] [.int (I 30 9), .int s2, .int s1, .ref 23] (aw_s I L D) rfl (z_callV (av := [.int s1, .int s2, .int (I 30 9)]) (st := []) ok_Pf_follow (Or.inl w_1353) w_1355 w_67 k_Pf d_Pf_firstWrong_51 rfl (aw_lt (o := 23) rfl) rfl rfl (Nat.le_of_ble_eq_true rfl) (Nat.le_refl _) (Nat.le_refl _) (h1)))
  · exact (s_Pf_firstWrong_47.go [some (.ref 23), some (.ref 35), some (.ref 2), some (.int v3)] [.int (I 35 9), .int s2, .int s1, .ref 23] (aw_s I L D) rfl (z_callV (av := [.int s1, .int s2, .int (I 35 9)]) (st := []) ok_Pf_follow (Or.inl w_1353) w_1355 w_67 k_Pf d_Pf_firstWrong_51 rfl (aw_lt (o := 23) rfl) rfl rfl (Nat.le_of_ble_eq_true rfl) (Nat.le_refl _) (Nat.le_refl _) (h1)))
  · exact (s_Pf_firstWrong_47.go [some (.ref 23), some (.ref 40), some (.ref 2), some (.int v3)] [.int (I 40 9), .int s2, .int s1, .ref 23] (aw_s I L D) rfl (z_callV (av := [.int s1, .int s2, .int (I 40 9)]) (st := []) ok_Pf_follow (Or.inl w_1353) w_1355 w_67 k_Pf d_Pf_firstWrong_51 rfl (aw_lt (o := 23) rfl) rfl rfl (Nat.le_of_ble_eq_true rfl) (Nat.le_refl _) (Nat.le_refl _) (h1)))
  · exact (s_Pf_firstWrong_47.go [some (.ref 23), some (.ref 45), some (.ref 2), some (.int v3)] [.int (I 45 9), .int s2, .int s1, .ref 23] (aw_s I L D) rfl (z_callV (av := [.int s1, .int s2, .int (I 45 9)]) (st := []) ok_Pf_follow (Or.inl w_1353) w_1355 w_67 k_Pf d_Pf_firstWrong_51 rfl (aw_lt (o := 23) rfl) rfl rfl (Nat.le_of_ble_eq_true rfl) (Nat.le_refl _) (Nat.le_refl _) (h1)))
  · exact (s_Pf_firstWrong_47.go [some (.ref 23), some (.ref 50), some (.ref 2), some (.int v3)] [.int (I 50 9), .int s2, .int s1, .ref 23] (aw_s I L D) rfl (z_callV (av := [.int s1, .int s2, .int (I 50 9)]) (st := []) ok_Pf_follow (Or.inl w_1353) w_1355 w_67 k_Pf d_Pf_firstWrong_51 rfl (aw_lt (o := 23) rfl) rfl rfl (Nat.le_of_ble_eq_true rfl) (Nat.le_refl _) (Nat.le_refl _) (h1)))
  · exact (s_Pf_firstWrong_47.go [some (.ref 23), some (.ref 55), some (.ref 2), some (.int v3)] [.int (I 55 9), .int s2, .int s1, .ref 23] (aw_s I L D) rfl (z_callV (av := [.int s1, .int s2, .int (I 55 9)]) (st := []) ok_Pf_follow (Or.inl w_1353) w_1355 w_67 k_Pf d_Pf_firstWrong_51 rfl (aw_lt (o := 23) rfl) rfl rfl (Nat.le_of_ble_eq_true rfl) (Nat.le_refl _) (Nat.le_refl _) (h1)))
theorem d_Pf_firstWrong_54 : decode y_Pf_firstWrong.2.1 54 = .ok (.ifCond .ne (5), 3) := by decide +kernel
theorem d_Pf_firstWrong_59 : decode y_Pf_firstWrong.2.1 59 = .ok (.iinc 3 (1), 3) := by decide +kernel
theorem s_Pf_firstWrong_59 : aw_VS y_Pf_firstWrong 59 [o_inc 3 (1 : Int32)] 62 := .cons (v_iinc (k0 := (1 : Int32)) d_Pf_firstWrong_59 (by decide +kernel)) .nil
theorem d_Pf_firstWrong_62 : decode y_Pf_firstWrong.2.1 62 = .ok (.goto (-40), 3) := by decide +kernel
theorem b_Pf_firstWrong_54 {X : aw_X} {d : Nat} {Q : Option Value → aw_H → Prop} {I : Nat → Nat → Int32} {L : Nat → Nat → Int64} {D : Nat → Nat} {c1 : Nat} {v3 : Int32} {s0 : Int32}
    (h1 : ¬ s0 = 0 → aw_z X (d + 1) y_Pf_firstWrong Q 22 [some (.ref 23), some (.ref c1), some (.ref 2), some (.int (v3 + (1 : Int32)))] [] (aw_s I L D))
    (h2 : s0 = 0 → Q (some (.int v3)) (aw_s I L D)) :
    aw_z X (d + 1) y_Pf_firstWrong Q 54 [some (.ref 23), some (.ref c1), some (.ref 2), some (.int v3)] [.int s0] (aw_s I L D) :=
  (z_if_ne (tgt := 59) d_Pf_firstWrong_54 rfl (fun q1 => (s_Pf_firstWrong_59.go [some (.ref 23), some (.ref c1), some (.ref 2), some (.int (v3 + (1 : Int32)))] [] (aw_s I L D) rfl (z_goto (tgt := 22) d_Pf_firstWrong_62 rfl (h1 q1)))) (fun q2 => (s_Pf_firstWrong_57.go [some (.ref 23), some (.ref c1), some (.ref 2), some (.int v3)] [.int v3] (aw_s I L D) rfl (z_iret d_Pf_firstWrong_58 rfl rfl (h2 q2)))))
/-! Pf_follow -/
theorem d_Pf_follow_0 : decode y_Pf_follow.2.1 0 = .ok (.iload_n 2, 1) := by decide +kernel
theorem d_Pf_follow_1 : decode y_Pf_follow.2.1 1 = .ok (.bipush 100, 2) := by decide +kernel
theorem s_Pf_follow_0 : aw_VS y_Pf_follow 0 [o_ild 2, o_c (.int (100 : Int32))] 3 := .cons (v_iload_n (i := 2) d_Pf_follow_0 rfl) (.cons (v_bipush (v := (100 : Int32)) d_Pf_follow_1 (by decide +kernel)) .nil)
theorem d_Pf_follow_3 : decode y_Pf_follow.2.1 3 = .ok (.if_icmp .lt (38), 3) := by decide +kernel
theorem d_Pf_follow_41 : decode y_Pf_follow.2.1 41 = .ok (.iload_n 2, 1) := by decide +kernel
theorem d_Pf_follow_42 : decode y_Pf_follow.2.1 42 = .ok (.aload_n 0, 1) := by decide +kernel
theorem d_Pf_follow_43 : decode y_Pf_follow.2.1 43 = .ok (.getfield 27, 3) := by decide +kernel
theorem s_Pf_follow_41 : aw_VS y_Pf_follow 41 [o_ild 2, o_ald 0, o_getA 5 0] 46 := .cons (v_iload_n (i := 2) d_Pf_follow_41 rfl) (.cons (v_aload_n (i := 0) d_Pf_follow_42 rfl) (.cons (v_getA (k := 0) k_Pf (by decide) rfl (Or.inl w_347) d_Pf_follow_43) .nil))
theorem d_Pf_follow_46 : decode y_Pf_follow.2.1 46 = .ok (.invokevirtual 86, 3) := by decide +kernel
theorem d_Pf_follow_6 : decode y_Pf_follow.2.1 6 = .ok (.iload_n 2, 1) := by decide +kernel
theorem d_Pf_follow_7 : decode y_Pf_follow.2.1 7 = .ok (.bipush 100, 2) := by decide +kernel
theorem d_Pf_follow_9 : decode y_Pf_follow.2.1 9 = .ok (.isub, 1) := by decide +kernel
theorem d_Pf_follow_10 : decode y_Pf_follow.2.1 10 = .ok (.istore 4, 2) := by decide +kernel
theorem d_Pf_follow_12 : decode y_Pf_follow.2.1 12 = .ok (.iload 4, 2) := by decide +kernel
theorem d_Pf_follow_14 : decode y_Pf_follow.2.1 14 = .ok (.iload_n 3, 1) := by decide +kernel
theorem s_Pf_follow_6 : aw_VS y_Pf_follow 6 [o_ild 2, o_c (.int (100 : Int32)), o_i2 (fun x z => x - z), o_ist 4, o_ild 4, o_ild 3] 15 := .cons (v_iload_n (i := 2) d_Pf_follow_6 rfl) (.cons (v_bipush (v := (100 : Int32)) d_Pf_follow_7 (by decide +kernel)) (.cons (v_isub d_Pf_follow_9) (.cons (v_istore d_Pf_follow_10) (.cons (v_iload (i := 4) d_Pf_follow_12) (.cons (v_iload_n (i := 3) d_Pf_follow_14 rfl) .nil)))))
theorem d_Pf_follow_15 : decode y_Pf_follow.2.1 15 = .ok (.if_icmp .ge (24), 3) := by decide +kernel
theorem d_Pf_follow_39 : decode y_Pf_follow.2.1 39 = .ok (.iconst 0, 1) := by decide +kernel
theorem s_Pf_follow_39 : aw_VS y_Pf_follow 39 [o_c (.int (0 : Int32))] 40 := .cons (v_iconst (v := (0 : Int32)) d_Pf_follow_39 (by decide +kernel)) .nil
theorem d_Pf_follow_40 : decode y_Pf_follow.2.1 40 = .ok (.ireturn, 1) := by decide +kernel
theorem d_Pf_follow_18 : decode y_Pf_follow.2.1 18 = .ok (.aload_n 0, 1) := by decide +kernel
theorem d_Pf_follow_19 : decode y_Pf_follow.2.1 19 = .ok (.getfield 11, 3) := by decide +kernel
theorem d_Pf_follow_22 : decode y_Pf_follow.2.1 22 = .ok (.iload_n 1, 1) := by decide +kernel
theorem s_Pf_follow_18 : aw_VS y_Pf_follow 18 [o_ald 0, o_getA 5 2, o_ild 1] 23 := .cons (v_aload_n (i := 0) d_Pf_follow_18 rfl) (.cons (v_getA (k := 2) k_Pf (by decide) rfl (Or.inl w_349) d_Pf_follow_19) (.cons (v_iload_n (i := 1) d_Pf_follow_22 rfl) .nil))
theorem d_Pf_follow_23 : decode y_Pf_follow.2.1 23 = .ok (.invokestatic 51, 3) := by decide +kernel
theorem b_Pf_follow_0 {X : aw_X} {d : Nat} {Q : Option Value → aw_H → Prop} {I : Nat → Nat → Int32} {L : Nat → Nat → Int64} {D : Nat → Nat} {v1 : Int32} {v2 : Int32} {v3 : Int32}
    (h1 : v2 < (100 : Int32) → aw_m X d y_Sz_rowBits [.ref 1] (aw_s I L D) (fun r A => aw_z X (d + 1) y_Pf_follow Q 49 [some (.ref 23), some (.int v1), some (.int v2), none, none] (r.toList ++ [.int v2]) A))
    (h2 : ¬ v2 < (100 : Int32) → v3 ≤ (v2 - (100 : Int32)) → Q (some (.int (0 : Int32))) (aw_s I L D))
    (h3 : ¬ v2 < (100 : Int32) → ¬ v3 ≤ (v2 - (100 : Int32)) → aw_m X d y_AW_valueAt_aII [.ref 24, .int v1] (aw_s I L D) (fun r A => aw_z X (d + 1) y_Pf_follow Q 26 [none, none, none, none, some (.int (v2 - (100 : Int32)))] (r.toList ++ []) A)) :
    aw_z X (d + 1) y_Pf_follow Q 0 [some (.ref 23), some (.int v1), some (.int v2), some (.int v3), none] [] (aw_s I L D) :=
  (s_Pf_follow_0.go [some (.ref 23), some (.int v1), some (.int v2), some (.int v3), none] [.int (100 : Int32), .int v2] (aw_s I L D) rfl (z_icmp_lt (tgt := 41) d_Pf_follow_3 rfl (fun q1 => (s_Pf_follow_41.go [some (.ref 23), some (.int v1), some (.int v2), some (.int v3), none] [.ref 1, .int v2] (aw_s I L D) rfl (z_callV (av := []) (st := [.int v2]) ok_Sz_rowBits (Or.inl w_1294) w_882 w_883 k_Sz d_Pf_follow_46 rfl (aw_lt (o := 1) rfl) rfl rfl (Nat.le_of_ble_eq_true rfl) (Nat.le_refl _) (Nat.le_refl _) (aw_C.mono (h1 q1) (fun _ _ zz => aw_Z.weak (ls' := [some (.ref 23), some (.int v1), some (.int v2), none, none]) zz (Nat.le_of_ble_eq_true rfl) ⟨Or.inr rfl, ⟨Or.inr rfl, ⟨Or.inr rfl, ⟨Or.inl rfl, ⟨Or.inl rfl, trivial⟩⟩⟩⟩⟩))))) (fun q2 => (s_Pf_follow_6.go [some (.ref 23), some (.int v1), some (.int v2), some (.int v3), some (.int (v2 - (100 : Int32)))] [.int v3, .int (v2 - (100 : Int32))] (aw_s I L D) rfl (z_icmp_ge (tgt := 39) d_Pf_follow_15 rfl (fun q3 => (s_Pf_follow_39.go [some (.ref 23), some (.int v1), some (.int v2), some (.int v3), some (.int (v2 - (100 : Int32)))] [.int (0 : Int32)] (aw_s I L D) rfl (z_iret d_Pf_follow_40 rfl (aw_nz (by decide +kernel)) (h2 q2 q3)))) (fun q4 => (s_Pf_follow_18.go [some (.ref 23), some (.int v1), some (.int v2), some (.int v3), some (.int (v2 - (100 : Int32)))] [.int v1, .ref 24] (aw_s I L D) rfl (z_callS (av := [.ref 24, .int v1]) (st := []) ok_AW_valueAt_aII (Or.inr ⟨"AllWays", w_1295⟩) w_927 d_Pf_follow_23 rfl rfl (Nat.le_of_ble_eq_true rfl) (Nat.le_refl _) (Nat.le_refl _) (aw_C.mono (h3 q2 q4) (fun _ _ zz => aw_Z.weak (ls' := [none, none, none, none, some (.int (v2 - (100 : Int32)))]) zz (Nat.le_of_ble_eq_true rfl) ⟨Or.inl rfl, ⟨Or.inl rfl, ⟨Or.inl rfl, ⟨Or.inl rfl, ⟨Or.inr rfl, trivial⟩⟩⟩⟩⟩))))))))))
theorem d_Pf_follow_49 : decode y_Pf_follow.2.1 49 = .ok (.if_icmp .ge (12), 3) := by decide +kernel
theorem d_Pf_follow_61 : decode y_Pf_follow.2.1 61 = .ok (.iconst 0, 1) := by decide +kernel
theorem s_Pf_follow_61 : aw_VS y_Pf_follow 61 [o_c (.int (0 : Int32))] 62 := .cons (v_iconst (v := (0 : Int32)) d_Pf_follow_61 (by decide +kernel)) .nil
theorem d_Pf_follow_62 : decode y_Pf_follow.2.1 62 = .ok (.ireturn, 1) := by decide +kernel
theorem d_Pf_follow_52 : decode y_Pf_follow.2.1 52 = .ok (.iload_n 1, 1) := by decide +kernel
theorem d_Pf_follow_53 : decode y_Pf_follow.2.1 53 = .ok (.iload_n 2, 1) := by decide +kernel
theorem s_Pf_follow_52 : aw_VS y_Pf_follow 52 [o_ild 1, o_ild 2] 54 := .cons (v_iload_n (i := 1) d_Pf_follow_52 rfl) (.cons (v_iload_n (i := 2) d_Pf_follow_53 rfl) .nil)
theorem d_Pf_follow_54 : decode y_Pf_follow.2.1 54 = .ok (.invokestatic 91, 3) := by decide +kernel
theorem b_Pf_follow_49 {X : aw_X} {d : Nat} {Q : Option Value → aw_H → Prop} {I : Nat → Nat → Int32} {L : Nat → Nat → Int64} {D : Nat → Nat} {v1 : Int32} {v2 : Int32} {s1 : Int32} {s0 : Int32}
    (h1 : s1 ≤ s0 → Q (some (.int (0 : Int32))) (aw_s I L D))
    (h2 : ¬ s1 ≤ s0 → aw_m X d y_Pf_digit [.int v1, .int v2] (aw_s I L D) (fun r A => aw_z X (d + 1) y_Pf_follow Q 57 [some (.ref 23), some (.int v1), some (.int v2), none, none] (r.toList ++ []) A)) :
    aw_z X (d + 1) y_Pf_follow Q 49 [some (.ref 23), some (.int v1), some (.int v2), none, none] [.int s1, .int s0] (aw_s I L D) :=
  (z_icmp_ge (tgt := 61) d_Pf_follow_49 rfl (fun q1 => (s_Pf_follow_61.go [some (.ref 23), some (.int v1), some (.int v2), none, none] [.int (0 : Int32)] (aw_s I L D) rfl (z_iret d_Pf_follow_62 rfl (aw_nz (by decide +kernel)) (h1 q1)))) (fun q2 => (s_Pf_follow_52.go [some (.ref 23), some (.int v1), some (.int v2), none, none] [.int v2, .int v1] (aw_s I L D) rfl (z_callS (av := [.int v1, .int v2]) (st := []) ok_Pf_digit (Or.inl w_1300) w_1301 d_Pf_follow_54 rfl rfl (Nat.le_of_ble_eq_true rfl) (Nat.le_refl _) (Nat.le_refl _) (h2 q2)))))
theorem d_Pf_follow_26 : decode y_Pf_follow.2.1 26 = .ok (.iload 4, 2) := by decide +kernel
theorem d_Pf_follow_28 : decode y_Pf_follow.2.1 28 = .ok (.iushr, 1) := by decide +kernel
theorem d_Pf_follow_29 : decode y_Pf_follow.2.1 29 = .ok (.iconst 1, 1) := by decide +kernel
theorem d_Pf_follow_30 : decode y_Pf_follow.2.1 30 = .ok (.iand, 1) := by decide +kernel
theorem d_Pf_follow_31 : decode y_Pf_follow.2.1 31 = .ok (.iconst 1, 1) := by decide +kernel
theorem s_Pf_follow_26 : aw_VS y_Pf_follow 26 [o_ild 4, o_i2 (fun x z => (x.toUInt32 >>> (z.toUInt32 &&& Int32.toUInt32 31)).toInt32), o_c (.int (1 : Int32)), o_i2 (fun x z => x &&& z), o_c (.int (1 : Int32))] 32 := .cons (v_iload (i := 4) d_Pf_follow_26) (.cons (v_iushr d_Pf_follow_28) (.cons (v_iconst (v := (1 : Int32)) d_Pf_follow_29 (by decide +kernel)) (.cons (v_iand d_Pf_follow_30) (.cons (v_iconst (v := (1 : Int32)) d_Pf_follow_31 (by decide +kernel)) .nil))))
theorem d_Pf_follow_32 : decode y_Pf_follow.2.1 32 = .ok (.if_icmp .ne (7), 3) := by decide +kernel
theorem d_Pf_follow_35 : decode y_Pf_follow.2.1 35 = .ok (.iconst 1, 1) := by decide +kernel
theorem s_Pf_follow_35 : aw_VS y_Pf_follow 35 [o_c (.int (1 : Int32))] 36 := .cons (v_iconst (v := (1 : Int32)) d_Pf_follow_35 (by decide +kernel)) .nil
theorem d_Pf_follow_36 : decode y_Pf_follow.2.1 36 = .ok (.goto (4), 3) := by decide +kernel
theorem b_Pf_follow_26 {X : aw_X} {d : Nat} {Q : Option Value → aw_H → Prop} {I : Nat → Nat → Int32} {L : Nat → Nat → Int64} {D : Nat → Nat} {v4 : Int32} {s0 : Int32}
    (h1 : ¬ (((s0.toUInt32 >>> (v4.toUInt32 &&& Int32.toUInt32 31)).toInt32) &&& (1 : Int32)) = (1 : Int32) → Q (some (.int (0 : Int32))) (aw_s I L D))
    (h2 : (((s0.toUInt32 >>> (v4.toUInt32 &&& Int32.toUInt32 31)).toInt32) &&& (1 : Int32)) = (1 : Int32) → Q (some (.int (1 : Int32))) (aw_s I L D)) :
    aw_z X (d + 1) y_Pf_follow Q 26 [none, none, none, none, some (.int v4)] [.int s0] (aw_s I L D) :=
  (s_Pf_follow_26.go [none, none, none, none, some (.int v4)] [.int (1 : Int32), .int (((s0.toUInt32 >>> (v4.toUInt32 &&& Int32.toUInt32 31)).toInt32) &&& (1 : Int32))] (aw_s I L D) rfl (z_icmp_ne (tgt := 39) d_Pf_follow_32 rfl (fun q1 => (s_Pf_follow_39.go [none, none, none, none, some (.int v4)] [.int (0 : Int32)] (aw_s I L D) rfl (z_iret d_Pf_follow_40 rfl (aw_nz (by decide +kernel)) (h1 q1)))) (fun q2 => (s_Pf_follow_35.go [none, none, none, none, some (.int v4)] [.int (1 : Int32)] (aw_s I L D) rfl (z_goto (tgt := 40) d_Pf_follow_36 rfl (z_iret d_Pf_follow_40 rfl (aw_nz (by decide +kernel)) (h2 q2)))))))
theorem d_Pf_follow_57 : decode y_Pf_follow.2.1 57 = .ok (.iconst 2, 1) := by decide +kernel
theorem s_Pf_follow_57 : aw_VS y_Pf_follow 57 [o_c (.int (2 : Int32))] 58 := .cons (v_iconst (v := (2 : Int32)) d_Pf_follow_57 (by decide +kernel)) .nil
theorem d_Pf_follow_58 : decode y_Pf_follow.2.1 58 = .ok (.if_icmp .eq (5), 3) := by decide +kernel
theorem d_Pf_follow_63 : decode y_Pf_follow.2.1 63 = .ok (.aload_n 0, 1) := by decide +kernel
theorem d_Pf_follow_64 : decode y_Pf_follow.2.1 64 = .ok (.iload_n 1, 1) := by decide +kernel
theorem d_Pf_follow_65 : decode y_Pf_follow.2.1 65 = .ok (.iload_n 2, 1) := by decide +kernel
theorem s_Pf_follow_63 : aw_VS y_Pf_follow 63 [o_ald 0, o_ild 1, o_ild 2] 66 := .cons (v_aload_n (i := 0) d_Pf_follow_63 rfl) (.cons (v_iload_n (i := 1) d_Pf_follow_64 rfl) (.cons (v_iload_n (i := 2) d_Pf_follow_65 rfl) .nil))
theorem d_Pf_follow_66 : decode y_Pf_follow.2.1 66 = .ok (.invokevirtual 95, 3) := by decide +kernel
theorem b_Pf_follow_57 {X : aw_X} {d : Nat} {Q : Option Value → aw_H → Prop} {I : Nat → Nat → Int32} {L : Nat → Nat → Int64} {D : Nat → Nat} {v1 : Int32} {v2 : Int32} {s0 : Int32}
    (h1 : s0 = (2 : Int32) → aw_m X d y_Pf_pushHalves [.ref 23, .int v1, .int v2] (aw_s I L D) (fun r A => aw_z X (d + 1) y_Pf_follow Q 69 [none, none, none, none, none] (r.toList ++ []) A))
    (h2 : ¬ s0 = (2 : Int32) → Q (some (.int (0 : Int32))) (aw_s I L D)) :
    aw_z X (d + 1) y_Pf_follow Q 57 [some (.ref 23), some (.int v1), some (.int v2), none, none] [.int s0] (aw_s I L D) :=
  (s_Pf_follow_57.go [some (.ref 23), some (.int v1), some (.int v2), none, none] [.int (2 : Int32), .int s0] (aw_s I L D) rfl (z_icmp_eq (tgt := 63) d_Pf_follow_58 rfl (fun q1 => (s_Pf_follow_63.go [some (.ref 23), some (.int v1), some (.int v2), none, none] [.int v2, .int v1, .ref 23] (aw_s I L D) rfl (z_callV (av := [.int v1, .int v2]) (st := []) ok_Pf_pushHalves (Or.inl w_1332) w_1334 w_66 k_Pf d_Pf_follow_66 rfl (aw_lt (o := 23) rfl) rfl rfl (Nat.le_of_ble_eq_true rfl) (Nat.le_refl _) (Nat.le_refl _) (aw_C.mono (h1 q1) (fun _ _ zz => aw_Z.weak (ls' := [none, none, none, none, none]) zz (Nat.le_of_ble_eq_true rfl) ⟨Or.inl rfl, ⟨Or.inl rfl, ⟨Or.inl rfl, ⟨Or.inl rfl, ⟨Or.inl rfl, trivial⟩⟩⟩⟩⟩))))) (fun q2 => (s_Pf_follow_61.go [some (.ref 23), some (.int v1), some (.int v2), none, none] [.int (0 : Int32)] (aw_s I L D) rfl (z_iret d_Pf_follow_62 rfl (aw_nz (by decide +kernel)) (h2 q2))))))
theorem d_Pf_follow_69 : decode y_Pf_follow.2.1 69 = .ok (.iconst 1, 1) := by decide +kernel
theorem s_Pf_follow_69 : aw_VS y_Pf_follow 69 [o_c (.int (1 : Int32))] 70 := .cons (v_iconst (v := (1 : Int32)) d_Pf_follow_69 (by decide +kernel)) .nil
theorem d_Pf_follow_70 : decode y_Pf_follow.2.1 70 = .ok (.ireturn, 1) := by decide +kernel
theorem b_Pf_follow_69 {X : aw_X} {d : Nat} {Q : Option Value → aw_H → Prop} {I : Nat → Nat → Int32} {L : Nat → Nat → Int64} {D : Nat → Nat} 
    (h1 : Q (some (.int (1 : Int32))) (aw_s I L D)) :
    aw_z X (d + 1) y_Pf_follow Q 69 [none, none, none, none, none] [] (aw_s I L D) :=
  (s_Pf_follow_69.go [none, none, none, none, none] [.int (1 : Int32)] (aw_s I L D) rfl (z_iret d_Pf_follow_70 rfl (aw_nz (by decide +kernel)) (h1)))
