/-! by gen_blk.py (genall.py) -/
/-! Tk_readAll -/
theorem d_Tk_readAll_0 : decode y_Tk_readAll.2.1 0 = .ok (.aload_n 0, 1) := by decide +kernel
theorem d_Tk_readAll_1 : decode y_Tk_readAll.2.1 1 = .ok (.iconst 0, 1) := by decide +kernel
theorem d_Tk_readAll_2 : decode y_Tk_readAll.2.1 2 = .ok (.putfield 25, 3) := by decide +kernel
theorem d_Tk_readAll_5 : decode y_Tk_readAll.2.1 5 = .ok (.aload_n 0, 1) := by decide +kernel
theorem d_Tk_readAll_6 : decode y_Tk_readAll.2.1 6 = .ok (.iconst 5, 1) := by decide +kernel
theorem d_Tk_readAll_7 : decode y_Tk_readAll.2.1 7 = .ok (.putfield 29, 3) := by decide +kernel
theorem d_Tk_readAll_10 : decode y_Tk_readAll.2.1 10 = .ok (.iconst 0, 1) := by decide +kernel
theorem d_Tk_readAll_11 : decode y_Tk_readAll.2.1 11 = .ok (.istore_n 1, 1) := by decide +kernel
theorem s_Tk_readAll_0 : aw_VS y_Tk_readAll 0 [o_ald 0, o_c (.int (0 : Int32)), o_putI 8 4, o_ald 0, o_c (.int (5 : Int32)), o_putI 8 6, o_c (.int (0 : Int32)), o_ist 1] 12 := .cons (v_aload_n (i := 0) d_Tk_readAll_0 rfl) (.cons (v_iconst (v := (0 : Int32)) d_Tk_readAll_1 (by decide +kernel)) (.cons (v_putI (k := 4) k_Tk (by decide) rfl (Or.inl ⟨rfl, Or.inl w_350⟩) d_Tk_readAll_2) (.cons (v_aload_n (i := 0) d_Tk_readAll_5 rfl) (.cons (v_iconst (v := (5 : Int32)) d_Tk_readAll_6 (by decide +kernel)) (.cons (v_putI (k := 6) k_Tk (by decide) rfl (Or.inl ⟨rfl, Or.inl w_352⟩) d_Tk_readAll_7) (.cons (v_iconst (v := (0 : Int32)) d_Tk_readAll_10 (by decide +kernel)) (.cons (v_istore_n d_Tk_readAll_11) .nil)))))))
theorem b_Tk_readAll_0 {X : aw_X} {d : Nat} {Q : Option Value → aw_H → Prop} {I : Nat → Nat → Int32} {L : Nat → Nat → Int64} {D : Nat → Nat} 
    (h1 : aw_z X (d + 1) y_Tk_readAll Q 12 [some (.ref 62), some (.int (0 : Int32))] [] (aw_s (aw_u (aw_u I 62 4 (0 : Int32)) 62 6 (5 : Int32)) L D)) :
    aw_z X (d + 1) y_Tk_readAll Q 0 [some (.ref 62), none] [] (aw_s I L D) :=
  (s_Tk_readAll_0.go [some (.ref 62), some (.int (0 : Int32))] [] (aw_s (aw_u (aw_u I 62 4 (0 : Int32)) 62 6 (5 : Int32)) L D) rfl (h1))
theorem d_Tk_readAll_12 : decode y_Tk_readAll.2.1 12 = .ok (.iload_n 1, 1) := by decide +kernel
theorem d_Tk_readAll_13 : decode y_Tk_readAll.2.1 13 = .ok (.sipush 501, 3) := by decide +kernel
theorem s_Tk_readAll_12 : aw_VS y_Tk_readAll 12 [o_ild 1, o_c (.int (501 : Int32))] 16 := .cons (v_iload_n (i := 1) d_Tk_readAll_12 rfl) (.cons (v_sipush (v := (501 : Int32)) d_Tk_readAll_13 (by decide +kernel)) .nil)
theorem d_Tk_readAll_16 : decode y_Tk_readAll.2.1 16 = .ok (.if_icmp .ge (58), 3) := by decide +kernel
theorem d_Tk_readAll_19 : decode y_Tk_readAll.2.1 19 = .ok (.aload_n 0, 1) := by decide +kernel
theorem d_Tk_readAll_20 : decode y_Tk_readAll.2.1 20 = .ok (.getfield 29, 3) := by decide +kernel
theorem s_Tk_readAll_19 : aw_VS y_Tk_readAll 19 [o_ald 0, o_getI 8 6] 23 := .cons (v_aload_n (i := 0) d_Tk_readAll_19 rfl) (.cons (v_getI (k := 6) k_Tk (by decide) (Or.inl rfl) (Or.inl w_352) d_Tk_readAll_20) .nil)
theorem d_Tk_readAll_23 : decode y_Tk_readAll.2.1 23 = .ok (.ifCond .eq (51), 3) := by decide +kernel
theorem d_Tk_readAll_26 : decode y_Tk_readAll.2.1 26 = .ok (.aload_n 0, 1) := by decide +kernel
theorem d_Tk_readAll_27 : decode y_Tk_readAll.2.1 27 = .ok (.getfield 29, 3) := by decide +kernel
theorem d_Tk_readAll_30 : decode y_Tk_readAll.2.1 30 = .ok (.iconst 1, 1) := by decide +kernel
theorem s_Tk_readAll_26 : aw_VS y_Tk_readAll 26 [o_ald 0, o_getI 8 6, o_c (.int (1 : Int32))] 31 := .cons (v_aload_n (i := 0) d_Tk_readAll_26 rfl) (.cons (v_getI (k := 6) k_Tk (by decide) (Or.inl rfl) (Or.inl w_352) d_Tk_readAll_27) (.cons (v_iconst (v := (1 : Int32)) d_Tk_readAll_30 (by decide +kernel)) .nil))
theorem d_Tk_readAll_31 : decode y_Tk_readAll.2.1 31 = .ok (.if_icmp .eq (43), 3) := by decide +kernel
theorem d_Tk_readAll_34 : decode y_Tk_readAll.2.1 34 = .ok (.aload_n 0, 1) := by decide +kernel
theorem s_Tk_readAll_34 : aw_VS y_Tk_readAll 34 [o_ald 0] 35 := .cons (v_aload_n (i := 0) d_Tk_readAll_34 rfl) .nil
theorem d_Tk_readAll_35 : decode y_Tk_readAll.2.1 35 = .ok (.invokevirtual 32, 3) := by decide +kernel
theorem b_Tk_readAll_12 {X : aw_X} {d : Nat} {Q : Option Value → aw_H → Prop} {I : Nat → Nat → Int32} {L : Nat → Nat → Int64} {D : Nat → Nat} {v1 : Int32}
    (h1 : (501 : Int32) ≤ v1 → aw_z X (d + 1) y_Tk_readAll Q 74 [some (.ref 62), none] [] (aw_s I L D))
    (h2 : ¬ (501 : Int32) ≤ v1 → (I 62 6) = 0 → aw_z X (d + 1) y_Tk_readAll Q 74 [some (.ref 62), none] [] (aw_s I L D))
    (h3 : ¬ (501 : Int32) ≤ v1 → ¬ (I 62 6) = 0 → (I 62 6) = (1 : Int32) → aw_z X (d + 1) y_Tk_readAll Q 74 [some (.ref 62), none] [] (aw_s I L D))
    (h4 : ¬ (501 : Int32) ≤ v1 → ¬ (I 62 6) = 0 → ¬ (I 62 6) = (1 : Int32) → aw_m X d y_Tk_readToken [.ref 62] (aw_s I L D) (fun r A => aw_z X (d + 1) y_Tk_readAll Q 38 [some (.ref 62), some (.int v1)] (r.toList ++ []) A)) :
    aw_z X (d + 1) y_Tk_readAll Q 12 [some (.ref 62), some (.int v1)] [] (aw_s I L D) :=
  (s_Tk_readAll_12.go [some (.ref 62), some (.int v1)] [.int (501 : Int32), .int v1] (aw_s I L D) rfl (z_icmp_ge (tgt := 74) d_Tk_readAll_16 rfl (fun q1 => (aw_Z.weak (ls' := [some (.ref 62), none]) (h1 q1) (Nat.le_of_ble_eq_true rfl) ⟨Or.inr rfl, ⟨Or.inl rfl, trivial⟩⟩)) (fun q2 => (s_Tk_readAll_19.go [some (.ref 62), some (.int v1)] [.int (I 62 6)] (aw_s I L D) rfl (z_if_eq (tgt := 74) d_Tk_readAll_23 rfl (fun q3 => (aw_Z.weak (ls' := [some (.ref 62), none]) (h2 q2 q3) (Nat.le_of_ble_eq_true rfl) ⟨Or.inr rfl, ⟨Or.inl rfl, trivial⟩⟩)) (fun q4 => (s_Tk_readAll_26.go [some (.ref 62), some (.int v1)] [.int (1 : Int32), .int (I 62 6)] (aw_s I L D) rfl (z_icmp_eq (tgt := 74) d_Tk_readAll_31 rfl (fun q5 => (aw_Z.weak (ls' := [some (.ref 62), none]) (h3 q2 q4 q5) (Nat.le_of_ble_eq_true rfl) ⟨Or.inr rfl, ⟨Or.inl rfl, trivial⟩⟩)) (fun q6 => (s_Tk_readAll_34.go [some (.ref 62), some (.int v1)] [.ref 62] (aw_s I L D) rfl (z_callV (av := []) (st := []) ok_Tk_readToken (Or.inl w_472) w_474 w_1 k_Tk d_Tk_readAll_35 rfl (aw_lt (o := 62) rfl) rfl rfl (Nat.le_of_ble_eq_true rfl) (Nat.le_refl _) (Nat.le_refl _) (h4 q2 q4 q6))))))))))))
theorem d_Tk_readAll_74 : decode y_Tk_readAll.2.1 74 = .ok (.aload_n 0, 1) := by decide +kernel
theorem d_Tk_readAll_75 : decode y_Tk_readAll.2.1 75 = .ok (.iconst (-1), 1) := by decide +kernel
theorem d_Tk_readAll_76 : decode y_Tk_readAll.2.1 76 = .ok (.putfield 41, 3) := by decide +kernel
theorem d_Tk_readAll_79 : decode y_Tk_readAll.2.1 79 = .ok (.aload_n 0, 1) := by decide +kernel
theorem s_Tk_readAll_74 : aw_VS y_Tk_readAll 74 [o_ald 0, o_c (.int (-1 : Int32)), o_putI 8 5, o_ald 0] 80 := .cons (v_aload_n (i := 0) d_Tk_readAll_74 rfl) (.cons (v_iconst (v := (-1 : Int32)) d_Tk_readAll_75 (by decide +kernel)) (.cons (v_putI (k := 5) k_Tk (by decide) rfl (Or.inl ⟨rfl, Or.inl w_351⟩) d_Tk_readAll_76) (.cons (v_aload_n (i := 0) d_Tk_readAll_79 rfl) .nil)))
theorem d_Tk_readAll_80 : decode y_Tk_readAll.2.1 80 = .ok (.invokevirtual 44, 3) := by decide +kernel
theorem b_Tk_readAll_74 {X : aw_X} {d : Nat} {Q : Option Value → aw_H → Prop} {I : Nat → Nat → Int32} {L : Nat → Nat → Int64} {D : Nat → Nat} 
    (h1 : aw_m X d y_Tk_advance [.ref 62] (aw_s (aw_u I 62 5 (-1 : Int32)) L D) (fun r A => aw_z X (d + 1) y_Tk_readAll Q 83 [none, none] (r.toList ++ []) A)) :
    aw_z X (d + 1) y_Tk_readAll Q 74 [some (.ref 62), none] [] (aw_s I L D) :=
  (s_Tk_readAll_74.go [some (.ref 62), none] [.ref 62] (aw_s (aw_u I 62 5 (-1 : Int32)) L D) rfl (z_callV (av := []) (st := []) ok_Tk_advance (Or.inl w_629) w_630 w_631 k_Tk d_Tk_readAll_80 rfl (aw_lt (o := 62) rfl) rfl rfl (Nat.le_of_ble_eq_true rfl) (Nat.le_refl _) (Nat.le_refl _) (aw_C.mono (h1) (fun _ _ zz => aw_Z.weak (ls' := [none, none]) zz (Nat.le_of_ble_eq_true rfl) ⟨Or.inl rfl, ⟨Or.inl rfl, trivial⟩⟩))))
theorem d_Tk_readAll_38 : decode y_Tk_readAll.2.1 38 = .ok (.aload_n 0, 1) := by decide +kernel
theorem d_Tk_readAll_39 : decode y_Tk_readAll.2.1 39 = .ok (.getfield 9, 3) := by decide +kernel
theorem d_Tk_readAll_42 : decode y_Tk_readAll.2.1 42 = .ok (.iload_n 1, 1) := by decide +kernel
theorem d_Tk_readAll_43 : decode y_Tk_readAll.2.1 43 = .ok (.aload_n 0, 1) := by decide +kernel
theorem d_Tk_readAll_44 : decode y_Tk_readAll.2.1 44 = .ok (.getfield 29, 3) := by decide +kernel
theorem s_Tk_readAll_38 : aw_VS y_Tk_readAll 38 [o_ald 0, o_getA 8 1, o_ild 1, o_ald 0, o_getI 8 6] 47 := .cons (v_aload_n (i := 0) d_Tk_readAll_38 rfl) (.cons (v_getA (k := 1) k_Tk (by decide) rfl (Or.inl w_347) d_Tk_readAll_39) (.cons (v_iload_n (i := 1) d_Tk_readAll_42 rfl) (.cons (v_aload_n (i := 0) d_Tk_readAll_43 rfl) (.cons (v_getI (k := 6) k_Tk (by decide) (Or.inl rfl) (Or.inl w_352) d_Tk_readAll_44) .nil))))
theorem d_Tk_readAll_47 : decode y_Tk_readAll.2.1 47 = .ok (.iastore, 1) := by decide +kernel
theorem d_Tk_readAll_48 : decode y_Tk_readAll.2.1 48 = .ok (.aload_n 0, 1) := by decide +kernel
theorem d_Tk_readAll_49 : decode y_Tk_readAll.2.1 49 = .ok (.getfield 15, 3) := by decide +kernel
theorem d_Tk_readAll_52 : decode y_Tk_readAll.2.1 52 = .ok (.iload_n 1, 1) := by decide +kernel
theorem d_Tk_readAll_53 : decode y_Tk_readAll.2.1 53 = .ok (.aload_n 0, 1) := by decide +kernel
theorem d_Tk_readAll_54 : decode y_Tk_readAll.2.1 54 = .ok (.getfield 35, 3) := by decide +kernel
theorem s_Tk_readAll_48 : aw_VS y_Tk_readAll 48 [o_ald 0, o_getA 8 2, o_ild 1, o_ald 0, o_getI 8 7] 57 := .cons (v_aload_n (i := 0) d_Tk_readAll_48 rfl) (.cons (v_getA (k := 2) k_Tk (by decide) rfl (Or.inl w_348) d_Tk_readAll_49) (.cons (v_iload_n (i := 1) d_Tk_readAll_52 rfl) (.cons (v_aload_n (i := 0) d_Tk_readAll_53 rfl) (.cons (v_getI (k := 7) k_Tk (by decide) (Or.inl rfl) (Or.inl w_354) d_Tk_readAll_54) .nil))))
theorem d_Tk_readAll_57 : decode y_Tk_readAll.2.1 57 = .ok (.iastore, 1) := by decide +kernel
theorem d_Tk_readAll_58 : decode y_Tk_readAll.2.1 58 = .ok (.aload_n 0, 1) := by decide +kernel
theorem d_Tk_readAll_59 : decode y_Tk_readAll.2.1 59 = .ok (.getfield 18, 3) := by decide +kernel
theorem d_Tk_readAll_62 : decode y_Tk_readAll.2.1 62 = .ok (.iload_n 1, 1) := by decide +kernel
theorem d_Tk_readAll_63 : decode y_Tk_readAll.2.1 63 = .ok (.aload_n 0, 1) := by decide +kernel
theorem d_Tk_readAll_64 : decode y_Tk_readAll.2.1 64 = .ok (.getfield 38, 3) := by decide +kernel
theorem s_Tk_readAll_58 : aw_VS y_Tk_readAll 58 [o_ald 0, o_getA 8 3, o_ild 1, o_ald 0, o_getI 8 8] 67 := .cons (v_aload_n (i := 0) d_Tk_readAll_58 rfl) (.cons (v_getA (k := 3) k_Tk (by decide) rfl (Or.inl w_349) d_Tk_readAll_59) (.cons (v_iload_n (i := 1) d_Tk_readAll_62 rfl) (.cons (v_aload_n (i := 0) d_Tk_readAll_63 rfl) (.cons (v_getI (k := 8) k_Tk (by decide) (Or.inl rfl) (Or.inl w_356) d_Tk_readAll_64) .nil))))
theorem d_Tk_readAll_67 : decode y_Tk_readAll.2.1 67 = .ok (.iastore, 1) := by decide +kernel
theorem d_Tk_readAll_68 : decode y_Tk_readAll.2.1 68 = .ok (.iinc 1 (1), 3) := by decide +kernel
theorem s_Tk_readAll_68 : aw_VS y_Tk_readAll 68 [o_inc 1 (1 : Int32)] 71 := .cons (v_iinc (k0 := (1 : Int32)) d_Tk_readAll_68 (by decide +kernel)) .nil
theorem d_Tk_readAll_71 : decode y_Tk_readAll.2.1 71 = .ok (.goto (-59), 3) := by decide +kernel
theorem b_Tk_readAll_38 {X : aw_X} {d : Nat} {Q : Option Value → aw_H → Prop} {I : Nat → Nat → Int32} {L : Nat → Nat → Int64} {D : Nat → Nat} {v1 : Int32}
    (h1 : vp_in v1 501)
    (h2 : vp_in v1 501)
    (h3 : vp_in v1 501)
    (h4 : aw_z X (d + 1) y_Tk_readAll Q 12 [some (.ref 62), some (.int (v1 + (1 : Int32)))] [] (aw_s (aw_u (aw_u (aw_u I 63 v1.toNatClampNeg (I 62 6)) 64 v1.toNatClampNeg (I 62 7)) 65 v1.toNatClampNeg (I 62 8)) L D)) :
    aw_z X (d + 1) y_Tk_readAll Q 38 [some (.ref 62), some (.int v1)] [] (aw_s I L D) :=
  (s_Tk_readAll_38.go [some (.ref 62), some (.int v1)] [.int (I 62 6), .int v1, .ref 63] (aw_s I L D) rfl (z_iast (n := 501) rfl (aw_lt (o := 63) rfl) (h1) d_Tk_readAll_47 (s_Tk_readAll_48.go [some (.ref 62), some (.int v1)] [.int (I 62 7), .int v1, .ref 64] (aw_s (aw_u I 63 v1.toNatClampNeg (I 62 6)) L D) rfl (z_iast (n := 501) rfl (aw_lt (o := 64) rfl) (h2) d_Tk_readAll_57 (s_Tk_readAll_58.go [some (.ref 62), some (.int v1)] [.int (I 62 8), .int v1, .ref 65] (aw_s (aw_u (aw_u I 63 v1.toNatClampNeg (I 62 6)) 64 v1.toNatClampNeg (I 62 7)) L D) rfl (z_iast (n := 501) rfl (aw_lt (o := 65) rfl) (h3) d_Tk_readAll_67 (s_Tk_readAll_68.go [some (.ref 62), some (.int (v1 + (1 : Int32)))] [] (aw_s (aw_u (aw_u (aw_u I 63 v1.toNatClampNeg (I 62 6)) 64 v1.toNatClampNeg (I 62 7)) 65 v1.toNatClampNeg (I 62 8)) L D) rfl (z_goto (tgt := 12) d_Tk_readAll_71 rfl (h4)))))))))
theorem d_Tk_readAll_83 : decode y_Tk_readAll.2.1 83 = .ok (.return_, 1) := by decide +kernel
theorem b_Tk_readAll_83 {X : aw_X} {d : Nat} {Q : Option Value → aw_H → Prop} {I : Nat → Nat → Int32} {L : Nat → Nat → Int64} {D : Nat → Nat} 
    (h1 : Q none (aw_s I L D)) :
    aw_z X (d + 1) y_Tk_readAll Q 83 [none, none] [] (aw_s I L D) :=
  (z_vret d_Tk_readAll_83 rfl (h1))
/-! Tk_readToken -/
theorem d_Tk_readToken_0 : decode y_Tk_readToken.2.1 0 = .ok (.aload_n 0, 1) := by decide +kernel
theorem s_Tk_readToken_0 : aw_VS y_Tk_readToken 0 [o_ald 0] 1 := .cons (v_aload_n (i := 0) d_Tk_readToken_0 rfl) .nil
theorem d_Tk_readToken_1 : decode y_Tk_readToken.2.1 1 = .ok (.invokevirtual 47, 3) := by decide +kernel
theorem b_Tk_readToken_0 {X : aw_X} {d : Nat} {Q : Option Value → aw_H → Prop} {I : Nat → Nat → Int32} {L : Nat → Nat → Int64} {D : Nat → Nat} 
    (h1 : aw_m X d y_Tk_skipBlanks [.ref 62] (aw_s I L D) (fun r A => aw_z X (d + 1) y_Tk_readToken Q 4 [some (.ref 62)] (r.toList ++ []) A)) :
    aw_z X (d + 1) y_Tk_readToken Q 0 [some (.ref 62)] [] (aw_s I L D) :=
  (s_Tk_readToken_0.go [some (.ref 62)] [.ref 62] (aw_s I L D) rfl (z_callV (av := []) (st := []) ok_Tk_skipBlanks (Or.inl w_476) w_478 w_2 k_Tk d_Tk_readToken_1 rfl (aw_lt (o := 62) rfl) rfl rfl (Nat.le_of_ble_eq_true rfl) (Nat.le_refl _) (Nat.le_refl _) (h1)))
theorem d_Tk_readToken_4 : decode y_Tk_readToken.2.1 4 = .ok (.aload_n 0, 1) := by decide +kernel
theorem d_Tk_readToken_5 : decode y_Tk_readToken.2.1 5 = .ok (.aload_n 0, 1) := by decide +kernel
theorem d_Tk_readToken_6 : decode y_Tk_readToken.2.1 6 = .ok (.getfield 25, 3) := by decide +kernel
theorem d_Tk_readToken_9 : decode y_Tk_readToken.2.1 9 = .ok (.putfield 35, 3) := by decide +kernel
theorem d_Tk_readToken_12 : decode y_Tk_readToken.2.1 12 = .ok (.aload_n 0, 1) := by decide +kernel
theorem d_Tk_readToken_13 : decode y_Tk_readToken.2.1 13 = .ok (.iconst 0, 1) := by decide +kernel
theorem d_Tk_readToken_14 : decode y_Tk_readToken.2.1 14 = .ok (.putfield 38, 3) := by decide +kernel
theorem d_Tk_readToken_17 : decode y_Tk_readToken.2.1 17 = .ok (.aload_n 0, 1) := by decide +kernel
theorem d_Tk_readToken_18 : decode y_Tk_readToken.2.1 18 = .ok (.getfield 25, 3) := by decide +kernel
theorem d_Tk_readToken_21 : decode y_Tk_readToken.2.1 21 = .ok (.sipush 500, 3) := by decide +kernel
theorem s_Tk_readToken_4 : aw_VS y_Tk_readToken 4 [o_ald 0, o_ald 0, o_getI 8 4, o_putI 8 7, o_ald 0, o_c (.int (0 : Int32)), o_putI 8 8, o_ald 0, o_getI 8 4, o_c (.int (500 : Int32))] 24 := .cons (v_aload_n (i := 0) d_Tk_readToken_4 rfl) (.cons (v_aload_n (i := 0) d_Tk_readToken_5 rfl) (.cons (v_getI (k := 4) k_Tk (by decide) (Or.inl rfl) (Or.inl w_350) d_Tk_readToken_6) (.cons (v_putI (k := 7) k_Tk (by decide) rfl (Or.inl ⟨rfl, Or.inl w_354⟩) d_Tk_readToken_9) (.cons (v_aload_n (i := 0) d_Tk_readToken_12 rfl) (.cons (v_iconst (v := (0 : Int32)) d_Tk_readToken_13 (by decide +kernel)) (.cons (v_putI (k := 8) k_Tk (by decide) rfl (Or.inl ⟨rfl, Or.inl w_356⟩) d_Tk_readToken_14) (.cons (v_aload_n (i := 0) d_Tk_readToken_17 rfl) (.cons (v_getI (k := 4) k_Tk (by decide) (Or.inl rfl) (Or.inl w_350) d_Tk_readToken_18) (.cons (v_sipush (v := (500 : Int32)) d_Tk_readToken_21 (by decide +kernel)) .nil)))))))))
theorem d_Tk_readToken_24 : decode y_Tk_readToken.2.1 24 = .ok (.if_icmp .lt (31), 3) := by decide +kernel
theorem d_Tk_readToken_27 : decode y_Tk_readToken.2.1 27 = .ok (.aload_n 0, 1) := by decide +kernel
theorem d_Tk_readToken_28 : decode y_Tk_readToken.2.1 28 = .ok (.getfield 21, 3) := by decide +kernel
theorem d_Tk_readToken_31 : decode y_Tk_readToken.2.1 31 = .ok (.getfield 50, 3) := by decide +kernel
theorem d_Tk_readToken_34 : decode y_Tk_readToken.2.1 34 = .ok (.sipush 500, 3) := by decide +kernel
theorem s_Tk_readToken_27 : aw_VS y_Tk_readToken 27 [o_ald 0, o_getA 8 0, o_getI 2 1, o_c (.int (500 : Int32))] 37 := .cons (v_aload_n (i := 0) d_Tk_readToken_27 rfl) (.cons (v_getA (k := 0) k_Tk (by decide) rfl (Or.inl w_346) d_Tk_readToken_28) (.cons (v_getI (k := 1) k_Tp (by decide) (Or.inl rfl) (Or.inr ⟨"AllWays", w_108⟩) d_Tk_readToken_31) (.cons (v_sipush (v := (500 : Int32)) d_Tk_readToken_34 (by decide +kernel)) .nil)))
theorem d_Tk_readToken_37 : decode y_Tk_readToken.2.1 37 = .ok (.if_icmp .le (18), 3) := by decide +kernel
theorem d_Tk_readToken_40 : decode y_Tk_readToken.2.1 40 = .ok (.aload_n 0, 1) := by decide +kernel
theorem d_Tk_readToken_41 : decode y_Tk_readToken.2.1 41 = .ok (.sipush 500, 3) := by decide +kernel
theorem d_Tk_readToken_44 : decode y_Tk_readToken.2.1 44 = .ok (.putfield 35, 3) := by decide +kernel
theorem d_Tk_readToken_47 : decode y_Tk_readToken.2.1 47 = .ok (.aload_n 0, 1) := by decide +kernel
theorem d_Tk_readToken_48 : decode y_Tk_readToken.2.1 48 = .ok (.iconst 0, 1) := by decide +kernel
theorem d_Tk_readToken_49 : decode y_Tk_readToken.2.1 49 = .ok (.putfield 29, 3) := by decide +kernel
theorem s_Tk_readToken_40 : aw_VS y_Tk_readToken 40 [o_ald 0, o_c (.int (500 : Int32)), o_putI 8 7, o_ald 0, o_c (.int (0 : Int32)), o_putI 8 6] 52 := .cons (v_aload_n (i := 0) d_Tk_readToken_40 rfl) (.cons (v_sipush (v := (500 : Int32)) d_Tk_readToken_41 (by decide +kernel)) (.cons (v_putI (k := 7) k_Tk (by decide) rfl (Or.inl ⟨rfl, Or.inl w_354⟩) d_Tk_readToken_44) (.cons (v_aload_n (i := 0) d_Tk_readToken_47 rfl) (.cons (v_iconst (v := (0 : Int32)) d_Tk_readToken_48 (by decide +kernel)) (.cons (v_putI (k := 6) k_Tk (by decide) rfl (Or.inl ⟨rfl, Or.inl w_352⟩) d_Tk_readToken_49) .nil)))))
theorem d_Tk_readToken_52 : decode y_Tk_readToken.2.1 52 = .ok (.goto (53), 3) := by decide +kernel
theorem b_Tk_readToken_4 {X : aw_X} {d : Nat} {Q : Option Value → aw_H → Prop} {I : Nat → Nat → Int32} {L : Nat → Nat → Int64} {D : Nat → Nat} 
    (h1 : (I 62 4) < (500 : Int32) → aw_z X (d + 1) y_Tk_readToken Q 55 [some (.ref 62)] [] (aw_s (aw_u (aw_u I 62 7 (I 62 4)) 62 8 (0 : Int32)) L D))
    (h2 : ¬ (I 62 4) < (500 : Int32) → (I 2 1) ≤ (500 : Int32) → aw_z X (d + 1) y_Tk_readToken Q 55 [some (.ref 62)] [] (aw_s (aw_u (aw_u I 62 7 (I 62 4)) 62 8 (0 : Int32)) L D))
    (h3 : ¬ (I 62 4) < (500 : Int32) → ¬ (I 2 1) ≤ (500 : Int32) → aw_z X (d + 1) y_Tk_readToken Q 105 [none] [] (aw_s (aw_u (aw_u (aw_u (aw_u I 62 7 (I 62 4)) 62 8 (0 : Int32)) 62 7 (500 : Int32)) 62 6 (0 : Int32)) L D)) :
    aw_z X (d + 1) y_Tk_readToken Q 4 [some (.ref 62)] [] (aw_s I L D) :=
  (s_Tk_readToken_4.go [some (.ref 62)] [.int (500 : Int32), .int (I 62 4)] (aw_s (aw_u (aw_u I 62 7 (I 62 4)) 62 8 (0 : Int32)) L D) rfl (z_icmp_lt (tgt := 55) d_Tk_readToken_24 rfl (fun q1 => (h1 q1)) (fun q2 => (s_Tk_readToken_27.go [some (.ref 62)] [.int (500 : Int32), .int (I 2 1)] (aw_s (aw_u (aw_u I 62 7 (I 62 4)) 62 8 (0 : Int32)) L D) rfl (z_icmp_le (tgt := 55) d_Tk_readToken_37 rfl (fun q3 => (h2 q2 q3)) (fun q4 => (s_Tk_readToken_40.go [some (.ref 62)] [] (aw_s (aw_u (aw_u (aw_u (aw_u I 62 7 (I 62 4)) 62 8 (0 : Int32)) 62 7 (500 : Int32)) 62 6 (0 : Int32)) L D) rfl (z_goto (tgt := 105) d_Tk_readToken_52 rfl (aw_Z.weak (ls' := [none]) (h3 q2 q4) (Nat.le_of_ble_eq_true rfl) ⟨Or.inl rfl, trivial⟩)))))))))
theorem d_Tk_readToken_55 : decode y_Tk_readToken.2.1 55 = .ok (.aload_n 0, 1) := by decide +kernel
theorem d_Tk_readToken_56 : decode y_Tk_readToken.2.1 56 = .ok (.getfield 25, 3) := by decide +kernel
theorem d_Tk_readToken_59 : decode y_Tk_readToken.2.1 59 = .ok (.aload_n 0, 1) := by decide +kernel
theorem d_Tk_readToken_60 : decode y_Tk_readToken.2.1 60 = .ok (.getfield 21, 3) := by decide +kernel
theorem d_Tk_readToken_63 : decode y_Tk_readToken.2.1 63 = .ok (.getfield 50, 3) := by decide +kernel
theorem s_Tk_readToken_55 : aw_VS y_Tk_readToken 55 [o_ald 0, o_getI 8 4, o_ald 0, o_getA 8 0, o_getI 2 1] 66 := .cons (v_aload_n (i := 0) d_Tk_readToken_55 rfl) (.cons (v_getI (k := 4) k_Tk (by decide) (Or.inl rfl) (Or.inl w_350) d_Tk_readToken_56) (.cons (v_aload_n (i := 0) d_Tk_readToken_59 rfl) (.cons (v_getA (k := 0) k_Tk (by decide) rfl (Or.inl w_346) d_Tk_readToken_60) (.cons (v_getI (k := 1) k_Tp (by decide) (Or.inl rfl) (Or.inr ⟨"AllWays", w_108⟩) d_Tk_readToken_63) .nil))))
theorem d_Tk_readToken_66 : decode y_Tk_readToken.2.1 66 = .ok (.if_icmp .lt (11), 3) := by decide +kernel
theorem d_Tk_readToken_77 : decode y_Tk_readToken.2.1 77 = .ok (.aload_n 0, 1) := by decide +kernel
theorem d_Tk_readToken_78 : decode y_Tk_readToken.2.1 78 = .ok (.getfield 21, 3) := by decide +kernel
theorem d_Tk_readToken_81 : decode y_Tk_readToken.2.1 81 = .ok (.aload_n 0, 1) := by decide +kernel
theorem d_Tk_readToken_82 : decode y_Tk_readToken.2.1 82 = .ok (.getfield 25, 3) := by decide +kernel
theorem s_Tk_readToken_77 : aw_VS y_Tk_readToken 77 [o_ald 0, o_getA 8 0, o_ald 0, o_getI 8 4] 85 := .cons (v_aload_n (i := 0) d_Tk_readToken_77 rfl) (.cons (v_getA (k := 0) k_Tk (by decide) rfl (Or.inl w_346) d_Tk_readToken_78) (.cons (v_aload_n (i := 0) d_Tk_readToken_81 rfl) (.cons (v_getI (k := 4) k_Tk (by decide) (Or.inl rfl) (Or.inl w_350) d_Tk_readToken_82) .nil)))
theorem d_Tk_readToken_85 : decode y_Tk_readToken.2.1 85 = .ok (.invokevirtual 55, 3) := by decide +kernel
theorem d_Tk_readToken_69 : decode y_Tk_readToken.2.1 69 = .ok (.aload_n 0, 1) := by decide +kernel
theorem d_Tk_readToken_70 : decode y_Tk_readToken.2.1 70 = .ok (.iconst 1, 1) := by decide +kernel
theorem d_Tk_readToken_71 : decode y_Tk_readToken.2.1 71 = .ok (.putfield 29, 3) := by decide +kernel
theorem s_Tk_readToken_69 : aw_VS y_Tk_readToken 69 [o_ald 0, o_c (.int (1 : Int32)), o_putI 8 6] 74 := .cons (v_aload_n (i := 0) d_Tk_readToken_69 rfl) (.cons (v_iconst (v := (1 : Int32)) d_Tk_readToken_70 (by decide +kernel)) (.cons (v_putI (k := 6) k_Tk (by decide) rfl (Or.inl ⟨rfl, Or.inl w_352⟩) d_Tk_readToken_71) .nil))
theorem d_Tk_readToken_74 : decode y_Tk_readToken.2.1 74 = .ok (.goto (31), 3) := by decide +kernel
theorem b_Tk_readToken_55 {X : aw_X} {d : Nat} {Q : Option Value → aw_H → Prop} {I : Nat → Nat → Int32} {L : Nat → Nat → Int64} {D : Nat → Nat} 
    (h1 : (I 62 4) < (I 2 1) → aw_m X d y_Tp_byteAt [.ref 2, .int (I 62 4)] (aw_s I L D) (fun r A => aw_z X (d + 1) y_Tk_readToken Q 88 [some (.ref 62)] (r.toList ++ []) A))
    (h2 : ¬ (I 62 4) < (I 2 1) → aw_z X (d + 1) y_Tk_readToken Q 105 [none] [] (aw_s (aw_u I 62 6 (1 : Int32)) L D)) :
    aw_z X (d + 1) y_Tk_readToken Q 55 [some (.ref 62)] [] (aw_s I L D) :=
  (s_Tk_readToken_55.go [some (.ref 62)] [.int (I 2 1), .int (I 62 4)] (aw_s I L D) rfl (z_icmp_lt (tgt := 77) d_Tk_readToken_66 rfl (fun q1 => (s_Tk_readToken_77.go [some (.ref 62)] [.int (I 62 4), .ref 2] (aw_s I L D) rfl (z_callV (av := [.int (I 62 4)]) (st := []) ok_Tp_byteAt (Or.inl w_480) w_481 w_482 k_Tp d_Tk_readToken_85 rfl (aw_lt (o := 2) rfl) rfl rfl (Nat.le_of_ble_eq_true rfl) (Nat.le_refl _) (Nat.le_refl _) (h1 q1)))) (fun q2 => (s_Tk_readToken_69.go [some (.ref 62)] [] (aw_s (aw_u I 62 6 (1 : Int32)) L D) rfl (z_goto (tgt := 105) d_Tk_readToken_74 rfl (aw_Z.weak (ls' := [none]) (h2 q2) (Nat.le_of_ble_eq_true rfl) ⟨Or.inl rfl, trivial⟩))))))
theorem d_Tk_readToken_105 : decode y_Tk_readToken.2.1 105 = .ok (.return_, 1) := by decide +kernel
theorem b_Tk_readToken_105 {X : aw_X} {d : Nat} {Q : Option Value → aw_H → Prop} {I : Nat → Nat → Int32} {L : Nat → Nat → Int64} {D : Nat → Nat} 
    (h1 : Q none (aw_s I L D)) :
    aw_z X (d + 1) y_Tk_readToken Q 105 [none] [] (aw_s I L D) :=
  (z_vret d_Tk_readToken_105 rfl (h1))
theorem d_Tk_readToken_88 : decode y_Tk_readToken.2.1 88 = .ok (.invokestatic 59, 3) := by decide +kernel
theorem b_Tk_readToken_88 {X : aw_X} {d : Nat} {Q : Option Value → aw_H → Prop} {I : Nat → Nat → Int32} {L : Nat → Nat → Int64} {D : Nat → Nat} {s0 : Int32}
    (h1 : aw_m X d y_Tk_isOfWord [.int s0] (aw_s I L D) (fun r A => aw_z X (d + 1) y_Tk_readToken Q 91 [some (.ref 62)] (r.toList ++ []) A)) :
    aw_z X (d + 1) y_Tk_readToken Q 88 [some (.ref 62)] [.int s0] (aw_s I L D) :=
  (z_callS (av := [.int s0]) (st := []) ok_Tk_isOfWord (Or.inl w_487) w_488 d_Tk_readToken_88 rfl rfl (Nat.le_of_ble_eq_true rfl) (Nat.le_refl _) (Nat.le_refl _) (h1))
theorem d_Tk_readToken_91 : decode y_Tk_readToken.2.1 91 = .ok (.ifCond .eq (10), 3) := by decide +kernel
theorem d_Tk_readToken_101 : decode y_Tk_readToken.2.1 101 = .ok (.aload_n 0, 1) := by decide +kernel
theorem s_Tk_readToken_101 : aw_VS y_Tk_readToken 101 [o_ald 0] 102 := .cons (v_aload_n (i := 0) d_Tk_readToken_101 rfl) .nil
theorem d_Tk_readToken_102 : decode y_Tk_readToken.2.1 102 = .ok (.invokevirtual 66, 3) := by decide +kernel
theorem d_Tk_readToken_94 : decode y_Tk_readToken.2.1 94 = .ok (.aload_n 0, 1) := by decide +kernel
theorem s_Tk_readToken_94 : aw_VS y_Tk_readToken 94 [o_ald 0] 95 := .cons (v_aload_n (i := 0) d_Tk_readToken_94 rfl) .nil
theorem d_Tk_readToken_95 : decode y_Tk_readToken.2.1 95 = .ok (.invokevirtual 63, 3) := by decide +kernel
theorem b_Tk_readToken_91 {X : aw_X} {d : Nat} {Q : Option Value → aw_H → Prop} {I : Nat → Nat → Int32} {L : Nat → Nat → Int64} {D : Nat → Nat} {s0 : Int32}
    (h1 : s0 = 0 → aw_m X d y_Tk_readSign [.ref 62] (aw_s I L D) (fun r A => aw_z X (d + 1) y_Tk_readToken Q 105 [none] (r.toList ++ []) A))
    (h2 : ¬ s0 = 0 → aw_m X d y_Tk_readWord [.ref 62] (aw_s I L D) (fun r A => aw_z X (d + 1) y_Tk_readToken Q 98 [none] (r.toList ++ []) A)) :
    aw_z X (d + 1) y_Tk_readToken Q 91 [some (.ref 62)] [.int s0] (aw_s I L D) :=
  (z_if_eq (tgt := 101) d_Tk_readToken_91 rfl (fun q1 => (s_Tk_readToken_101.go [some (.ref 62)] [.ref 62] (aw_s I L D) rfl (z_callV (av := []) (st := []) ok_Tk_readSign (Or.inl w_565) w_567 w_8 k_Tk d_Tk_readToken_102 rfl (aw_lt (o := 62) rfl) rfl rfl (Nat.le_of_ble_eq_true rfl) (Nat.le_refl _) (Nat.le_refl _) (aw_C.mono (h1 q1) (fun _ _ zz => aw_Z.weak (ls' := [none]) zz (Nat.le_of_ble_eq_true rfl) ⟨Or.inl rfl, trivial⟩))))) (fun q2 => (s_Tk_readToken_94.go [some (.ref 62)] [.ref 62] (aw_s I L D) rfl (z_callV (av := []) (st := []) ok_Tk_readWord (Or.inl w_496) w_498 w_3 k_Tk d_Tk_readToken_95 rfl (aw_lt (o := 62) rfl) rfl rfl (Nat.le_of_ble_eq_true rfl) (Nat.le_refl _) (Nat.le_refl _) (aw_C.mono (h2 q2) (fun _ _ zz => aw_Z.weak (ls' := [none]) zz (Nat.le_of_ble_eq_true rfl) ⟨Or.inl rfl, trivial⟩))))))
theorem d_Tk_readToken_98 : decode y_Tk_readToken.2.1 98 = .ok (.goto (7), 3) := by decide +kernel
theorem b_Tk_readToken_98 {X : aw_X} {d : Nat} {Q : Option Value → aw_H → Prop} {I : Nat → Nat → Int32} {L : Nat → Nat → Int64} {D : Nat → Nat} 
    (h1 : aw_z X (d + 1) y_Tk_readToken Q 105 [none] [] (aw_s I L D)) :
    aw_z X (d + 1) y_Tk_readToken Q 98 [none] [] (aw_s I L D) :=
  (z_goto (tgt := 105) d_Tk_readToken_98 rfl (h1))
/-! Tk_skipBlanks -/
theorem d_Tk_skipBlanks_0 : decode y_Tk_skipBlanks.2.1 0 = .ok (.aload_n 0, 1) := by decide +kernel
theorem d_Tk_skipBlanks_1 : decode y_Tk_skipBlanks.2.1 1 = .ok (.getfield 25, 3) := by decide +kernel
theorem d_Tk_skipBlanks_4 : decode y_Tk_skipBlanks.2.1 4 = .ok (.istore_n 1, 1) := by decide +kernel
theorem s_Tk_skipBlanks_0 : aw_VS y_Tk_skipBlanks 0 [o_ald 0, o_getI 8 4, o_ist 1] 5 := .cons (v_aload_n (i := 0) d_Tk_skipBlanks_0 rfl) (.cons (v_getI (k := 4) k_Tk (by decide) (Or.inl rfl) (Or.inl w_350) d_Tk_skipBlanks_1) (.cons (v_istore_n d_Tk_skipBlanks_4) .nil))
theorem b_Tk_skipBlanks_0 {X : aw_X} {d : Nat} {Q : Option Value → aw_H → Prop} {I : Nat → Nat → Int32} {L : Nat → Nat → Int64} {D : Nat → Nat} 
    (h1 : aw_z X (d + 1) y_Tk_skipBlanks Q 5 [some (.ref 62), some (.int (I 62 4))] [] (aw_s I L D)) :
    aw_z X (d + 1) y_Tk_skipBlanks Q 0 [some (.ref 62), none] [] (aw_s I L D) :=
  (s_Tk_skipBlanks_0.go [some (.ref 62), some (.int (I 62 4))] [] (aw_s I L D) rfl (h1))
theorem d_Tk_skipBlanks_5 : decode y_Tk_skipBlanks.2.1 5 = .ok (.iload_n 1, 1) := by decide +kernel
theorem d_Tk_skipBlanks_6 : decode y_Tk_skipBlanks.2.1 6 = .ok (.aload_n 0, 1) := by decide +kernel
theorem d_Tk_skipBlanks_7 : decode y_Tk_skipBlanks.2.1 7 = .ok (.getfield 21, 3) := by decide +kernel
theorem d_Tk_skipBlanks_10 : decode y_Tk_skipBlanks.2.1 10 = .ok (.getfield 50, 3) := by decide +kernel
theorem s_Tk_skipBlanks_5 : aw_VS y_Tk_skipBlanks 5 [o_ild 1, o_ald 0, o_getA 8 0, o_getI 2 1] 13 := .cons (v_iload_n (i := 1) d_Tk_skipBlanks_5 rfl) (.cons (v_aload_n (i := 0) d_Tk_skipBlanks_6 rfl) (.cons (v_getA (k := 0) k_Tk (by decide) rfl (Or.inl w_346) d_Tk_skipBlanks_7) (.cons (v_getI (k := 1) k_Tp (by decide) (Or.inl rfl) (Or.inr ⟨"AllWays", w_108⟩) d_Tk_skipBlanks_10) .nil)))
theorem d_Tk_skipBlanks_13 : decode y_Tk_skipBlanks.2.1 13 = .ok (.if_icmp .ge (30), 3) := by decide +kernel
theorem d_Tk_skipBlanks_43 : decode y_Tk_skipBlanks.2.1 43 = .ok (.return_, 1) := by decide +kernel
theorem d_Tk_skipBlanks_16 : decode y_Tk_skipBlanks.2.1 16 = .ok (.aload_n 0, 1) := by decide +kernel
theorem d_Tk_skipBlanks_17 : decode y_Tk_skipBlanks.2.1 17 = .ok (.getfield 21, 3) := by decide +kernel
theorem d_Tk_skipBlanks_20 : decode y_Tk_skipBlanks.2.1 20 = .ok (.iload_n 1, 1) := by decide +kernel
theorem s_Tk_skipBlanks_16 : aw_VS y_Tk_skipBlanks 16 [o_ald 0, o_getA 8 0, o_ild 1] 21 := .cons (v_aload_n (i := 0) d_Tk_skipBlanks_16 rfl) (.cons (v_getA (k := 0) k_Tk (by decide) rfl (Or.inl w_346) d_Tk_skipBlanks_17) (.cons (v_iload_n (i := 1) d_Tk_skipBlanks_20 rfl) .nil))
theorem d_Tk_skipBlanks_21 : decode y_Tk_skipBlanks.2.1 21 = .ok (.invokevirtual 55, 3) := by decide +kernel
theorem b_Tk_skipBlanks_5 {X : aw_X} {d : Nat} {Q : Option Value → aw_H → Prop} {I : Nat → Nat → Int32} {L : Nat → Nat → Int64} {D : Nat → Nat} {v1 : Int32}
    (h1 : (I 2 1) ≤ v1 → Q none (aw_s I L D))
    (h2 : ¬ (I 2 1) ≤ v1 → aw_m X d y_Tp_byteAt [.ref 2, .int v1] (aw_s I L D) (fun r A => aw_z X (d + 1) y_Tk_skipBlanks Q 24 [some (.ref 62), some (.int v1)] (r.toList ++ []) A)) :
    aw_z X (d + 1) y_Tk_skipBlanks Q 5 [some (.ref 62), some (.int v1)] [] (aw_s I L D) :=
  (s_Tk_skipBlanks_5.go [some (.ref 62), some (.int v1)] [.int (I 2 1), .int v1] (aw_s I L D) rfl (z_icmp_ge (tgt := 43) d_Tk_skipBlanks_13 rfl (fun q1 => (z_vret d_Tk_skipBlanks_43 rfl (h1 q1))) (fun q2 => (s_Tk_skipBlanks_16.go [some (.ref 62), some (.int v1)] [.int v1, .ref 2] (aw_s I L D) rfl (z_callV (av := [.int v1]) (st := []) ok_Tp_byteAt (Or.inl w_480) w_481 w_482 k_Tp d_Tk_skipBlanks_21 rfl (aw_lt (o := 2) rfl) rfl rfl (Nat.le_of_ble_eq_true rfl) (Nat.le_refl _) (Nat.le_refl _) (h2 q2))))))
theorem d_Tk_skipBlanks_24 : decode y_Tk_skipBlanks.2.1 24 = .ok (.invokestatic 69, 3) := by decide +kernel
theorem b_Tk_skipBlanks_24 {X : aw_X} {d : Nat} {Q : Option Value → aw_H → Prop} {I : Nat → Nat → Int32} {L : Nat → Nat → Int64} {D : Nat → Nat} {v1 : Int32} {s0 : Int32}
    (h1 : aw_m X d y_Tk_isBlank [.int s0] (aw_s I L D) (fun r A => aw_z X (d + 1) y_Tk_skipBlanks Q 27 [some (.ref 62), some (.int v1)] (r.toList ++ []) A)) :
    aw_z X (d + 1) y_Tk_skipBlanks Q 24 [some (.ref 62), some (.int v1)] [.int s0] (aw_s I L D) :=
  (z_callS (av := [.int s0]) (st := []) ok_Tk_isBlank (Or.inl w_484) w_485 d_Tk_skipBlanks_24 rfl rfl (Nat.le_of_ble_eq_true rfl) (Nat.le_refl _) (Nat.le_refl _) (h1))
theorem d_Tk_skipBlanks_27 : decode y_Tk_skipBlanks.2.1 27 = .ok (.ifCond .eq (16), 3) := by decide +kernel
theorem d_Tk_skipBlanks_30 : decode y_Tk_skipBlanks.2.1 30 = .ok (.aload_n 0, 1) := by decide +kernel
theorem d_Tk_skipBlanks_31 : decode y_Tk_skipBlanks.2.1 31 = .ok (.iload_n 1, 1) := by decide +kernel
theorem d_Tk_skipBlanks_32 : decode y_Tk_skipBlanks.2.1 32 = .ok (.iconst 1, 1) := by decide +kernel
theorem d_Tk_skipBlanks_33 : decode y_Tk_skipBlanks.2.1 33 = .ok (.iadd, 1) := by decide +kernel
theorem d_Tk_skipBlanks_34 : decode y_Tk_skipBlanks.2.1 34 = .ok (.putfield 25, 3) := by decide +kernel
theorem d_Tk_skipBlanks_37 : decode y_Tk_skipBlanks.2.1 37 = .ok (.iinc 1 (1), 3) := by decide +kernel
theorem s_Tk_skipBlanks_30 : aw_VS y_Tk_skipBlanks 30 [o_ald 0, o_ild 1, o_c (.int (1 : Int32)), o_i2 (fun x z => x + z), o_putI 8 4, o_inc 1 (1 : Int32)] 40 := .cons (v_aload_n (i := 0) d_Tk_skipBlanks_30 rfl) (.cons (v_iload_n (i := 1) d_Tk_skipBlanks_31 rfl) (.cons (v_iconst (v := (1 : Int32)) d_Tk_skipBlanks_32 (by decide +kernel)) (.cons (v_iadd d_Tk_skipBlanks_33) (.cons (v_putI (k := 4) k_Tk (by decide) rfl (Or.inl ⟨rfl, Or.inl w_350⟩) d_Tk_skipBlanks_34) (.cons (v_iinc (k0 := (1 : Int32)) d_Tk_skipBlanks_37 (by decide +kernel)) .nil)))))
theorem d_Tk_skipBlanks_40 : decode y_Tk_skipBlanks.2.1 40 = .ok (.goto (-35), 3) := by decide +kernel
theorem b_Tk_skipBlanks_27 {X : aw_X} {d : Nat} {Q : Option Value → aw_H → Prop} {I : Nat → Nat → Int32} {L : Nat → Nat → Int64} {D : Nat → Nat} {v1 : Int32} {s0 : Int32}
    (h1 : s0 = 0 → Q none (aw_s I L D))
    (h2 : ¬ s0 = 0 → aw_z X (d + 1) y_Tk_skipBlanks Q 5 [some (.ref 62), some (.int (v1 + (1 : Int32)))] [] (aw_s (aw_u I 62 4 (v1 + (1 : Int32))) L D)) :
    aw_z X (d + 1) y_Tk_skipBlanks Q 27 [some (.ref 62), some (.int v1)] [.int s0] (aw_s I L D) :=
  (z_if_eq (tgt := 43) d_Tk_skipBlanks_27 rfl (fun q1 => (z_vret d_Tk_skipBlanks_43 rfl (h1 q1))) (fun q2 => (s_Tk_skipBlanks_30.go [some (.ref 62), some (.int (v1 + (1 : Int32)))] [] (aw_s (aw_u I 62 4 (v1 + (1 : Int32))) L D) rfl (z_goto (tgt := 5) d_Tk_skipBlanks_40 rfl (h2 q2)))))
/-! Tk_isBlank -/
theorem d_Tk_isBlank_0 : decode y_Tk_isBlank.2.1 0 = .ok (.iload_n 0, 1) := by decide +kernel
theorem d_Tk_isBlank_1 : decode y_Tk_isBlank.2.1 1 = .ok (.bipush 32, 2) := by decide +kernel
theorem s_Tk_isBlank_0 : aw_VS y_Tk_isBlank 0 [o_ild 0, o_c (.int (32 : Int32))] 3 := .cons (v_iload_n (i := 0) d_Tk_isBlank_0 rfl) (.cons (v_bipush (v := (32 : Int32)) d_Tk_isBlank_1 (by decide +kernel)) .nil)
theorem d_Tk_isBlank_3 : decode y_Tk_isBlank.2.1 3 = .ok (.if_icmp .eq (9), 3) := by decide +kernel
theorem d_Tk_isBlank_12 : decode y_Tk_isBlank.2.1 12 = .ok (.iconst 1, 1) := by decide +kernel
theorem s_Tk_isBlank_12 : aw_VS y_Tk_isBlank 12 [o_c (.int (1 : Int32))] 13 := .cons (v_iconst (v := (1 : Int32)) d_Tk_isBlank_12 (by decide +kernel)) .nil
theorem d_Tk_isBlank_13 : decode y_Tk_isBlank.2.1 13 = .ok (.goto (4), 3) := by decide +kernel
theorem d_Tk_isBlank_17 : decode y_Tk_isBlank.2.1 17 = .ok (.ireturn, 1) := by decide +kernel
theorem d_Tk_isBlank_6 : decode y_Tk_isBlank.2.1 6 = .ok (.iload_n 0, 1) := by decide +kernel
theorem d_Tk_isBlank_7 : decode y_Tk_isBlank.2.1 7 = .ok (.bipush 10, 2) := by decide +kernel
theorem s_Tk_isBlank_6 : aw_VS y_Tk_isBlank 6 [o_ild 0, o_c (.int (10 : Int32))] 9 := .cons (v_iload_n (i := 0) d_Tk_isBlank_6 rfl) (.cons (v_bipush (v := (10 : Int32)) d_Tk_isBlank_7 (by decide +kernel)) .nil)
theorem d_Tk_isBlank_9 : decode y_Tk_isBlank.2.1 9 = .ok (.if_icmp .ne (7), 3) := by decide +kernel
theorem d_Tk_isBlank_16 : decode y_Tk_isBlank.2.1 16 = .ok (.iconst 0, 1) := by decide +kernel
theorem s_Tk_isBlank_16 : aw_VS y_Tk_isBlank 16 [o_c (.int (0 : Int32))] 17 := .cons (v_iconst (v := (0 : Int32)) d_Tk_isBlank_16 (by decide +kernel)) .nil
theorem b_Tk_isBlank_0 {X : aw_X} {d : Nat} {Q : Option Value → aw_H → Prop} {I : Nat → Nat → Int32} {L : Nat → Nat → Int64} {D : Nat → Nat} {v0 : Int32}
    (h1 : v0 = (32 : Int32) → Q (some (.int (1 : Int32))) (aw_s I L D))
    (h2 : ¬ v0 = (32 : Int32) → ¬ v0 = (10 : Int32) → Q (some (.int (0 : Int32))) (aw_s I L D))
    (h3 : ¬ v0 = (32 : Int32) → v0 = (10 : Int32) → Q (some (.int (1 : Int32))) (aw_s I L D)) :
    aw_z X d y_Tk_isBlank Q 0 [some (.int v0)] [] (aw_s I L D) :=
  (s_Tk_isBlank_0.go [some (.int v0)] [.int (32 : Int32), .int v0] (aw_s I L D) rfl (z_icmp_eq (tgt := 12) d_Tk_isBlank_3 rfl (fun q1 => (s_Tk_isBlank_12.go [some (.int v0)] [.int (1 : Int32)] (aw_s I L D) rfl (z_goto (tgt := 17) d_Tk_isBlank_13 rfl (z_iret d_Tk_isBlank_17 rfl (aw_nz (by decide +kernel)) (h1 q1))))) (fun q2 => (s_Tk_isBlank_6.go [some (.int v0)] [.int (10 : Int32), .int v0] (aw_s I L D) rfl (z_icmp_ne (tgt := 16) d_Tk_isBlank_9 rfl (fun q3 => (s_Tk_isBlank_16.go [some (.int v0)] [.int (0 : Int32)] (aw_s I L D) rfl (z_iret d_Tk_isBlank_17 rfl (aw_nz (by decide +kernel)) (h2 q2 q3)))) (fun q4 => (s_Tk_isBlank_12.go [some (.int v0)] [.int (1 : Int32)] (aw_s I L D) rfl (z_goto (tgt := 17) d_Tk_isBlank_13 rfl (z_iret d_Tk_isBlank_17 rfl (aw_nz (by decide +kernel)) (h3 q2 q4))))))))))
/-! Tk_isOfWord -/
theorem d_Tk_isOfWord_0 : decode y_Tk_isOfWord.2.1 0 = .ok (.iload_n 0, 1) := by decide +kernel
theorem s_Tk_isOfWord_0 : aw_VS y_Tk_isOfWord 0 [o_ild 0] 1 := .cons (v_iload_n (i := 0) d_Tk_isOfWord_0 rfl) .nil
theorem d_Tk_isOfWord_1 : decode y_Tk_isOfWord.2.1 1 = .ok (.invokestatic 72, 3) := by decide +kernel
theorem b_Tk_isOfWord_0 {X : aw_X} {d : Nat} {Q : Option Value → aw_H → Prop} {I : Nat → Nat → Int32} {L : Nat → Nat → Int64} {D : Nat → Nat} {v0 : Int32}
    (h1 : aw_m X d y_Tk_isLetter [.int v0] (aw_s I L D) (fun r A => aw_z X (d + 1) y_Tk_isOfWord Q 4 [some (.int v0)] (r.toList ++ []) A)) :
    aw_z X (d + 1) y_Tk_isOfWord Q 0 [some (.int v0)] [] (aw_s I L D) :=
  (s_Tk_isOfWord_0.go [some (.int v0)] [.int v0] (aw_s I L D) rfl (z_callS (av := [.int v0]) (st := []) ok_Tk_isLetter (Or.inl w_490) w_491 d_Tk_isOfWord_1 rfl rfl (Nat.le_of_ble_eq_true rfl) (Nat.le_refl _) (Nat.le_refl _) (h1)))
theorem d_Tk_isOfWord_4 : decode y_Tk_isOfWord.2.1 4 = .ok (.ifCond .ne (10), 3) := by decide +kernel
theorem d_Tk_isOfWord_14 : decode y_Tk_isOfWord.2.1 14 = .ok (.iconst 1, 1) := by decide +kernel
theorem s_Tk_isOfWord_14 : aw_VS y_Tk_isOfWord 14 [o_c (.int (1 : Int32))] 15 := .cons (v_iconst (v := (1 : Int32)) d_Tk_isOfWord_14 (by decide +kernel)) .nil
theorem d_Tk_isOfWord_15 : decode y_Tk_isOfWord.2.1 15 = .ok (.goto (4), 3) := by decide +kernel
theorem d_Tk_isOfWord_19 : decode y_Tk_isOfWord.2.1 19 = .ok (.ireturn, 1) := by decide +kernel
theorem d_Tk_isOfWord_7 : decode y_Tk_isOfWord.2.1 7 = .ok (.iload_n 0, 1) := by decide +kernel
theorem s_Tk_isOfWord_7 : aw_VS y_Tk_isOfWord 7 [o_ild 0] 8 := .cons (v_iload_n (i := 0) d_Tk_isOfWord_7 rfl) .nil
theorem d_Tk_isOfWord_8 : decode y_Tk_isOfWord.2.1 8 = .ok (.invokestatic 75, 3) := by decide +kernel
theorem b_Tk_isOfWord_4 {X : aw_X} {d : Nat} {Q : Option Value → aw_H → Prop} {I : Nat → Nat → Int32} {L : Nat → Nat → Int64} {D : Nat → Nat} {v0 : Int32} {s0 : Int32}
    (h1 : ¬ s0 = 0 → Q (some (.int (1 : Int32))) (aw_s I L D))
    (h2 : s0 = 0 → aw_m X d y_Tk_isDigit [.int v0] (aw_s I L D) (fun r A => aw_z X (d + 1) y_Tk_isOfWord Q 11 [none] (r.toList ++ []) A)) :
    aw_z X (d + 1) y_Tk_isOfWord Q 4 [some (.int v0)] [.int s0] (aw_s I L D) :=
  (z_if_ne (tgt := 14) d_Tk_isOfWord_4 rfl (fun q1 => (s_Tk_isOfWord_14.go [some (.int v0)] [.int (1 : Int32)] (aw_s I L D) rfl (z_goto (tgt := 19) d_Tk_isOfWord_15 rfl (z_iret d_Tk_isOfWord_19 rfl (aw_nz (by decide +kernel)) (h1 q1))))) (fun q2 => (s_Tk_isOfWord_7.go [some (.int v0)] [.int v0] (aw_s I L D) rfl (z_callS (av := [.int v0]) (st := []) ok_Tk_isDigit (Or.inl w_493) w_494 d_Tk_isOfWord_8 rfl rfl (Nat.le_of_ble_eq_true rfl) (Nat.le_refl _) (Nat.le_refl _) (aw_C.mono (h2 q2) (fun _ _ zz => aw_Z.weak (ls' := [none]) zz (Nat.le_of_ble_eq_true rfl) ⟨Or.inl rfl, trivial⟩))))))
theorem d_Tk_isOfWord_11 : decode y_Tk_isOfWord.2.1 11 = .ok (.ifCond .eq (7), 3) := by decide +kernel
theorem d_Tk_isOfWord_18 : decode y_Tk_isOfWord.2.1 18 = .ok (.iconst 0, 1) := by decide +kernel
theorem s_Tk_isOfWord_18 : aw_VS y_Tk_isOfWord 18 [o_c (.int (0 : Int32))] 19 := .cons (v_iconst (v := (0 : Int32)) d_Tk_isOfWord_18 (by decide +kernel)) .nil
theorem b_Tk_isOfWord_11 {X : aw_X} {d : Nat} {Q : Option Value → aw_H → Prop} {I : Nat → Nat → Int32} {L : Nat → Nat → Int64} {D : Nat → Nat} {s0 : Int32}
    (h1 : s0 = 0 → Q (some (.int (0 : Int32))) (aw_s I L D))
    (h2 : ¬ s0 = 0 → Q (some (.int (1 : Int32))) (aw_s I L D)) :
    aw_z X (d + 1) y_Tk_isOfWord Q 11 [none] [.int s0] (aw_s I L D) :=
  (z_if_eq (tgt := 18) d_Tk_isOfWord_11 rfl (fun q1 => (s_Tk_isOfWord_18.go [none] [.int (0 : Int32)] (aw_s I L D) rfl (z_iret d_Tk_isOfWord_19 rfl (aw_nz (by decide +kernel)) (h1 q1)))) (fun q2 => (s_Tk_isOfWord_14.go [none] [.int (1 : Int32)] (aw_s I L D) rfl (z_goto (tgt := 19) d_Tk_isOfWord_15 rfl (z_iret d_Tk_isOfWord_19 rfl (aw_nz (by decide +kernel)) (h2 q2))))))
/-! Tk_isLetter -/
theorem d_Tk_isLetter_0 : decode y_Tk_isLetter.2.1 0 = .ok (.iload_n 0, 1) := by decide +kernel
theorem d_Tk_isLetter_1 : decode y_Tk_isLetter.2.1 1 = .ok (.bipush 97, 2) := by decide +kernel
theorem s_Tk_isLetter_0 : aw_VS y_Tk_isLetter 0 [o_ild 0, o_c (.int (97 : Int32))] 3 := .cons (v_iload_n (i := 0) d_Tk_isLetter_0 rfl) (.cons (v_bipush (v := (97 : Int32)) d_Tk_isLetter_1 (by decide +kernel)) .nil)
theorem d_Tk_isLetter_3 : decode y_Tk_isLetter.2.1 3 = .ok (.if_icmp .lt (13), 3) := by decide +kernel
theorem d_Tk_isLetter_16 : decode y_Tk_isLetter.2.1 16 = .ok (.iconst 0, 1) := by decide +kernel
theorem s_Tk_isLetter_16 : aw_VS y_Tk_isLetter 16 [o_c (.int (0 : Int32))] 17 := .cons (v_iconst (v := (0 : Int32)) d_Tk_isLetter_16 (by decide +kernel)) .nil
theorem d_Tk_isLetter_17 : decode y_Tk_isLetter.2.1 17 = .ok (.ireturn, 1) := by decide +kernel
theorem d_Tk_isLetter_6 : decode y_Tk_isLetter.2.1 6 = .ok (.iload_n 0, 1) := by decide +kernel
theorem d_Tk_isLetter_7 : decode y_Tk_isLetter.2.1 7 = .ok (.bipush 122, 2) := by decide +kernel
theorem s_Tk_isLetter_6 : aw_VS y_Tk_isLetter 6 [o_ild 0, o_c (.int (122 : Int32))] 9 := .cons (v_iload_n (i := 0) d_Tk_isLetter_6 rfl) (.cons (v_bipush (v := (122 : Int32)) d_Tk_isLetter_7 (by decide +kernel)) .nil)
theorem d_Tk_isLetter_9 : decode y_Tk_isLetter.2.1 9 = .ok (.if_icmp .gt (7), 3) := by decide +kernel
theorem d_Tk_isLetter_12 : decode y_Tk_isLetter.2.1 12 = .ok (.iconst 1, 1) := by decide +kernel
theorem s_Tk_isLetter_12 : aw_VS y_Tk_isLetter 12 [o_c (.int (1 : Int32))] 13 := .cons (v_iconst (v := (1 : Int32)) d_Tk_isLetter_12 (by decide +kernel)) .nil
theorem d_Tk_isLetter_13 : decode y_Tk_isLetter.2.1 13 = .ok (.goto (4), 3) := by decide +kernel
theorem b_Tk_isLetter_0 {X : aw_X} {d : Nat} {Q : Option Value → aw_H → Prop} {I : Nat → Nat → Int32} {L : Nat → Nat → Int64} {D : Nat → Nat} {v0 : Int32}
    (h1 : v0 < (97 : Int32) → Q (some (.int (0 : Int32))) (aw_s I L D))
    (h2 : ¬ v0 < (97 : Int32) → (122 : Int32) < v0 → Q (some (.int (0 : Int32))) (aw_s I L D))
    (h3 : ¬ v0 < (97 : Int32) → ¬ (122 : Int32) < v0 → Q (some (.int (1 : Int32))) (aw_s I L D)) :
    aw_z X d y_Tk_isLetter Q 0 [some (.int v0)] [] (aw_s I L D) :=
  (s_Tk_isLetter_0.go [some (.int v0)] [.int (97 : Int32), .int v0] (aw_s I L D) rfl (z_icmp_lt (tgt := 16) d_Tk_isLetter_3 rfl (fun q1 => (s_Tk_isLetter_16.go [some (.int v0)] [.int (0 : Int32)] (aw_s I L D) rfl (z_iret d_Tk_isLetter_17 rfl (aw_nz (by decide +kernel)) (h1 q1)))) (fun q2 => (s_Tk_isLetter_6.go [some (.int v0)] [.int (122 : Int32), .int v0] (aw_s I L D) rfl (z_icmp_gt (tgt := 16) d_Tk_isLetter_9 rfl (fun q3 => (s_Tk_isLetter_16.go [some (.int v0)] [.int (0 : Int32)] (aw_s I L D) rfl (z_iret d_Tk_isLetter_17 rfl (aw_nz (by decide +kernel)) (h2 q2 q3)))) (fun q4 => (s_Tk_isLetter_12.go [some (.int v0)] [.int (1 : Int32)] (aw_s I L D) rfl (z_goto (tgt := 17) d_Tk_isLetter_13 rfl (z_iret d_Tk_isLetter_17 rfl (aw_nz (by decide +kernel)) (h3 q2 q4))))))))))
/-! Tk_isDigit -/
theorem d_Tk_isDigit_0 : decode y_Tk_isDigit.2.1 0 = .ok (.iload_n 0, 1) := by decide +kernel
theorem d_Tk_isDigit_1 : decode y_Tk_isDigit.2.1 1 = .ok (.bipush 48, 2) := by decide +kernel
theorem s_Tk_isDigit_0 : aw_VS y_Tk_isDigit 0 [o_ild 0, o_c (.int (48 : Int32))] 3 := .cons (v_iload_n (i := 0) d_Tk_isDigit_0 rfl) (.cons (v_bipush (v := (48 : Int32)) d_Tk_isDigit_1 (by decide +kernel)) .nil)
theorem d_Tk_isDigit_3 : decode y_Tk_isDigit.2.1 3 = .ok (.if_icmp .lt (13), 3) := by decide +kernel
theorem d_Tk_isDigit_16 : decode y_Tk_isDigit.2.1 16 = .ok (.iconst 0, 1) := by decide +kernel
theorem s_Tk_isDigit_16 : aw_VS y_Tk_isDigit 16 [o_c (.int (0 : Int32))] 17 := .cons (v_iconst (v := (0 : Int32)) d_Tk_isDigit_16 (by decide +kernel)) .nil
theorem d_Tk_isDigit_17 : decode y_Tk_isDigit.2.1 17 = .ok (.ireturn, 1) := by decide +kernel
theorem d_Tk_isDigit_6 : decode y_Tk_isDigit.2.1 6 = .ok (.iload_n 0, 1) := by decide +kernel
theorem d_Tk_isDigit_7 : decode y_Tk_isDigit.2.1 7 = .ok (.bipush 57, 2) := by decide +kernel
theorem s_Tk_isDigit_6 : aw_VS y_Tk_isDigit 6 [o_ild 0, o_c (.int (57 : Int32))] 9 := .cons (v_iload_n (i := 0) d_Tk_isDigit_6 rfl) (.cons (v_bipush (v := (57 : Int32)) d_Tk_isDigit_7 (by decide +kernel)) .nil)
theorem d_Tk_isDigit_9 : decode y_Tk_isDigit.2.1 9 = .ok (.if_icmp .gt (7), 3) := by decide +kernel
theorem d_Tk_isDigit_12 : decode y_Tk_isDigit.2.1 12 = .ok (.iconst 1, 1) := by decide +kernel
theorem s_Tk_isDigit_12 : aw_VS y_Tk_isDigit 12 [o_c (.int (1 : Int32))] 13 := .cons (v_iconst (v := (1 : Int32)) d_Tk_isDigit_12 (by decide +kernel)) .nil
theorem d_Tk_isDigit_13 : decode y_Tk_isDigit.2.1 13 = .ok (.goto (4), 3) := by decide +kernel
theorem b_Tk_isDigit_0 {X : aw_X} {d : Nat} {Q : Option Value → aw_H → Prop} {I : Nat → Nat → Int32} {L : Nat → Nat → Int64} {D : Nat → Nat} {v0 : Int32}
    (h1 : v0 < (48 : Int32) → Q (some (.int (0 : Int32))) (aw_s I L D))
    (h2 : ¬ v0 < (48 : Int32) → (57 : Int32) < v0 → Q (some (.int (0 : Int32))) (aw_s I L D))
    (h3 : ¬ v0 < (48 : Int32) → ¬ (57 : Int32) < v0 → Q (some (.int (1 : Int32))) (aw_s I L D)) :
    aw_z X d y_Tk_isDigit Q 0 [some (.int v0)] [] (aw_s I L D) :=
  (s_Tk_isDigit_0.go [some (.int v0)] [.int (48 : Int32), .int v0] (aw_s I L D) rfl (z_icmp_lt (tgt := 16) d_Tk_isDigit_3 rfl (fun q1 => (s_Tk_isDigit_16.go [some (.int v0)] [.int (0 : Int32)] (aw_s I L D) rfl (z_iret d_Tk_isDigit_17 rfl (aw_nz (by decide +kernel)) (h1 q1)))) (fun q2 => (s_Tk_isDigit_6.go [some (.int v0)] [.int (57 : Int32), .int v0] (aw_s I L D) rfl (z_icmp_gt (tgt := 16) d_Tk_isDigit_9 rfl (fun q3 => (s_Tk_isDigit_16.go [some (.int v0)] [.int (0 : Int32)] (aw_s I L D) rfl (z_iret d_Tk_isDigit_17 rfl (aw_nz (by decide +kernel)) (h2 q2 q3)))) (fun q4 => (s_Tk_isDigit_12.go [some (.int v0)] [.int (1 : Int32)] (aw_s I L D) rfl (z_goto (tgt := 17) d_Tk_isDigit_13 rfl (z_iret d_Tk_isDigit_17 rfl (aw_nz (by decide +kernel)) (h3 q2 q4))))))))))
/-! Tk_readWord -/
theorem d_Tk_readWord_0 : decode y_Tk_readWord.2.1 0 = .ok (.iconst 0, 1) := by decide +kernel
theorem d_Tk_readWord_1 : decode y_Tk_readWord.2.1 1 = .ok (.istore_n 1, 1) := by decide +kernel
theorem d_Tk_readWord_2 : decode y_Tk_readWord.2.1 2 = .ok (.aload_n 0, 1) := by decide +kernel
theorem d_Tk_readWord_3 : decode y_Tk_readWord.2.1 3 = .ok (.getfield 35, 3) := by decide +kernel
theorem d_Tk_readWord_6 : decode y_Tk_readWord.2.1 6 = .ok (.istore_n 2, 1) := by decide +kernel
theorem s_Tk_readWord_0 : aw_VS y_Tk_readWord 0 [o_c (.int (0 : Int32)), o_ist 1, o_ald 0, o_getI 8 7, o_ist 2] 7 := .cons (v_iconst (v := (0 : Int32)) d_Tk_readWord_0 (by decide +kernel)) (.cons (v_istore_n d_Tk_readWord_1) (.cons (v_aload_n (i := 0) d_Tk_readWord_2 rfl) (.cons (v_getI (k := 7) k_Tk (by decide) (Or.inl rfl) (Or.inl w_354) d_Tk_readWord_3) (.cons (v_istore_n d_Tk_readWord_6) .nil))))
theorem b_Tk_readWord_0 {X : aw_X} {d : Nat} {Q : Option Value → aw_H → Prop} {I : Nat → Nat → Int32} {L : Nat → Nat → Int64} {D : Nat → Nat} 
    (h1 : aw_z X (d + 1) y_Tk_readWord Q 7 [some (.ref 62), some (.int (0 : Int32)), some (.int (I 62 7))] [] (aw_s I L D)) :
    aw_z X (d + 1) y_Tk_readWord Q 0 [some (.ref 62), none, none] [] (aw_s I L D) :=
  (s_Tk_readWord_0.go [some (.ref 62), some (.int (0 : Int32)), some (.int (I 62 7))] [] (aw_s I L D) rfl (h1))
theorem d_Tk_readWord_7 : decode y_Tk_readWord.2.1 7 = .ok (.iload_n 2, 1) := by decide +kernel
theorem d_Tk_readWord_8 : decode y_Tk_readWord.2.1 8 = .ok (.aload_n 0, 1) := by decide +kernel
theorem d_Tk_readWord_9 : decode y_Tk_readWord.2.1 9 = .ok (.getfield 21, 3) := by decide +kernel
theorem d_Tk_readWord_12 : decode y_Tk_readWord.2.1 12 = .ok (.getfield 50, 3) := by decide +kernel
theorem s_Tk_readWord_7 : aw_VS y_Tk_readWord 7 [o_ild 2, o_ald 0, o_getA 8 0, o_getI 2 1] 15 := .cons (v_iload_n (i := 2) d_Tk_readWord_7 rfl) (.cons (v_aload_n (i := 0) d_Tk_readWord_8 rfl) (.cons (v_getA (k := 0) k_Tk (by decide) rfl (Or.inl w_346) d_Tk_readWord_9) (.cons (v_getI (k := 1) k_Tp (by decide) (Or.inl rfl) (Or.inr ⟨"AllWays", w_108⟩) d_Tk_readWord_12) .nil)))
theorem d_Tk_readWord_15 : decode y_Tk_readWord.2.1 15 = .ok (.if_icmp .ge (47), 3) := by decide +kernel
theorem d_Tk_readWord_18 : decode y_Tk_readWord.2.1 18 = .ok (.aload_n 0, 1) := by decide +kernel
theorem d_Tk_readWord_19 : decode y_Tk_readWord.2.1 19 = .ok (.getfield 21, 3) := by decide +kernel
theorem d_Tk_readWord_22 : decode y_Tk_readWord.2.1 22 = .ok (.iload_n 2, 1) := by decide +kernel
theorem s_Tk_readWord_18 : aw_VS y_Tk_readWord 18 [o_ald 0, o_getA 8 0, o_ild 2] 23 := .cons (v_aload_n (i := 0) d_Tk_readWord_18 rfl) (.cons (v_getA (k := 0) k_Tk (by decide) rfl (Or.inl w_346) d_Tk_readWord_19) (.cons (v_iload_n (i := 2) d_Tk_readWord_22 rfl) .nil))
theorem d_Tk_readWord_23 : decode y_Tk_readWord.2.1 23 = .ok (.invokevirtual 55, 3) := by decide +kernel
theorem b_Tk_readWord_7 {X : aw_X} {d : Nat} {Q : Option Value → aw_H → Prop} {I : Nat → Nat → Int32} {L : Nat → Nat → Int64} {D : Nat → Nat} {v1 : Int32} {v2 : Int32}
    (h1 : (I 2 1) ≤ v2 → aw_z X (d + 1) y_Tk_readWord Q 62 [some (.ref 62), some (.int v1), none] [] (aw_s I L D))
    (h2 : ¬ (I 2 1) ≤ v2 → aw_m X d y_Tp_byteAt [.ref 2, .int v2] (aw_s I L D) (fun r A => aw_z X (d + 1) y_Tk_readWord Q 26 [some (.ref 62), some (.int v1), some (.int v2)] (r.toList ++ []) A)) :
    aw_z X (d + 1) y_Tk_readWord Q 7 [some (.ref 62), some (.int v1), some (.int v2)] [] (aw_s I L D) :=
  (s_Tk_readWord_7.go [some (.ref 62), some (.int v1), some (.int v2)] [.int (I 2 1), .int v2] (aw_s I L D) rfl (z_icmp_ge (tgt := 62) d_Tk_readWord_15 rfl (fun q1 => (aw_Z.weak (ls' := [some (.ref 62), some (.int v1), none]) (h1 q1) (Nat.le_of_ble_eq_true rfl) ⟨Or.inr rfl, ⟨Or.inr rfl, ⟨Or.inl rfl, trivial⟩⟩⟩)) (fun q2 => (s_Tk_readWord_18.go [some (.ref 62), some (.int v1), some (.int v2)] [.int v2, .ref 2] (aw_s I L D) rfl (z_callV (av := [.int v2]) (st := []) ok_Tp_byteAt (Or.inl w_480) w_481 w_482 k_Tp d_Tk_readWord_23 rfl (aw_lt (o := 2) rfl) rfl rfl (Nat.le_of_ble_eq_true rfl) (Nat.le_refl _) (Nat.le_refl _) (h2 q2))))))
theorem d_Tk_readWord_62 : decode y_Tk_readWord.2.1 62 = .ok (.aload_n 0, 1) := by decide +kernel
theorem d_Tk_readWord_63 : decode y_Tk_readWord.2.1 63 = .ok (.getfield 25, 3) := by decide +kernel
theorem d_Tk_readWord_66 : decode y_Tk_readWord.2.1 66 = .ok (.aload_n 0, 1) := by decide +kernel
theorem d_Tk_readWord_67 : decode y_Tk_readWord.2.1 67 = .ok (.getfield 35, 3) := by decide +kernel
theorem d_Tk_readWord_70 : decode y_Tk_readWord.2.1 70 = .ok (.isub, 1) := by decide +kernel
theorem d_Tk_readWord_71 : decode y_Tk_readWord.2.1 71 = .ok (.istore_n 2, 1) := by decide +kernel
theorem d_Tk_readWord_72 : decode y_Tk_readWord.2.1 72 = .ok (.iload_n 1, 1) := by decide +kernel
theorem d_Tk_readWord_73 : decode y_Tk_readWord.2.1 73 = .ok (.iload_n 2, 1) := by decide +kernel
theorem s_Tk_readWord_62 : aw_VS y_Tk_readWord 62 [o_ald 0, o_getI 8 4, o_ald 0, o_getI 8 7, o_i2 (fun x z => x - z), o_ist 2, o_ild 1, o_ild 2] 74 := .cons (v_aload_n (i := 0) d_Tk_readWord_62 rfl) (.cons (v_getI (k := 4) k_Tk (by decide) (Or.inl rfl) (Or.inl w_350) d_Tk_readWord_63) (.cons (v_aload_n (i := 0) d_Tk_readWord_66 rfl) (.cons (v_getI (k := 7) k_Tk (by decide) (Or.inl rfl) (Or.inl w_354) d_Tk_readWord_67) (.cons (v_isub d_Tk_readWord_70) (.cons (v_istore_n d_Tk_readWord_71) (.cons (v_iload_n (i := 1) d_Tk_readWord_72 rfl) (.cons (v_iload_n (i := 2) d_Tk_readWord_73 rfl) .nil)))))))
theorem d_Tk_readWord_74 : decode y_Tk_readWord.2.1 74 = .ok (.if_icmp .ne (11), 3) := by decide +kernel
theorem d_Tk_readWord_85 : decode y_Tk_readWord.2.1 85 = .ok (.iload_n 1, 1) := by decide +kernel
theorem s_Tk_readWord_85 : aw_VS y_Tk_readWord 85 [o_ild 1] 86 := .cons (v_iload_n (i := 1) d_Tk_readWord_85 rfl) .nil
theorem d_Tk_readWord_86 : decode y_Tk_readWord.2.1 86 = .ok (.ifCond .le (11), 3) := by decide +kernel
theorem d_Tk_readWord_97 : decode y_Tk_readWord.2.1 97 = .ok (.iload_n 2, 1) := by decide +kernel
theorem d_Tk_readWord_98 : decode y_Tk_readWord.2.1 98 = .ok (.iconst 1, 1) := by decide +kernel
theorem s_Tk_readWord_97 : aw_VS y_Tk_readWord 97 [o_ild 2, o_c (.int (1 : Int32))] 99 := .cons (v_iload_n (i := 2) d_Tk_readWord_97 rfl) (.cons (v_iconst (v := (1 : Int32)) d_Tk_readWord_98 (by decide +kernel)) .nil)
theorem d_Tk_readWord_99 : decode y_Tk_readWord.2.1 99 = .ok (.if_icmp .ne (21), 3) := by decide +kernel
theorem d_Tk_readWord_120 : decode y_Tk_readWord.2.1 120 = .ok (.aload_n 0, 1) := by decide +kernel
theorem d_Tk_readWord_121 : decode y_Tk_readWord.2.1 121 = .ok (.aload_n 0, 1) := by decide +kernel
theorem d_Tk_readWord_122 : decode y_Tk_readWord.2.1 122 = .ok (.iload_n 2, 1) := by decide +kernel
theorem s_Tk_readWord_120 : aw_VS y_Tk_readWord 120 [o_ald 0, o_ald 0, o_ild 2] 123 := .cons (v_aload_n (i := 0) d_Tk_readWord_120 rfl) (.cons (v_aload_n (i := 0) d_Tk_readWord_121 rfl) (.cons (v_iload_n (i := 2) d_Tk_readWord_122 rfl) .nil))
theorem d_Tk_readWord_123 : decode y_Tk_readWord.2.1 123 = .ok (.invokevirtual 92, 3) := by decide +kernel
theorem d_Tk_readWord_102 : decode y_Tk_readWord.2.1 102 = .ok (.aload_n 0, 1) := by decide +kernel
theorem d_Tk_readWord_103 : decode y_Tk_readWord.2.1 103 = .ok (.aload_n 0, 1) := by decide +kernel
theorem d_Tk_readWord_104 : decode y_Tk_readWord.2.1 104 = .ok (.getfield 21, 3) := by decide +kernel
theorem d_Tk_readWord_107 : decode y_Tk_readWord.2.1 107 = .ok (.aload_n 0, 1) := by decide +kernel
theorem d_Tk_readWord_108 : decode y_Tk_readWord.2.1 108 = .ok (.getfield 35, 3) := by decide +kernel
theorem s_Tk_readWord_102 : aw_VS y_Tk_readWord 102 [o_ald 0, o_ald 0, o_getA 8 0, o_ald 0, o_getI 8 7] 111 := .cons (v_aload_n (i := 0) d_Tk_readWord_102 rfl) (.cons (v_aload_n (i := 0) d_Tk_readWord_103 rfl) (.cons (v_getA (k := 0) k_Tk (by decide) rfl (Or.inl w_346) d_Tk_readWord_104) (.cons (v_aload_n (i := 0) d_Tk_readWord_107 rfl) (.cons (v_getI (k := 7) k_Tk (by decide) (Or.inl rfl) (Or.inl w_354) d_Tk_readWord_108) .nil))))
theorem d_Tk_readWord_111 : decode y_Tk_readWord.2.1 111 = .ok (.invokevirtual 55, 3) := by decide +kernel
theorem d_Tk_readWord_89 : decode y_Tk_readWord.2.1 89 = .ok (.aload_n 0, 1) := by decide +kernel
theorem d_Tk_readWord_90 : decode y_Tk_readWord.2.1 90 = .ok (.iconst 0, 1) := by decide +kernel
theorem d_Tk_readWord_91 : decode y_Tk_readWord.2.1 91 = .ok (.putfield 29, 3) := by decide +kernel
theorem s_Tk_readWord_89 : aw_VS y_Tk_readWord 89 [o_ald 0, o_c (.int (0 : Int32)), o_putI 8 6] 94 := .cons (v_aload_n (i := 0) d_Tk_readWord_89 rfl) (.cons (v_iconst (v := (0 : Int32)) d_Tk_readWord_90 (by decide +kernel)) (.cons (v_putI (k := 6) k_Tk (by decide) rfl (Or.inl ⟨rfl, Or.inl w_352⟩) d_Tk_readWord_91) .nil))
theorem d_Tk_readWord_94 : decode y_Tk_readWord.2.1 94 = .ok (.goto (35), 3) := by decide +kernel
theorem d_Tk_readWord_129 : decode y_Tk_readWord.2.1 129 = .ok (.return_, 1) := by decide +kernel
theorem d_Tk_readWord_77 : decode y_Tk_readWord.2.1 77 = .ok (.aload_n 0, 1) := by decide +kernel
theorem d_Tk_readWord_78 : decode y_Tk_readWord.2.1 78 = .ok (.iload_n 2, 1) := by decide +kernel
theorem s_Tk_readWord_77 : aw_VS y_Tk_readWord 77 [o_ald 0, o_ild 2] 79 := .cons (v_aload_n (i := 0) d_Tk_readWord_77 rfl) (.cons (v_iload_n (i := 2) d_Tk_readWord_78 rfl) .nil)
theorem d_Tk_readWord_79 : decode y_Tk_readWord.2.1 79 = .ok (.invokevirtual 85, 3) := by decide +kernel
theorem b_Tk_readWord_62 {X : aw_X} {d : Nat} {Q : Option Value → aw_H → Prop} {I : Nat → Nat → Int32} {L : Nat → Nat → Int64} {D : Nat → Nat} {v1 : Int32}
    (h1 : ¬ v1 = ((I 62 4) - (I 62 7)) → v1 ≤ 0 → ¬ ((I 62 4) - (I 62 7)) = (1 : Int32) → aw_m X d y_Tk_kindOfWord [.ref 62, .int ((I 62 4) - (I 62 7))] (aw_s I L D) (fun r A => aw_z X (d + 1) y_Tk_readWord Q 126 [none, none, none] (r.toList ++ [.ref 62]) A))
    (h2 : ¬ v1 = ((I 62 4) - (I 62 7)) → v1 ≤ 0 → ((I 62 4) - (I 62 7)) = (1 : Int32) → aw_m X d y_Tp_byteAt [.ref 2, .int (I 62 7)] (aw_s I L D) (fun r A => aw_z X (d + 1) y_Tk_readWord Q 114 [none, none, none] (r.toList ++ [.ref 62]) A))
    (h3 : ¬ v1 = ((I 62 4) - (I 62 7)) → ¬ v1 ≤ 0 → Q none (aw_s (aw_u I 62 6 (0 : Int32)) L D))
    (h4 : v1 = ((I 62 4) - (I 62 7)) → aw_m X d y_Tk_readNumber [.ref 62, .int ((I 62 4) - (I 62 7))] (aw_s I L D) (fun r A => aw_z X (d + 1) y_Tk_readWord Q 82 [none, none, none] (r.toList ++ []) A)) :
    aw_z X (d + 1) y_Tk_readWord Q 62 [some (.ref 62), some (.int v1), none] [] (aw_s I L D) :=
  (s_Tk_readWord_62.go [some (.ref 62), some (.int v1), some (.int ((I 62 4) - (I 62 7)))] [.int ((I 62 4) - (I 62 7)), .int v1] (aw_s I L D) rfl (z_icmp_ne (tgt := 85) d_Tk_readWord_74 rfl (fun q1 => (s_Tk_readWord_85.go [some (.ref 62), some (.int v1), some (.int ((I 62 4) - (I 62 7)))] [.int v1] (aw_s I L D) rfl (z_if_le (tgt := 97) d_Tk_readWord_86 rfl (fun q3 => (s_Tk_readWord_97.go [some (.ref 62), some (.int v1), some (.int ((I 62 4) - (I 62 7)))] [.int (1 : Int32), .int ((I 62 4) - (I 62 7))] (aw_s I L D) rfl (z_icmp_ne (tgt := 120) d_Tk_readWord_99 rfl (fun q5 => (s_Tk_readWord_120.go [some (.ref 62), some (.int v1), some (.int ((I 62 4) - (I 62 7)))] [.int ((I 62 4) - (I 62 7)), .ref 62, .ref 62] (aw_s I L D) rfl (z_callV (av := [.int ((I 62 4) - (I 62 7))]) (st := [.ref 62]) ok_Tk_kindOfWord (Or.inl w_508) w_510 w_6 k_Tk d_Tk_readWord_123 rfl (aw_lt (o := 62) rfl) rfl rfl (Nat.le_of_ble_eq_true rfl) (Nat.le_refl _) (Nat.le_refl _) (aw_C.mono (h1 q1 q3 q5) (fun _ _ zz => aw_Z.weak (ls' := [none, none, none]) zz (Nat.le_of_ble_eq_true rfl) ⟨Or.inl rfl, ⟨Or.inl rfl, ⟨Or.inl rfl, trivial⟩⟩⟩))))) (fun q6 => (s_Tk_readWord_102.go [some (.ref 62), some (.int v1), some (.int ((I 62 4) - (I 62 7)))] [.int (I 62 7), .ref 2, .ref 62] (aw_s I L D) rfl (z_callV (av := [.int (I 62 7)]) (st := [.ref 62]) ok_Tp_byteAt (Or.inl w_480) w_481 w_482 k_Tp d_Tk_readWord_111 rfl (aw_lt (o := 2) rfl) rfl rfl (Nat.le_of_ble_eq_true rfl) (Nat.le_refl _) (Nat.le_refl _) (aw_C.mono (h2 q1 q3 q6) (fun _ _ zz => aw_Z.weak (ls' := [none, none, none]) zz (Nat.le_of_ble_eq_true rfl) ⟨Or.inl rfl, ⟨Or.inl rfl, ⟨Or.inl rfl, trivial⟩⟩⟩)))))))) (fun q4 => (s_Tk_readWord_89.go [some (.ref 62), some (.int v1), some (.int ((I 62 4) - (I 62 7)))] [] (aw_s (aw_u I 62 6 (0 : Int32)) L D) rfl (z_goto (tgt := 129) d_Tk_readWord_94 rfl (z_vret d_Tk_readWord_129 rfl (h3 q1 q4)))))))) (fun q2 => (s_Tk_readWord_77.go [some (.ref 62), some (.int v1), some (.int ((I 62 4) - (I 62 7)))] [.int ((I 62 4) - (I 62 7)), .ref 62] (aw_s I L D) rfl (z_callV (av := [.int ((I 62 4) - (I 62 7))]) (st := []) ok_Tk_readNumber (Or.inl w_500) w_502 w_4 k_Tk d_Tk_readWord_79 rfl (aw_lt (o := 62) rfl) rfl rfl (Nat.le_of_ble_eq_true rfl) (Nat.le_refl _) (Nat.le_refl _) (aw_C.mono (h4 q2) (fun _ _ zz => aw_Z.weak (ls' := [none, none, none]) zz (Nat.le_of_ble_eq_true rfl) ⟨Or.inl rfl, ⟨Or.inl rfl, ⟨Or.inl rfl, trivial⟩⟩⟩)))))))
theorem d_Tk_readWord_26 : decode y_Tk_readWord.2.1 26 = .ok (.invokestatic 59, 3) := by decide +kernel
theorem b_Tk_readWord_26 {X : aw_X} {d : Nat} {Q : Option Value → aw_H → Prop} {I : Nat → Nat → Int32} {L : Nat → Nat → Int64} {D : Nat → Nat} {v1 : Int32} {v2 : Int32} {s0 : Int32}
    (h1 : aw_m X d y_Tk_isOfWord [.int s0] (aw_s I L D) (fun r A => aw_z X (d + 1) y_Tk_readWord Q 29 [some (.ref 62), some (.int v1), some (.int v2)] (r.toList ++ []) A)) :
    aw_z X (d + 1) y_Tk_readWord Q 26 [some (.ref 62), some (.int v1), some (.int v2)] [.int s0] (aw_s I L D) :=
  (z_callS (av := [.int s0]) (st := []) ok_Tk_isOfWord (Or.inl w_487) w_488 d_Tk_readWord_26 rfl rfl (Nat.le_of_ble_eq_true rfl) (Nat.le_refl _) (Nat.le_refl _) (h1))
theorem d_Tk_readWord_126 : decode y_Tk_readWord.2.1 126 = .ok (.putfield 29, 3) := by decide +kernel
theorem s_Tk_readWord_126 : aw_VS y_Tk_readWord 126 [o_putI 8 6] 129 := .cons (v_putI (k := 6) k_Tk (by decide) rfl (Or.inl ⟨rfl, Or.inl w_352⟩) d_Tk_readWord_126) .nil
theorem b_Tk_readWord_126 {X : aw_X} {d : Nat} {Q : Option Value → aw_H → Prop} {I : Nat → Nat → Int32} {L : Nat → Nat → Int64} {D : Nat → Nat} {s1 : Int32}
    (h1 : Q none (aw_s (aw_u I 62 6 s1) L D)) :
    aw_z X (d + 1) y_Tk_readWord Q 126 [none, none, none] [.int s1, .ref 62] (aw_s I L D) :=
  (s_Tk_readWord_126.go [none, none, none] [] (aw_s (aw_u I 62 6 s1) L D) rfl (z_vret d_Tk_readWord_129 rfl (h1)))
theorem d_Tk_readWord_114 : decode y_Tk_readWord.2.1 114 = .ok (.invokevirtual 89, 3) := by decide +kernel
theorem b_Tk_readWord_114 {X : aw_X} {d : Nat} {Q : Option Value → aw_H → Prop} {I : Nat → Nat → Int32} {L : Nat → Nat → Int64} {D : Nat → Nat} {s1 : Int32}
    (h1 : aw_m X d y_Tk_readLetter [.ref 62, .int s1] (aw_s I L D) (fun r A => aw_z X (d + 1) y_Tk_readWord Q 117 [none, none, none] (r.toList ++ []) A)) :
    aw_z X (d + 1) y_Tk_readWord Q 114 [none, none, none] [.int s1, .ref 62] (aw_s I L D) :=
  (z_callV (av := [.int s1]) (st := []) ok_Tk_readLetter (Or.inl w_504) w_506 w_5 k_Tk d_Tk_readWord_114 rfl (aw_lt (o := 62) rfl) rfl rfl (Nat.le_of_ble_eq_true rfl) (Nat.le_refl _) (Nat.le_refl _) (h1))
theorem d_Tk_readWord_82 : decode y_Tk_readWord.2.1 82 = .ok (.goto (47), 3) := by decide +kernel
theorem b_Tk_readWord_82 {X : aw_X} {d : Nat} {Q : Option Value → aw_H → Prop} {I : Nat → Nat → Int32} {L : Nat → Nat → Int64} {D : Nat → Nat} 
    (h1 : Q none (aw_s I L D)) :
    aw_z X (d + 1) y_Tk_readWord Q 82 [none, none, none] [] (aw_s I L D) :=
  (z_goto (tgt := 129) d_Tk_readWord_82 rfl (z_vret d_Tk_readWord_129 rfl (h1)))
theorem d_Tk_readWord_29 : decode y_Tk_readWord.2.1 29 = .ok (.ifCond .eq (33), 3) := by decide +kernel
theorem d_Tk_readWord_32 : decode y_Tk_readWord.2.1 32 = .ok (.aload_n 0, 1) := by decide +kernel
theorem d_Tk_readWord_33 : decode y_Tk_readWord.2.1 33 = .ok (.getfield 21, 3) := by decide +kernel
theorem d_Tk_readWord_36 : decode y_Tk_readWord.2.1 36 = .ok (.iload_n 2, 1) := by decide +kernel
theorem s_Tk_readWord_32 : aw_VS y_Tk_readWord 32 [o_ald 0, o_getA 8 0, o_ild 2] 37 := .cons (v_aload_n (i := 0) d_Tk_readWord_32 rfl) (.cons (v_getA (k := 0) k_Tk (by decide) rfl (Or.inl w_346) d_Tk_readWord_33) (.cons (v_iload_n (i := 2) d_Tk_readWord_36 rfl) .nil))
theorem d_Tk_readWord_37 : decode y_Tk_readWord.2.1 37 = .ok (.invokevirtual 55, 3) := by decide +kernel
theorem b_Tk_readWord_29 {X : aw_X} {d : Nat} {Q : Option Value → aw_H → Prop} {I : Nat → Nat → Int32} {L : Nat → Nat → Int64} {D : Nat → Nat} {v1 : Int32} {v2 : Int32} {s0 : Int32}
    (h1 : s0 = 0 → aw_z X (d + 1) y_Tk_readWord Q 62 [some (.ref 62), some (.int v1), none] [] (aw_s I L D))
    (h2 : ¬ s0 = 0 → aw_m X d y_Tp_byteAt [.ref 2, .int v2] (aw_s I L D) (fun r A => aw_z X (d + 1) y_Tk_readWord Q 40 [some (.ref 62), some (.int v1), some (.int v2)] (r.toList ++ []) A)) :
    aw_z X (d + 1) y_Tk_readWord Q 29 [some (.ref 62), some (.int v1), some (.int v2)] [.int s0] (aw_s I L D) :=
  (z_if_eq (tgt := 62) d_Tk_readWord_29 rfl (fun q1 => (aw_Z.weak (ls' := [some (.ref 62), some (.int v1), none]) (h1 q1) (Nat.le_of_ble_eq_true rfl) ⟨Or.inr rfl, ⟨Or.inr rfl, ⟨Or.inl rfl, trivial⟩⟩⟩)) (fun q2 => (s_Tk_readWord_32.go [some (.ref 62), some (.int v1), some (.int v2)] [.int v2, .ref 2] (aw_s I L D) rfl (z_callV (av := [.int v2]) (st := []) ok_Tp_byteAt (Or.inl w_480) w_481 w_482 k_Tp d_Tk_readWord_37 rfl (aw_lt (o := 2) rfl) rfl rfl (Nat.le_of_ble_eq_true rfl) (Nat.le_refl _) (Nat.le_refl _) (h2 q2)))))
theorem d_Tk_readWord_117 : decode y_Tk_readWord.2.1 117 = .ok (.goto (12), 3) := by decide +kernel
theorem b_Tk_readWord_117 {X : aw_X} {d : Nat} {Q : Option Value → aw_H → Prop} {I : Nat → Nat → Int32} {L : Nat → Nat → Int64} {D : Nat → Nat} 
    (h1 : Q none (aw_s I L D)) :
    aw_z X (d + 1) y_Tk_readWord Q 117 [none, none, none] [] (aw_s I L D) :=
  (z_goto (tgt := 129) d_Tk_readWord_117 rfl (z_vret d_Tk_readWord_129 rfl (h1)))
theorem d_Tk_readWord_40 : decode y_Tk_readWord.2.1 40 = .ok (.invokestatic 75, 3) := by decide +kernel
theorem b_Tk_readWord_40 {X : aw_X} {d : Nat} {Q : Option Value → aw_H → Prop} {I : Nat → Nat → Int32} {L : Nat → Nat → Int64} {D : Nat → Nat} {v1 : Int32} {v2 : Int32} {s0 : Int32}
    (h1 : aw_m X d y_Tk_isDigit [.int s0] (aw_s I L D) (fun r A => aw_z X (d + 1) y_Tk_readWord Q 43 [some (.ref 62), some (.int v1), some (.int v2)] (r.toList ++ []) A)) :
    aw_z X (d + 1) y_Tk_readWord Q 40 [some (.ref 62), some (.int v1), some (.int v2)] [.int s0] (aw_s I L D) :=
  (z_callS (av := [.int s0]) (st := []) ok_Tk_isDigit (Or.inl w_493) w_494 d_Tk_readWord_40 rfl rfl (Nat.le_of_ble_eq_true rfl) (Nat.le_refl _) (Nat.le_refl _) (h1))
theorem d_Tk_readWord_43 : decode y_Tk_readWord.2.1 43 = .ok (.ifCond .eq (6), 3) := by decide +kernel
theorem d_Tk_readWord_46 : decode y_Tk_readWord.2.1 46 = .ok (.iinc 1 (1), 3) := by decide +kernel
theorem s_Tk_readWord_46 : aw_VS y_Tk_readWord 46 [o_inc 1 (1 : Int32)] 49 := .cons (v_iinc (k0 := (1 : Int32)) d_Tk_readWord_46 (by decide +kernel)) .nil
theorem b_Tk_readWord_43 {X : aw_X} {d : Nat} {Q : Option Value → aw_H → Prop} {I : Nat → Nat → Int32} {L : Nat → Nat → Int64} {D : Nat → Nat} {v1 : Int32} {v2 : Int32} {s0 : Int32}
    (h1 : s0 = 0 → aw_z X (d + 1) y_Tk_readWord Q 49 [some (.ref 62), some (.int v1), some (.int v2)] [] (aw_s I L D))
    (h2 : ¬ s0 = 0 → aw_z X (d + 1) y_Tk_readWord Q 49 [some (.ref 62), some (.int (v1 + (1 : Int32))), some (.int v2)] [] (aw_s I L D)) :
    aw_z X (d + 1) y_Tk_readWord Q 43 [some (.ref 62), some (.int v1), some (.int v2)] [.int s0] (aw_s I L D) :=
  (z_if_eq (tgt := 49) d_Tk_readWord_43 rfl (fun q1 => (h1 q1)) (fun q2 => (s_Tk_readWord_46.go [some (.ref 62), some (.int (v1 + (1 : Int32))), some (.int v2)] [] (aw_s I L D) rfl (h2 q2))))
theorem d_Tk_readWord_49 : decode y_Tk_readWord.2.1 49 = .ok (.aload_n 0, 1) := by decide +kernel
theorem d_Tk_readWord_50 : decode y_Tk_readWord.2.1 50 = .ok (.iload_n 2, 1) := by decide +kernel
theorem d_Tk_readWord_51 : decode y_Tk_readWord.2.1 51 = .ok (.iconst 1, 1) := by decide +kernel
theorem d_Tk_readWord_52 : decode y_Tk_readWord.2.1 52 = .ok (.iadd, 1) := by decide +kernel
theorem d_Tk_readWord_53 : decode y_Tk_readWord.2.1 53 = .ok (.putfield 25, 3) := by decide +kernel
theorem d_Tk_readWord_56 : decode y_Tk_readWord.2.1 56 = .ok (.iinc 2 (1), 3) := by decide +kernel
theorem s_Tk_readWord_49 : aw_VS y_Tk_readWord 49 [o_ald 0, o_ild 2, o_c (.int (1 : Int32)), o_i2 (fun x z => x + z), o_putI 8 4, o_inc 2 (1 : Int32)] 59 := .cons (v_aload_n (i := 0) d_Tk_readWord_49 rfl) (.cons (v_iload_n (i := 2) d_Tk_readWord_50 rfl) (.cons (v_iconst (v := (1 : Int32)) d_Tk_readWord_51 (by decide +kernel)) (.cons (v_iadd d_Tk_readWord_52) (.cons (v_putI (k := 4) k_Tk (by decide) rfl (Or.inl ⟨rfl, Or.inl w_350⟩) d_Tk_readWord_53) (.cons (v_iinc (k0 := (1 : Int32)) d_Tk_readWord_56 (by decide +kernel)) .nil)))))
theorem d_Tk_readWord_59 : decode y_Tk_readWord.2.1 59 = .ok (.goto (-52), 3) := by decide +kernel
theorem b_Tk_readWord_49 {X : aw_X} {d : Nat} {Q : Option Value → aw_H → Prop} {I : Nat → Nat → Int32} {L : Nat → Nat → Int64} {D : Nat → Nat} {v1 : Int32} {v2 : Int32}
    (h1 : aw_z X (d + 1) y_Tk_readWord Q 7 [some (.ref 62), some (.int v1), some (.int (v2 + (1 : Int32)))] [] (aw_s (aw_u I 62 4 (v2 + (1 : Int32))) L D)) :
    aw_z X (d + 1) y_Tk_readWord Q 49 [some (.ref 62), some (.int v1), some (.int v2)] [] (aw_s I L D) :=
  (s_Tk_readWord_49.go [some (.ref 62), some (.int v1), some (.int (v2 + (1 : Int32)))] [] (aw_s (aw_u I 62 4 (v2 + (1 : Int32))) L D) rfl (z_goto (tgt := 7) d_Tk_readWord_59 rfl (h1)))
/-! Tk_readNumber -/
theorem d_Tk_readNumber_0 : decode y_Tk_readNumber.2.1 0 = .ok (.aload_n 0, 1) := by decide +kernel
theorem d_Tk_readNumber_1 : decode y_Tk_readNumber.2.1 1 = .ok (.iload_n 1, 1) := by decide +kernel
theorem d_Tk_readNumber_2 : decode y_Tk_readNumber.2.1 2 = .ok (.iconst 3, 1) := by decide +kernel
theorem s_Tk_readNumber_0 : aw_VS y_Tk_readNumber 0 [o_ald 0, o_ild 1, o_c (.int (3 : Int32))] 3 := .cons (v_aload_n (i := 0) d_Tk_readNumber_0 rfl) (.cons (v_iload_n (i := 1) d_Tk_readNumber_1 rfl) (.cons (v_iconst (v := (3 : Int32)) d_Tk_readNumber_2 (by decide +kernel)) .nil))
theorem d_Tk_readNumber_3 : decode y_Tk_readNumber.2.1 3 = .ok (.if_icmp .gt (7), 3) := by decide +kernel
theorem d_Tk_readNumber_10 : decode y_Tk_readNumber.2.1 10 = .ok (.iconst 0, 1) := by decide +kernel
theorem s_Tk_readNumber_10 : aw_VS y_Tk_readNumber 10 [o_c (.int (0 : Int32))] 11 := .cons (v_iconst (v := (0 : Int32)) d_Tk_readNumber_10 (by decide +kernel)) .nil
theorem d_Tk_readNumber_11 : decode y_Tk_readNumber.2.1 11 = .ok (.putfield 29, 3) := by decide +kernel
theorem d_Tk_readNumber_14 : decode y_Tk_readNumber.2.1 14 = .ok (.iconst 0, 1) := by decide +kernel
theorem d_Tk_readNumber_15 : decode y_Tk_readNumber.2.1 15 = .ok (.istore_n 2, 1) := by decide +kernel
theorem s_Tk_readNumber_11 : aw_VS y_Tk_readNumber 11 [o_putI 8 6, o_c (.int (0 : Int32)), o_ist 2] 16 := .cons (v_putI (k := 6) k_Tk (by decide) rfl (Or.inl ⟨rfl, Or.inl w_352⟩) d_Tk_readNumber_11) (.cons (v_iconst (v := (0 : Int32)) d_Tk_readNumber_14 (by decide +kernel)) (.cons (v_istore_n d_Tk_readNumber_15) .nil))
theorem d_Tk_readNumber_6 : decode y_Tk_readNumber.2.1 6 = .ok (.iconst 4, 1) := by decide +kernel
theorem s_Tk_readNumber_6 : aw_VS y_Tk_readNumber 6 [o_c (.int (4 : Int32))] 7 := .cons (v_iconst (v := (4 : Int32)) d_Tk_readNumber_6 (by decide +kernel)) .nil
theorem d_Tk_readNumber_7 : decode y_Tk_readNumber.2.1 7 = .ok (.goto (4), 3) := by decide +kernel
theorem b_Tk_readNumber_0 {X : aw_X} {d : Nat} {Q : Option Value → aw_H → Prop} {I : Nat → Nat → Int32} {L : Nat → Nat → Int64} {D : Nat → Nat} {v1 : Int32}
    (h1 : (3 : Int32) < v1 → aw_z X (d + 1) y_Tk_readNumber Q 16 [some (.ref 62), some (.int v1), some (.int (0 : Int32))] [] (aw_s (aw_u I 62 6 (0 : Int32)) L D))
    (h2 : ¬ (3 : Int32) < v1 → aw_z X (d + 1) y_Tk_readNumber Q 16 [some (.ref 62), some (.int v1), some (.int (0 : Int32))] [] (aw_s (aw_u I 62 6 (4 : Int32)) L D)) :
    aw_z X (d + 1) y_Tk_readNumber Q 0 [some (.ref 62), some (.int v1), none] [] (aw_s I L D) :=
  (s_Tk_readNumber_0.go [some (.ref 62), some (.int v1), none] [.int (3 : Int32), .int v1, .ref 62] (aw_s I L D) rfl (z_icmp_gt (tgt := 10) d_Tk_readNumber_3 rfl (fun q1 => (s_Tk_readNumber_10.go [some (.ref 62), some (.int v1), none] [.int (0 : Int32), .ref 62] (aw_s I L D) rfl (s_Tk_readNumber_11.go [some (.ref 62), some (.int v1), some (.int (0 : Int32))] [] (aw_s (aw_u I 62 6 (0 : Int32)) L D) rfl (h1 q1)))) (fun q2 => (s_Tk_readNumber_6.go [some (.ref 62), some (.int v1), none] [.int (4 : Int32), .ref 62] (aw_s I L D) rfl (z_goto (tgt := 11) d_Tk_readNumber_7 rfl (s_Tk_readNumber_11.go [some (.ref 62), some (.int v1), some (.int (0 : Int32))] [] (aw_s (aw_u I 62 6 (4 : Int32)) L D) rfl (h2 q2)))))))
theorem d_Tk_readNumber_16 : decode y_Tk_readNumber.2.1 16 = .ok (.iload_n 2, 1) := by decide +kernel
theorem d_Tk_readNumber_17 : decode y_Tk_readNumber.2.1 17 = .ok (.iload_n 1, 1) := by decide +kernel
theorem s_Tk_readNumber_16 : aw_VS y_Tk_readNumber 16 [o_ild 2, o_ild 1] 18 := .cons (v_iload_n (i := 2) d_Tk_readNumber_16 rfl) (.cons (v_iload_n (i := 1) d_Tk_readNumber_17 rfl) .nil)
theorem d_Tk_readNumber_18 : decode y_Tk_readNumber.2.1 18 = .ok (.if_icmp .ge (42), 3) := by decide +kernel
theorem d_Tk_readNumber_60 : decode y_Tk_readNumber.2.1 60 = .ok (.return_, 1) := by decide +kernel
theorem d_Tk_readNumber_21 : decode y_Tk_readNumber.2.1 21 = .ok (.iload_n 2, 1) := by decide +kernel
theorem d_Tk_readNumber_22 : decode y_Tk_readNumber.2.1 22 = .ok (.iconst 3, 1) := by decide +kernel
theorem s_Tk_readNumber_21 : aw_VS y_Tk_readNumber 21 [o_ild 2, o_c (.int (3 : Int32))] 23 := .cons (v_iload_n (i := 2) d_Tk_readNumber_21 rfl) (.cons (v_iconst (v := (3 : Int32)) d_Tk_readNumber_22 (by decide +kernel)) .nil)
theorem d_Tk_readNumber_23 : decode y_Tk_readNumber.2.1 23 = .ok (.if_icmp .ge (37), 3) := by decide +kernel
theorem d_Tk_readNumber_26 : decode y_Tk_readNumber.2.1 26 = .ok (.aload_n 0, 1) := by decide +kernel
theorem d_Tk_readNumber_27 : decode y_Tk_readNumber.2.1 27 = .ok (.bipush 10, 2) := by decide +kernel
theorem d_Tk_readNumber_29 : decode y_Tk_readNumber.2.1 29 = .ok (.aload_n 0, 1) := by decide +kernel
theorem d_Tk_readNumber_30 : decode y_Tk_readNumber.2.1 30 = .ok (.getfield 38, 3) := by decide +kernel
theorem d_Tk_readNumber_33 : decode y_Tk_readNumber.2.1 33 = .ok (.imul, 1) := by decide +kernel
theorem d_Tk_readNumber_34 : decode y_Tk_readNumber.2.1 34 = .ok (.aload_n 0, 1) := by decide +kernel
theorem d_Tk_readNumber_35 : decode y_Tk_readNumber.2.1 35 = .ok (.getfield 21, 3) := by decide +kernel
theorem d_Tk_readNumber_38 : decode y_Tk_readNumber.2.1 38 = .ok (.aload_n 0, 1) := by decide +kernel
theorem d_Tk_readNumber_39 : decode y_Tk_readNumber.2.1 39 = .ok (.getfield 35, 3) := by decide +kernel
theorem d_Tk_readNumber_42 : decode y_Tk_readNumber.2.1 42 = .ok (.iload_n 2, 1) := by decide +kernel
theorem d_Tk_readNumber_43 : decode y_Tk_readNumber.2.1 43 = .ok (.iadd, 1) := by decide +kernel
theorem s_Tk_readNumber_26 : aw_VS y_Tk_readNumber 26 [o_ald 0, o_c (.int (10 : Int32)), o_ald 0, o_getI 8 8, o_i2 (fun x z => x * z), o_ald 0, o_getA 8 0, o_ald 0, o_getI 8 7, o_ild 2, o_i2 (fun x z => x + z)] 44 := .cons (v_aload_n (i := 0) d_Tk_readNumber_26 rfl) (.cons (v_bipush (v := (10 : Int32)) d_Tk_readNumber_27 (by decide +kernel)) (.cons (v_aload_n (i := 0) d_Tk_readNumber_29 rfl) (.cons (v_getI (k := 8) k_Tk (by decide) (Or.inl rfl) (Or.inl w_356) d_Tk_readNumber_30) (.cons (v_imul d_Tk_readNumber_33) (.cons (v_aload_n (i := 0) d_Tk_readNumber_34 rfl) (.cons (v_getA (k := 0) k_Tk (by decide) rfl (Or.inl w_346) d_Tk_readNumber_35) (.cons (v_aload_n (i := 0) d_Tk_readNumber_38 rfl) (.cons (v_getI (k := 7) k_Tk (by decide) (Or.inl rfl) (Or.inl w_354) d_Tk_readNumber_39) (.cons (v_iload_n (i := 2) d_Tk_readNumber_42 rfl) (.cons (v_iadd d_Tk_readNumber_43) .nil))))))))))
theorem d_Tk_readNumber_44 : decode y_Tk_readNumber.2.1 44 = .ok (.invokevirtual 55, 3) := by decide +kernel
theorem b_Tk_readNumber_16 {X : aw_X} {d : Nat} {Q : Option Value → aw_H → Prop} {I : Nat → Nat → Int32} {L : Nat → Nat → Int64} {D : Nat → Nat} {v1 : Int32} {v2 : Int32}
    (h1 : v1 ≤ v2 → Q none (aw_s I L D))
    (h2 : ¬ v1 ≤ v2 → (3 : Int32) ≤ v2 → Q none (aw_s I L D))
    (h3 : ¬ v1 ≤ v2 → ¬ (3 : Int32) ≤ v2 → aw_m X d y_Tp_byteAt [.ref 2, .int ((I 62 7) + v2)] (aw_s I L D) (fun r A => aw_z X (d + 1) y_Tk_readNumber Q 47 [some (.ref 62), some (.int v1), some (.int v2)] (r.toList ++ [.int ((10 : Int32) * (I 62 8)), .ref 62]) A)) :
    aw_z X (d + 1) y_Tk_readNumber Q 16 [some (.ref 62), some (.int v1), some (.int v2)] [] (aw_s I L D) :=
  (s_Tk_readNumber_16.go [some (.ref 62), some (.int v1), some (.int v2)] [.int v1, .int v2] (aw_s I L D) rfl (z_icmp_ge (tgt := 60) d_Tk_readNumber_18 rfl (fun q1 => (z_vret d_Tk_readNumber_60 rfl (h1 q1))) (fun q2 => (s_Tk_readNumber_21.go [some (.ref 62), some (.int v1), some (.int v2)] [.int (3 : Int32), .int v2] (aw_s I L D) rfl (z_icmp_ge (tgt := 60) d_Tk_readNumber_23 rfl (fun q3 => (z_vret d_Tk_readNumber_60 rfl (h2 q2 q3))) (fun q4 => (s_Tk_readNumber_26.go [some (.ref 62), some (.int v1), some (.int v2)] [.int ((I 62 7) + v2), .ref 2, .int ((10 : Int32) * (I 62 8)), .ref 62] (aw_s I L D) rfl (z_callV (av := [.int ((I 62 7) + v2)]) (st := [.int ((10 : Int32) * (I 62 8)), .ref 62]) ok_Tp_byteAt (Or.inl w_480) w_481 w_482 k_Tp d_Tk_readNumber_44 rfl (aw_lt (o := 2) rfl) rfl rfl (Nat.le_of_ble_eq_true rfl) (Nat.le_refl _) (Nat.le_refl _) (h3 q2 q4)))))))))
theorem d_Tk_readNumber_47 : decode y_Tk_readNumber.2.1 47 = .ok (.iadd, 1) := by decide +kernel
theorem d_Tk_readNumber_48 : decode y_Tk_readNumber.2.1 48 = .ok (.bipush 48, 2) := by decide +kernel
theorem d_Tk_readNumber_50 : decode y_Tk_readNumber.2.1 50 = .ok (.isub, 1) := by decide +kernel
theorem d_Tk_readNumber_51 : decode y_Tk_readNumber.2.1 51 = .ok (.putfield 38, 3) := by decide +kernel
theorem d_Tk_readNumber_54 : decode y_Tk_readNumber.2.1 54 = .ok (.iinc 2 (1), 3) := by decide +kernel
theorem s_Tk_readNumber_47 : aw_VS y_Tk_readNumber 47 [o_i2 (fun x z => x + z), o_c (.int (48 : Int32)), o_i2 (fun x z => x - z), o_putI 8 8, o_inc 2 (1 : Int32)] 57 := .cons (v_iadd d_Tk_readNumber_47) (.cons (v_bipush (v := (48 : Int32)) d_Tk_readNumber_48 (by decide +kernel)) (.cons (v_isub d_Tk_readNumber_50) (.cons (v_putI (k := 8) k_Tk (by decide) rfl (Or.inl ⟨rfl, Or.inl w_356⟩) d_Tk_readNumber_51) (.cons (v_iinc (k0 := (1 : Int32)) d_Tk_readNumber_54 (by decide +kernel)) .nil))))
theorem d_Tk_readNumber_57 : decode y_Tk_readNumber.2.1 57 = .ok (.goto (-41), 3) := by decide +kernel
theorem b_Tk_readNumber_47 {X : aw_X} {d : Nat} {Q : Option Value → aw_H → Prop} {I : Nat → Nat → Int32} {L : Nat → Nat → Int64} {D : Nat → Nat} {v1 : Int32} {v2 : Int32} {s2 : Int32} {s1 : Int32}
    (h1 : aw_z X (d + 1) y_Tk_readNumber Q 16 [some (.ref 62), some (.int v1), some (.int (v2 + (1 : Int32)))] [] (aw_s (aw_u I 62 8 ((s1 + s2) - (48 : Int32))) L D)) :
    aw_z X (d + 1) y_Tk_readNumber Q 47 [some (.ref 62), some (.int v1), some (.int v2)] [.int s2, .int s1, .ref 62] (aw_s I L D) :=
  (s_Tk_readNumber_47.go [some (.ref 62), some (.int v1), some (.int (v2 + (1 : Int32)))] [] (aw_s (aw_u I 62 8 ((s1 + s2) - (48 : Int32))) L D) rfl (z_goto (tgt := 16) d_Tk_readNumber_57 rfl (h1)))
/-! Tk_readLetter -/
theorem d_Tk_readLetter_0 : decode y_Tk_readLetter.2.1 0 = .ok (.aload_n 0, 1) := by decide +kernel
theorem d_Tk_readLetter_1 : decode y_Tk_readLetter.2.1 1 = .ok (.iconst 0, 1) := by decide +kernel
theorem d_Tk_readLetter_2 : decode y_Tk_readLetter.2.1 2 = .ok (.putfield 29, 3) := by decide +kernel
theorem d_Tk_readLetter_5 : decode y_Tk_readLetter.2.1 5 = .ok (.iload_n 1, 1) := by decide +kernel
theorem d_Tk_readLetter_6 : decode y_Tk_readLetter.2.1 6 = .ok (.bipush 97, 2) := by decide +kernel
theorem s_Tk_readLetter_0 : aw_VS y_Tk_readLetter 0 [o_ald 0, o_c (.int (0 : Int32)), o_putI 8 6, o_ild 1, o_c (.int (97 : Int32))] 8 := .cons (v_aload_n (i := 0) d_Tk_readLetter_0 rfl) (.cons (v_iconst (v := (0 : Int32)) d_Tk_readLetter_1 (by decide +kernel)) (.cons (v_putI (k := 6) k_Tk (by decide) rfl (Or.inl ⟨rfl, Or.inl w_352⟩) d_Tk_readLetter_2) (.cons (v_iload_n (i := 1) d_Tk_readLetter_5 rfl) (.cons (v_bipush (v := (97 : Int32)) d_Tk_readLetter_6 (by decide +kernel)) .nil))))
theorem d_Tk_readLetter_8 : decode y_Tk_readLetter.2.1 8 = .ok (.if_icmp .lt (25), 3) := by decide +kernel
theorem d_Tk_readLetter_11 : decode y_Tk_readLetter.2.1 11 = .ok (.iload_n 1, 1) := by decide +kernel
theorem d_Tk_readLetter_12 : decode y_Tk_readLetter.2.1 12 = .ok (.bipush 104, 2) := by decide +kernel
theorem s_Tk_readLetter_11 : aw_VS y_Tk_readLetter 11 [o_ild 1, o_c (.int (104 : Int32))] 14 := .cons (v_iload_n (i := 1) d_Tk_readLetter_11 rfl) (.cons (v_bipush (v := (104 : Int32)) d_Tk_readLetter_12 (by decide +kernel)) .nil)
theorem d_Tk_readLetter_14 : decode y_Tk_readLetter.2.1 14 = .ok (.if_icmp .gt (19), 3) := by decide +kernel
theorem d_Tk_readLetter_17 : decode y_Tk_readLetter.2.1 17 = .ok (.aload_n 0, 1) := by decide +kernel
theorem d_Tk_readLetter_18 : decode y_Tk_readLetter.2.1 18 = .ok (.iconst 2, 1) := by decide +kernel
theorem d_Tk_readLetter_19 : decode y_Tk_readLetter.2.1 19 = .ok (.putfield 29, 3) := by decide +kernel
theorem d_Tk_readLetter_22 : decode y_Tk_readLetter.2.1 22 = .ok (.aload_n 0, 1) := by decide +kernel
theorem d_Tk_readLetter_23 : decode y_Tk_readLetter.2.1 23 = .ok (.iload_n 1, 1) := by decide +kernel
theorem d_Tk_readLetter_24 : decode y_Tk_readLetter.2.1 24 = .ok (.bipush 97, 2) := by decide +kernel
theorem d_Tk_readLetter_26 : decode y_Tk_readLetter.2.1 26 = .ok (.isub, 1) := by decide +kernel
theorem d_Tk_readLetter_27 : decode y_Tk_readLetter.2.1 27 = .ok (.putfield 38, 3) := by decide +kernel
theorem s_Tk_readLetter_17 : aw_VS y_Tk_readLetter 17 [o_ald 0, o_c (.int (2 : Int32)), o_putI 8 6, o_ald 0, o_ild 1, o_c (.int (97 : Int32)), o_i2 (fun x z => x - z), o_putI 8 8] 30 := .cons (v_aload_n (i := 0) d_Tk_readLetter_17 rfl) (.cons (v_iconst (v := (2 : Int32)) d_Tk_readLetter_18 (by decide +kernel)) (.cons (v_putI (k := 6) k_Tk (by decide) rfl (Or.inl ⟨rfl, Or.inl w_352⟩) d_Tk_readLetter_19) (.cons (v_aload_n (i := 0) d_Tk_readLetter_22 rfl) (.cons (v_iload_n (i := 1) d_Tk_readLetter_23 rfl) (.cons (v_bipush (v := (97 : Int32)) d_Tk_readLetter_24 (by decide +kernel)) (.cons (v_isub d_Tk_readLetter_26) (.cons (v_putI (k := 8) k_Tk (by decide) rfl (Or.inl ⟨rfl, Or.inl w_356⟩) d_Tk_readLetter_27) .nil)))))))
theorem d_Tk_readLetter_30 : decode y_Tk_readLetter.2.1 30 = .ok (.goto (28), 3) := by decide +kernel
theorem d_Tk_readLetter_58 : decode y_Tk_readLetter.2.1 58 = .ok (.return_, 1) := by decide +kernel
theorem b_Tk_readLetter_0 {X : aw_X} {d : Nat} {Q : Option Value → aw_H → Prop} {I : Nat → Nat → Int32} {L : Nat → Nat → Int64} {D : Nat → Nat} {v1 : Int32}
    (h1 : v1 < (97 : Int32) → aw_z X d y_Tk_readLetter Q 33 [some (.ref 62), some (.int v1)] [] (aw_s (aw_u I 62 6 (0 : Int32)) L D))
    (h2 : ¬ v1 < (97 : Int32) → (104 : Int32) < v1 → aw_z X d y_Tk_readLetter Q 33 [some (.ref 62), some (.int v1)] [] (aw_s (aw_u I 62 6 (0 : Int32)) L D))
    (h3 : ¬ v1 < (97 : Int32) → ¬ (104 : Int32) < v1 → Q none (aw_s (aw_u (aw_u (aw_u I 62 6 (0 : Int32)) 62 6 (2 : Int32)) 62 8 (v1 - (97 : Int32))) L D)) :
    aw_z X d y_Tk_readLetter Q 0 [some (.ref 62), some (.int v1)] [] (aw_s I L D) :=
  (s_Tk_readLetter_0.go [some (.ref 62), some (.int v1)] [.int (97 : Int32), .int v1] (aw_s (aw_u I 62 6 (0 : Int32)) L D) rfl (z_icmp_lt (tgt := 33) d_Tk_readLetter_8 rfl (fun q1 => (h1 q1)) (fun q2 => (s_Tk_readLetter_11.go [some (.ref 62), some (.int v1)] [.int (104 : Int32), .int v1] (aw_s (aw_u I 62 6 (0 : Int32)) L D) rfl (z_icmp_gt (tgt := 33) d_Tk_readLetter_14 rfl (fun q3 => (h2 q2 q3)) (fun q4 => (s_Tk_readLetter_17.go [some (.ref 62), some (.int v1)] [] (aw_s (aw_u (aw_u (aw_u I 62 6 (0 : Int32)) 62 6 (2 : Int32)) 62 8 (v1 - (97 : Int32))) L D) rfl (z_goto (tgt := 58) d_Tk_readLetter_30 rfl (z_vret d_Tk_readLetter_58 rfl (h3 q2 q4))))))))))
theorem d_Tk_readLetter_33 : decode y_Tk_readLetter.2.1 33 = .ok (.iload_n 1, 1) := by decide +kernel
theorem d_Tk_readLetter_34 : decode y_Tk_readLetter.2.1 34 = .ok (.bipush 112, 2) := by decide +kernel
theorem s_Tk_readLetter_33 : aw_VS y_Tk_readLetter 33 [o_ild 1, o_c (.int (112 : Int32))] 36 := .cons (v_iload_n (i := 1) d_Tk_readLetter_33 rfl) (.cons (v_bipush (v := (112 : Int32)) d_Tk_readLetter_34 (by decide +kernel)) .nil)
theorem d_Tk_readLetter_36 : decode y_Tk_readLetter.2.1 36 = .ok (.if_icmp .lt (22), 3) := by decide +kernel
theorem d_Tk_readLetter_39 : decode y_Tk_readLetter.2.1 39 = .ok (.iload_n 1, 1) := by decide +kernel
theorem d_Tk_readLetter_40 : decode y_Tk_readLetter.2.1 40 = .ok (.bipush 115, 2) := by decide +kernel
theorem s_Tk_readLetter_39 : aw_VS y_Tk_readLetter 39 [o_ild 1, o_c (.int (115 : Int32))] 42 := .cons (v_iload_n (i := 1) d_Tk_readLetter_39 rfl) (.cons (v_bipush (v := (115 : Int32)) d_Tk_readLetter_40 (by decide +kernel)) .nil)
theorem d_Tk_readLetter_42 : decode y_Tk_readLetter.2.1 42 = .ok (.if_icmp .gt (16), 3) := by decide +kernel
theorem d_Tk_readLetter_45 : decode y_Tk_readLetter.2.1 45 = .ok (.aload_n 0, 1) := by decide +kernel
theorem d_Tk_readLetter_46 : decode y_Tk_readLetter.2.1 46 = .ok (.iconst 3, 1) := by decide +kernel
theorem d_Tk_readLetter_47 : decode y_Tk_readLetter.2.1 47 = .ok (.putfield 29, 3) := by decide +kernel
theorem d_Tk_readLetter_50 : decode y_Tk_readLetter.2.1 50 = .ok (.aload_n 0, 1) := by decide +kernel
theorem d_Tk_readLetter_51 : decode y_Tk_readLetter.2.1 51 = .ok (.iload_n 1, 1) := by decide +kernel
theorem d_Tk_readLetter_52 : decode y_Tk_readLetter.2.1 52 = .ok (.bipush 112, 2) := by decide +kernel
theorem d_Tk_readLetter_54 : decode y_Tk_readLetter.2.1 54 = .ok (.isub, 1) := by decide +kernel
theorem d_Tk_readLetter_55 : decode y_Tk_readLetter.2.1 55 = .ok (.putfield 38, 3) := by decide +kernel
theorem s_Tk_readLetter_45 : aw_VS y_Tk_readLetter 45 [o_ald 0, o_c (.int (3 : Int32)), o_putI 8 6, o_ald 0, o_ild 1, o_c (.int (112 : Int32)), o_i2 (fun x z => x - z), o_putI 8 8] 58 := .cons (v_aload_n (i := 0) d_Tk_readLetter_45 rfl) (.cons (v_iconst (v := (3 : Int32)) d_Tk_readLetter_46 (by decide +kernel)) (.cons (v_putI (k := 6) k_Tk (by decide) rfl (Or.inl ⟨rfl, Or.inl w_352⟩) d_Tk_readLetter_47) (.cons (v_aload_n (i := 0) d_Tk_readLetter_50 rfl) (.cons (v_iload_n (i := 1) d_Tk_readLetter_51 rfl) (.cons (v_bipush (v := (112 : Int32)) d_Tk_readLetter_52 (by decide +kernel)) (.cons (v_isub d_Tk_readLetter_54) (.cons (v_putI (k := 8) k_Tk (by decide) rfl (Or.inl ⟨rfl, Or.inl w_356⟩) d_Tk_readLetter_55) .nil)))))))
theorem b_Tk_readLetter_33 {X : aw_X} {d : Nat} {Q : Option Value → aw_H → Prop} {I : Nat → Nat → Int32} {L : Nat → Nat → Int64} {D : Nat → Nat} {v1 : Int32}
    (h1 : v1 < (112 : Int32) → Q none (aw_s I L D))
    (h2 : ¬ v1 < (112 : Int32) → (115 : Int32) < v1 → Q none (aw_s I L D))
    (h3 : ¬ v1 < (112 : Int32) → ¬ (115 : Int32) < v1 → Q none (aw_s (aw_u (aw_u I 62 6 (3 : Int32)) 62 8 (v1 - (112 : Int32))) L D)) :
    aw_z X d y_Tk_readLetter Q 33 [some (.ref 62), some (.int v1)] [] (aw_s I L D) :=
  (s_Tk_readLetter_33.go [some (.ref 62), some (.int v1)] [.int (112 : Int32), .int v1] (aw_s I L D) rfl (z_icmp_lt (tgt := 58) d_Tk_readLetter_36 rfl (fun q1 => (z_vret d_Tk_readLetter_58 rfl (h1 q1))) (fun q2 => (s_Tk_readLetter_39.go [some (.ref 62), some (.int v1)] [.int (115 : Int32), .int v1] (aw_s I L D) rfl (z_icmp_gt (tgt := 58) d_Tk_readLetter_42 rfl (fun q3 => (z_vret d_Tk_readLetter_58 rfl (h2 q2 q3))) (fun q4 => (s_Tk_readLetter_45.go [some (.ref 62), some (.int v1)] [] (aw_s (aw_u (aw_u I 62 6 (3 : Int32)) 62 8 (v1 - (112 : Int32))) L D) rfl (z_vret d_Tk_readLetter_58 rfl (h3 q2 q4)))))))))
/-! Tk_kindOfWord -/
theorem d_Tk_kindOfWord_0 : decode y_Tk_kindOfWord.2.1 0 = .ok (.iload_n 1, 1) := by decide +kernel
theorem d_Tk_kindOfWord_1 : decode y_Tk_kindOfWord.2.1 1 = .ok (.iconst 5, 1) := by decide +kernel
theorem s_Tk_kindOfWord_0 : aw_VS y_Tk_kindOfWord 0 [o_ild 1, o_c (.int (5 : Int32))] 2 := .cons (v_iload_n (i := 1) d_Tk_kindOfWord_0 rfl) (.cons (v_iconst (v := (5 : Int32)) d_Tk_kindOfWord_1 (by decide +kernel)) .nil)
theorem d_Tk_kindOfWord_2 : decode y_Tk_kindOfWord.2.1 2 = .ok (.if_icmp .le (5), 3) := by decide +kernel
theorem d_Tk_kindOfWord_7 : decode y_Tk_kindOfWord.2.1 7 = .ok (.iconst 5, 1) := by decide +kernel
theorem d_Tk_kindOfWord_8 : decode y_Tk_kindOfWord.2.1 8 = .ok (.istore_n 2, 1) := by decide +kernel
theorem s_Tk_kindOfWord_7 : aw_VS y_Tk_kindOfWord 7 [o_c (.int (5 : Int32)), o_ist 2] 9 := .cons (v_iconst (v := (5 : Int32)) d_Tk_kindOfWord_7 (by decide +kernel)) (.cons (v_istore_n d_Tk_kindOfWord_8) .nil)
theorem d_Tk_kindOfWord_5 : decode y_Tk_kindOfWord.2.1 5 = .ok (.iconst 0, 1) := by decide +kernel
theorem s_Tk_kindOfWord_5 : aw_VS y_Tk_kindOfWord 5 [o_c (.int (0 : Int32))] 6 := .cons (v_iconst (v := (0 : Int32)) d_Tk_kindOfWord_5 (by decide +kernel)) .nil
theorem d_Tk_kindOfWord_6 : decode y_Tk_kindOfWord.2.1 6 = .ok (.ireturn, 1) := by decide +kernel
theorem b_Tk_kindOfWord_0 {X : aw_X} {d : Nat} {Q : Option Value → aw_H → Prop} {I : Nat → Nat → Int32} {L : Nat → Nat → Int64} {D : Nat → Nat} {v1 : Int32}
    (h1 : v1 ≤ (5 : Int32) → aw_z X (d + 1) y_Tk_kindOfWord Q 9 [some (.ref 62), some (.int v1), some (.int (5 : Int32))] [] (aw_s I L D))
    (h2 : ¬ v1 ≤ (5 : Int32) → Q (some (.int (0 : Int32))) (aw_s I L D)) :
    aw_z X (d + 1) y_Tk_kindOfWord Q 0 [some (.ref 62), some (.int v1), none] [] (aw_s I L D) :=
  (s_Tk_kindOfWord_0.go [some (.ref 62), some (.int v1), none] [.int (5 : Int32), .int v1] (aw_s I L D) rfl (z_icmp_le (tgt := 7) d_Tk_kindOfWord_2 rfl (fun q1 => (s_Tk_kindOfWord_7.go [some (.ref 62), some (.int v1), some (.int (5 : Int32))] [] (aw_s I L D) rfl (h1 q1))) (fun q2 => (s_Tk_kindOfWord_5.go [some (.ref 62), some (.int v1), none] [.int (0 : Int32)] (aw_s I L D) rfl (z_iret d_Tk_kindOfWord_6 rfl rfl (h2 q2))))))
theorem d_Tk_kindOfWord_9 : decode y_Tk_kindOfWord.2.1 9 = .ok (.iload_n 2, 1) := by decide +kernel
theorem d_Tk_kindOfWord_10 : decode y_Tk_kindOfWord.2.1 10 = .ok (.bipush 16, 2) := by decide +kernel
theorem s_Tk_kindOfWord_9 : aw_VS y_Tk_kindOfWord 9 [o_ild 2, o_c (.int (16 : Int32))] 12 := .cons (v_iload_n (i := 2) d_Tk_kindOfWord_9 rfl) (.cons (v_bipush (v := (16 : Int32)) d_Tk_kindOfWord_10 (by decide +kernel)) .nil)
theorem d_Tk_kindOfWord_12 : decode y_Tk_kindOfWord.2.1 12 = .ok (.if_icmp .gt (24), 3) := by decide +kernel
theorem d_Tk_kindOfWord_36 : decode y_Tk_kindOfWord.2.1 36 = .ok (.iconst 0, 1) := by decide +kernel
theorem s_Tk_kindOfWord_36 : aw_VS y_Tk_kindOfWord 36 [o_c (.int (0 : Int32))] 37 := .cons (v_iconst (v := (0 : Int32)) d_Tk_kindOfWord_36 (by decide +kernel)) .nil
theorem d_Tk_kindOfWord_37 : decode y_Tk_kindOfWord.2.1 37 = .ok (.ireturn, 1) := by decide +kernel
theorem d_Tk_kindOfWord_15 : decode y_Tk_kindOfWord.2.1 15 = .ok (.aload_n 0, 1) := by decide +kernel
theorem d_Tk_kindOfWord_16 : decode y_Tk_kindOfWord.2.1 16 = .ok (.iload_n 1, 1) := by decide +kernel
theorem d_Tk_kindOfWord_17 : decode y_Tk_kindOfWord.2.1 17 = .ok (.iload_n 2, 1) := by decide +kernel
theorem d_Tk_kindOfWord_18 : decode y_Tk_kindOfWord.2.1 18 = .ok (.iconst 5, 1) := by decide +kernel
theorem d_Tk_kindOfWord_19 : decode y_Tk_kindOfWord.2.1 19 = .ok (.isub, 1) := by decide +kernel
theorem d_Tk_kindOfWord_20 : decode y_Tk_kindOfWord.2.1 20 = .ok (.iconst 5, 1) := by decide +kernel
theorem d_Tk_kindOfWord_21 : decode y_Tk_kindOfWord.2.1 21 = .ok (.imul, 1) := by decide +kernel
theorem s_Tk_kindOfWord_15 : aw_VS y_Tk_kindOfWord 15 [o_ald 0, o_ild 1, o_ild 2, o_c (.int (5 : Int32)), o_i2 (fun x z => x - z), o_c (.int (5 : Int32)), o_i2 (fun x z => x * z)] 22 := .cons (v_aload_n (i := 0) d_Tk_kindOfWord_15 rfl) (.cons (v_iload_n (i := 1) d_Tk_kindOfWord_16 rfl) (.cons (v_iload_n (i := 2) d_Tk_kindOfWord_17 rfl) (.cons (v_iconst (v := (5 : Int32)) d_Tk_kindOfWord_18 (by decide +kernel)) (.cons (v_isub d_Tk_kindOfWord_19) (.cons (v_iconst (v := (5 : Int32)) d_Tk_kindOfWord_20 (by decide +kernel)) (.cons (v_imul d_Tk_kindOfWord_21) .nil))))))
theorem d_Tk_kindOfWord_22 : decode y_Tk_kindOfWord.2.1 22 = .ok (.invokevirtual 95, 3) := by decide +kernel
theorem b_Tk_kindOfWord_9 {X : aw_X} {d : Nat} {Q : Option Value → aw_H → Prop} {I : Nat → Nat → Int32} {L : Nat → Nat → Int64} {D : Nat → Nat} {v1 : Int32} {v2 : Int32}
    (h1 : (16 : Int32) < v2 → Q (some (.int (0 : Int32))) (aw_s I L D))
    (h2 : ¬ (16 : Int32) < v2 → aw_m X d y_Tk_isWord [.ref 62, .int v1, .int ((v2 - (5 : Int32)) * (5 : Int32))] (aw_s I L D) (fun r A => aw_z X (d + 1) y_Tk_kindOfWord Q 25 [some (.ref 62), some (.int v1), some (.int v2)] (r.toList ++ []) A)) :
    aw_z X (d + 1) y_Tk_kindOfWord Q 9 [some (.ref 62), some (.int v1), some (.int v2)] [] (aw_s I L D) :=
  (s_Tk_kindOfWord_9.go [some (.ref 62), some (.int v1), some (.int v2)] [.int (16 : Int32), .int v2] (aw_s I L D) rfl (z_icmp_gt (tgt := 36) d_Tk_kindOfWord_12 rfl (fun q1 => (s_Tk_kindOfWord_36.go [some (.ref 62), some (.int v1), some (.int v2)] [.int (0 : Int32)] (aw_s I L D) rfl (z_iret d_Tk_kindOfWord_37 rfl rfl (h1 q1)))) (fun q2 => (s_Tk_kindOfWord_15.go [some (.ref 62), some (.int v1), some (.int v2)] [.int ((v2 - (5 : Int32)) * (5 : Int32)), .int v1, .ref 62] (aw_s I L D) rfl (z_callV (av := [.int v1, .int ((v2 - (5 : Int32)) * (5 : Int32))]) (st := []) ok_Tk_isWord (Or.inl w_512) w_514 w_7 k_Tk d_Tk_kindOfWord_22 rfl (aw_lt (o := 62) rfl) rfl rfl (Nat.le_of_ble_eq_true rfl) (Nat.le_refl _) (Nat.le_refl _) (h2 q2))))))
theorem d_Tk_kindOfWord_25 : decode y_Tk_kindOfWord.2.1 25 = .ok (.ifCond .eq (5), 3) := by decide +kernel
theorem d_Tk_kindOfWord_30 : decode y_Tk_kindOfWord.2.1 30 = .ok (.iinc 2 (1), 3) := by decide +kernel
theorem s_Tk_kindOfWord_30 : aw_VS y_Tk_kindOfWord 30 [o_inc 2 (1 : Int32)] 33 := .cons (v_iinc (k0 := (1 : Int32)) d_Tk_kindOfWord_30 (by decide +kernel)) .nil
theorem d_Tk_kindOfWord_33 : decode y_Tk_kindOfWord.2.1 33 = .ok (.goto (-24), 3) := by decide +kernel
theorem d_Tk_kindOfWord_28 : decode y_Tk_kindOfWord.2.1 28 = .ok (.iload_n 2, 1) := by decide +kernel
theorem s_Tk_kindOfWord_28 : aw_VS y_Tk_kindOfWord 28 [o_ild 2] 29 := .cons (v_iload_n (i := 2) d_Tk_kindOfWord_28 rfl) .nil
theorem d_Tk_kindOfWord_29 : decode y_Tk_kindOfWord.2.1 29 = .ok (.ireturn, 1) := by decide +kernel
theorem b_Tk_kindOfWord_25 {X : aw_X} {d : Nat} {Q : Option Value → aw_H → Prop} {I : Nat → Nat → Int32} {L : Nat → Nat → Int64} {D : Nat → Nat} {v1 : Int32} {v2 : Int32} {s0 : Int32}
    (h1 : s0 = 0 → aw_z X (d + 1) y_Tk_kindOfWord Q 9 [some (.ref 62), some (.int v1), some (.int (v2 + (1 : Int32)))] [] (aw_s I L D))
    (h2 : ¬ s0 = 0 → Q (some (.int v2)) (aw_s I L D)) :
    aw_z X (d + 1) y_Tk_kindOfWord Q 25 [some (.ref 62), some (.int v1), some (.int v2)] [.int s0] (aw_s I L D) :=
  (z_if_eq (tgt := 30) d_Tk_kindOfWord_25 rfl (fun q1 => (s_Tk_kindOfWord_30.go [some (.ref 62), some (.int v1), some (.int (v2 + (1 : Int32)))] [] (aw_s I L D) rfl (z_goto (tgt := 9) d_Tk_kindOfWord_33 rfl (h1 q1)))) (fun q2 => (s_Tk_kindOfWord_28.go [some (.ref 62), some (.int v1), some (.int v2)] [.int v2] (aw_s I L D) rfl (z_iret d_Tk_kindOfWord_29 rfl rfl (h2 q2)))))
/-! Tk_advance -/
theorem d_Tk_advance_0 : decode y_Tk_advance.2.1 0 = .ok (.aload_n 0, 1) := by decide +kernel
theorem d_Tk_advance_1 : decode y_Tk_advance.2.1 1 = .ok (.dup, 1) := by decide +kernel
theorem d_Tk_advance_2 : decode y_Tk_advance.2.1 2 = .ok (.getfield 41, 3) := by decide +kernel
theorem d_Tk_advance_5 : decode y_Tk_advance.2.1 5 = .ok (.iconst 1, 1) := by decide +kernel
theorem d_Tk_advance_6 : decode y_Tk_advance.2.1 6 = .ok (.iadd, 1) := by decide +kernel
theorem d_Tk_advance_7 : decode y_Tk_advance.2.1 7 = .ok (.putfield 41, 3) := by decide +kernel
theorem d_Tk_advance_10 : decode y_Tk_advance.2.1 10 = .ok (.aload_n 0, 1) := by decide +kernel
theorem d_Tk_advance_11 : decode y_Tk_advance.2.1 11 = .ok (.getfield 41, 3) := by decide +kernel
theorem s_Tk_advance_0 : aw_VS y_Tk_advance 0 [o_ald 0, o_dup, o_getI 8 5, o_c (.int (1 : Int32)), o_i2 (fun x z => x + z), o_putI 8 5, o_ald 0, o_getI 8 5] 14 := .cons (v_aload_n (i := 0) d_Tk_advance_0 rfl) (.cons (v_dup d_Tk_advance_1) (.cons (v_getI (k := 5) k_Tk (by decide) (Or.inl rfl) (Or.inl w_351) d_Tk_advance_2) (.cons (v_iconst (v := (1 : Int32)) d_Tk_advance_5 (by decide +kernel)) (.cons (v_iadd d_Tk_advance_6) (.cons (v_putI (k := 5) k_Tk (by decide) rfl (Or.inl ⟨rfl, Or.inl w_351⟩) d_Tk_advance_7) (.cons (v_aload_n (i := 0) d_Tk_advance_10 rfl) (.cons (v_getI (k := 5) k_Tk (by decide) (Or.inl rfl) (Or.inl w_351) d_Tk_advance_11) .nil)))))))
theorem d_Tk_advance_14 : decode y_Tk_advance.2.1 14 = .ok (.ifCond .lt (52), 3) := by decide +kernel
theorem d_Tk_advance_66 : decode y_Tk_advance.2.1 66 = .ok (.return_, 1) := by decide +kernel
theorem d_Tk_advance_17 : decode y_Tk_advance.2.1 17 = .ok (.aload_n 0, 1) := by decide +kernel
theorem d_Tk_advance_18 : decode y_Tk_advance.2.1 18 = .ok (.getfield 41, 3) := by decide +kernel
theorem d_Tk_advance_21 : decode y_Tk_advance.2.1 21 = .ok (.sipush 501, 3) := by decide +kernel
theorem s_Tk_advance_17 : aw_VS y_Tk_advance 17 [o_ald 0, o_getI 8 5, o_c (.int (501 : Int32))] 24 := .cons (v_aload_n (i := 0) d_Tk_advance_17 rfl) (.cons (v_getI (k := 5) k_Tk (by decide) (Or.inl rfl) (Or.inl w_351) d_Tk_advance_18) (.cons (v_sipush (v := (501 : Int32)) d_Tk_advance_21 (by decide +kernel)) .nil))
theorem d_Tk_advance_24 : decode y_Tk_advance.2.1 24 = .ok (.if_icmp .ge (42), 3) := by decide +kernel
theorem d_Tk_advance_27 : decode y_Tk_advance.2.1 27 = .ok (.aload_n 0, 1) := by decide +kernel
theorem d_Tk_advance_28 : decode y_Tk_advance.2.1 28 = .ok (.aload_n 0, 1) := by decide +kernel
theorem d_Tk_advance_29 : decode y_Tk_advance.2.1 29 = .ok (.getfield 9, 3) := by decide +kernel
theorem d_Tk_advance_32 : decode y_Tk_advance.2.1 32 = .ok (.aload_n 0, 1) := by decide +kernel
theorem d_Tk_advance_33 : decode y_Tk_advance.2.1 33 = .ok (.getfield 41, 3) := by decide +kernel
theorem s_Tk_advance_27 : aw_VS y_Tk_advance 27 [o_ald 0, o_ald 0, o_getA 8 1, o_ald 0, o_getI 8 5] 36 := .cons (v_aload_n (i := 0) d_Tk_advance_27 rfl) (.cons (v_aload_n (i := 0) d_Tk_advance_28 rfl) (.cons (v_getA (k := 1) k_Tk (by decide) rfl (Or.inl w_347) d_Tk_advance_29) (.cons (v_aload_n (i := 0) d_Tk_advance_32 rfl) (.cons (v_getI (k := 5) k_Tk (by decide) (Or.inl rfl) (Or.inl w_351) d_Tk_advance_33) .nil))))
theorem d_Tk_advance_36 : decode y_Tk_advance.2.1 36 = .ok (.iaload, 1) := by decide +kernel
theorem d_Tk_advance_37 : decode y_Tk_advance.2.1 37 = .ok (.putfield 29, 3) := by decide +kernel
theorem d_Tk_advance_40 : decode y_Tk_advance.2.1 40 = .ok (.aload_n 0, 1) := by decide +kernel
theorem d_Tk_advance_41 : decode y_Tk_advance.2.1 41 = .ok (.aload_n 0, 1) := by decide +kernel
theorem d_Tk_advance_42 : decode y_Tk_advance.2.1 42 = .ok (.getfield 15, 3) := by decide +kernel
theorem d_Tk_advance_45 : decode y_Tk_advance.2.1 45 = .ok (.aload_n 0, 1) := by decide +kernel
theorem d_Tk_advance_46 : decode y_Tk_advance.2.1 46 = .ok (.getfield 41, 3) := by decide +kernel
theorem s_Tk_advance_37 : aw_VS y_Tk_advance 37 [o_putI 8 6, o_ald 0, o_ald 0, o_getA 8 2, o_ald 0, o_getI 8 5] 49 := .cons (v_putI (k := 6) k_Tk (by decide) rfl (Or.inl ⟨rfl, Or.inl w_352⟩) d_Tk_advance_37) (.cons (v_aload_n (i := 0) d_Tk_advance_40 rfl) (.cons (v_aload_n (i := 0) d_Tk_advance_41 rfl) (.cons (v_getA (k := 2) k_Tk (by decide) rfl (Or.inl w_348) d_Tk_advance_42) (.cons (v_aload_n (i := 0) d_Tk_advance_45 rfl) (.cons (v_getI (k := 5) k_Tk (by decide) (Or.inl rfl) (Or.inl w_351) d_Tk_advance_46) .nil)))))
theorem d_Tk_advance_49 : decode y_Tk_advance.2.1 49 = .ok (.iaload, 1) := by decide +kernel
theorem d_Tk_advance_50 : decode y_Tk_advance.2.1 50 = .ok (.putfield 35, 3) := by decide +kernel
theorem d_Tk_advance_53 : decode y_Tk_advance.2.1 53 = .ok (.aload_n 0, 1) := by decide +kernel
theorem d_Tk_advance_54 : decode y_Tk_advance.2.1 54 = .ok (.aload_n 0, 1) := by decide +kernel
theorem d_Tk_advance_55 : decode y_Tk_advance.2.1 55 = .ok (.getfield 18, 3) := by decide +kernel
theorem d_Tk_advance_58 : decode y_Tk_advance.2.1 58 = .ok (.aload_n 0, 1) := by decide +kernel
theorem d_Tk_advance_59 : decode y_Tk_advance.2.1 59 = .ok (.getfield 41, 3) := by decide +kernel
theorem s_Tk_advance_50 : aw_VS y_Tk_advance 50 [o_putI 8 7, o_ald 0, o_ald 0, o_getA 8 3, o_ald 0, o_getI 8 5] 62 := .cons (v_putI (k := 7) k_Tk (by decide) rfl (Or.inl ⟨rfl, Or.inl w_354⟩) d_Tk_advance_50) (.cons (v_aload_n (i := 0) d_Tk_advance_53 rfl) (.cons (v_aload_n (i := 0) d_Tk_advance_54 rfl) (.cons (v_getA (k := 3) k_Tk (by decide) rfl (Or.inl w_349) d_Tk_advance_55) (.cons (v_aload_n (i := 0) d_Tk_advance_58 rfl) (.cons (v_getI (k := 5) k_Tk (by decide) (Or.inl rfl) (Or.inl w_351) d_Tk_advance_59) .nil)))))
theorem d_Tk_advance_62 : decode y_Tk_advance.2.1 62 = .ok (.iaload, 1) := by decide +kernel
theorem d_Tk_advance_63 : decode y_Tk_advance.2.1 63 = .ok (.putfield 38, 3) := by decide +kernel
theorem s_Tk_advance_63 : aw_VS y_Tk_advance 63 [o_putI 8 8] 66 := .cons (v_putI (k := 8) k_Tk (by decide) rfl (Or.inl ⟨rfl, Or.inl w_356⟩) d_Tk_advance_63) .nil
theorem b_Tk_advance_0 {X : aw_X} {d : Nat} {Q : Option Value → aw_H → Prop} {I : Nat → Nat → Int32} {L : Nat → Nat → Int64} {D : Nat → Nat} 
    (h1 : ((I 62 5) + (1 : Int32)) < 0 → Q none (aw_s (aw_u I 62 5 ((I 62 5) + (1 : Int32))) L D))
    (h2 : ¬ ((I 62 5) + (1 : Int32)) < 0 → (501 : Int32) ≤ ((I 62 5) + (1 : Int32)) → Q none (aw_s (aw_u I 62 5 ((I 62 5) + (1 : Int32))) L D))
    (h3 : ¬ ((I 62 5) + (1 : Int32)) < 0 → ¬ (501 : Int32) ≤ ((I 62 5) + (1 : Int32)) → vp_in ((I 62 5) + (1 : Int32)) 501)
    (h4 : ¬ ((I 62 5) + (1 : Int32)) < 0 → ¬ (501 : Int32) ≤ ((I 62 5) + (1 : Int32)) → vp_in ((I 62 5) + (1 : Int32)) 501)
    (h5 : ¬ ((I 62 5) + (1 : Int32)) < 0 → ¬ (501 : Int32) ≤ ((I 62 5) + (1 : Int32)) → vp_in ((I 62 5) + (1 : Int32)) 501)
    (h6 : ¬ ((I 62 5) + (1 : Int32)) < 0 → ¬ (501 : Int32) ≤ ((I 62 5) + (1 : Int32)) → Q none (aw_s (aw_u (aw_u (aw_u (aw_u I 62 5 ((I 62 5) + (1 : Int32))) 62 6 (I 63 (((I 62 5) + (1 : Int32)).toNatClampNeg))) 62 7 (I 64 (((I 62 5) + (1 : Int32)).toNatClampNeg))) 62 8 (I 65 (((I 62 5) + (1 : Int32)).toNatClampNeg))) L D)) :
    aw_z X d y_Tk_advance Q 0 [some (.ref 62)] [] (aw_s I L D) :=
  (s_Tk_advance_0.go [some (.ref 62)] [.int ((I 62 5) + (1 : Int32))] (aw_s (aw_u I 62 5 ((I 62 5) + (1 : Int32))) L D) rfl (z_if_lt (tgt := 66) d_Tk_advance_14 rfl (fun q1 => (z_vret d_Tk_advance_66 rfl (h1 q1))) (fun q2 => (s_Tk_advance_17.go [some (.ref 62)] [.int (501 : Int32), .int ((I 62 5) + (1 : Int32))] (aw_s (aw_u I 62 5 ((I 62 5) + (1 : Int32))) L D) rfl (z_icmp_ge (tgt := 66) d_Tk_advance_24 rfl (fun q3 => (z_vret d_Tk_advance_66 rfl (h2 q2 q3))) (fun q4 => (s_Tk_advance_27.go [some (.ref 62)] [.int ((I 62 5) + (1 : Int32)), .ref 63, .ref 62] (aw_s (aw_u I 62 5 ((I 62 5) + (1 : Int32))) L D) rfl (z_iald (n := 501) rfl (aw_lt (o := 63) rfl) (h3 q2 q4) d_Tk_advance_36 (s_Tk_advance_37.go [some (.ref 62)] [.int ((I 62 5) + (1 : Int32)), .ref 64, .ref 62] (aw_s (aw_u (aw_u I 62 5 ((I 62 5) + (1 : Int32))) 62 6 (I 63 (((I 62 5) + (1 : Int32)).toNatClampNeg))) L D) rfl (z_iald (n := 501) rfl (aw_lt (o := 64) rfl) (h4 q2 q4) d_Tk_advance_49 (s_Tk_advance_50.go [some (.ref 62)] [.int ((I 62 5) + (1 : Int32)), .ref 65, .ref 62] (aw_s (aw_u (aw_u (aw_u I 62 5 ((I 62 5) + (1 : Int32))) 62 6 (I 63 (((I 62 5) + (1 : Int32)).toNatClampNeg))) 62 7 (I 64 (((I 62 5) + (1 : Int32)).toNatClampNeg))) L D) rfl (z_iald (n := 501) rfl (aw_lt (o := 65) rfl) (h5 q2 q4) d_Tk_advance_62 (s_Tk_advance_63.go [some (.ref 62)] [] (aw_s (aw_u (aw_u (aw_u (aw_u I 62 5 ((I 62 5) + (1 : Int32))) 62 6 (I 63 (((I 62 5) + (1 : Int32)).toNatClampNeg))) 62 7 (I 64 (((I 62 5) + (1 : Int32)).toNatClampNeg))) 62 8 (I 65 (((I 62 5) + (1 : Int32)).toNatClampNeg))) L D) rfl (z_vret d_Tk_advance_66 rfl (h6 q2 q4)))))))))))))))
