/-! by gen_blk.py (genall.py) -/
/-! Wk_forget -/
theorem d_Wk_forget_0 : decode y_Wk_forget.2.1 0 = .ok (.aload_n 0, 1) := by decide +kernel
theorem d_Wk_forget_1 : decode y_Wk_forget.2.1 1 = .ok (.iconst 0, 1) := by decide +kernel
theorem s_Wk_forget_0 : aw_VS y_Wk_forget 0 [o_ald 0, o_c (.int (0 : Int32))] 2 := .cons (v_aload_n (i := 0) d_Wk_forget_0 rfl) (.cons (v_iconst (v := (0 : Int32)) d_Wk_forget_1 (by decide +kernel)) .nil)
theorem d_Wk_forget_2 : decode y_Wk_forget.2.1 2 = .ok (.putfield 46, 3) := by decide +kernel
theorem d_Wk_forget_5 : decode y_Wk_forget.2.1 5 = .ok (.return_, 1) := by decide +kernel
theorem b_Wk_forget_0 {X : aw_X} {d : Nat} {Q : Option Value → aw_H → Prop} {I : Nat → Nat → Int32} {L : Nat → Nat → Int64} {D : Nat → Nat} 
    (h1 : Q none (aw_s (aw_u I 11 0 (0 : Int32)) L D)) :
    aw_z X d y_Wk_forget Q 0 [some (.ref 11)] [] (aw_s I L D) :=
  (s_Wk_forget_0.go [some (.ref 11)] [.int (0 : Int32), .ref 11] (aw_s I L D) rfl (z_putZ (k := 0) k_Wk (by decide) rfl (Or.inl ⟨rfl, Or.inl w_200⟩) d_Wk_forget_2 rfl (aw_lt (o := 11) rfl) (by decide +kernel) (z_vret d_Wk_forget_5 rfl (h1))))
/-! Wk_begin -/
theorem d_Wk_begin_0 : decode y_Wk_begin.2.1 0 = .ok (.aload_n 0, 1) := by decide +kernel
theorem d_Wk_begin_1 : decode y_Wk_begin.2.1 1 = .ok (.iconst 1, 1) := by decide +kernel
theorem s_Wk_begin_0 : aw_VS y_Wk_begin 0 [o_ald 0, o_c (.int (1 : Int32))] 2 := .cons (v_aload_n (i := 0) d_Wk_begin_0 rfl) (.cons (v_iconst (v := (1 : Int32)) d_Wk_begin_1 (by decide +kernel)) .nil)
theorem d_Wk_begin_2 : decode y_Wk_begin.2.1 2 = .ok (.putfield 46, 3) := by decide +kernel
theorem d_Wk_begin_5 : decode y_Wk_begin.2.1 5 = .ok (.aload_n 0, 1) := by decide +kernel
theorem d_Wk_begin_6 : decode y_Wk_begin.2.1 6 = .ok (.iload_n 2, 1) := by decide +kernel
theorem d_Wk_begin_7 : decode y_Wk_begin.2.1 7 = .ok (.putfield 50, 3) := by decide +kernel
theorem d_Wk_begin_10 : decode y_Wk_begin.2.1 10 = .ok (.aload_n 0, 1) := by decide +kernel
theorem d_Wk_begin_11 : decode y_Wk_begin.2.1 11 = .ok (.aload_n 1, 1) := by decide +kernel
theorem d_Wk_begin_12 : decode y_Wk_begin.2.1 12 = .ok (.getfield 54, 3) := by decide +kernel
theorem d_Wk_begin_15 : decode y_Wk_begin.2.1 15 = .ok (.putfield 60, 3) := by decide +kernel
theorem d_Wk_begin_18 : decode y_Wk_begin.2.1 18 = .ok (.aload_n 0, 1) := by decide +kernel
theorem d_Wk_begin_19 : decode y_Wk_begin.2.1 19 = .ok (.iconst 0, 1) := by decide +kernel
theorem d_Wk_begin_20 : decode y_Wk_begin.2.1 20 = .ok (.putfield 61, 3) := by decide +kernel
theorem d_Wk_begin_23 : decode y_Wk_begin.2.1 23 = .ok (.aload_n 0, 1) := by decide +kernel
theorem d_Wk_begin_24 : decode y_Wk_begin.2.1 24 = .ok (.iconst 0, 1) := by decide +kernel
theorem s_Wk_begin_5 : aw_VS y_Wk_begin 5 [o_ald 0, o_ild 2, o_putI 4 1, o_ald 0, o_ald 1, o_getJ 6 10, o_putJ 4 2, o_ald 0, o_c (.int (0 : Int32)), o_putI 4 6, o_ald 0, o_c (.int (0 : Int32))] 25 := .cons (v_aload_n (i := 0) d_Wk_begin_5 rfl) (.cons (v_iload_n (i := 2) d_Wk_begin_6 rfl) (.cons (v_putI (k := 1) k_Wk (by decide) rfl (Or.inl ⟨rfl, Or.inl w_201⟩) d_Wk_begin_7) (.cons (v_aload_n (i := 0) d_Wk_begin_10 rfl) (.cons (v_aload_n (i := 1) d_Wk_begin_11 rfl) (.cons (v_getJ (k := 10) k_Cd (by decide) rfl (Or.inr ⟨"AllWays", w_310⟩) d_Wk_begin_12) (.cons (v_putJ (k := 2) k_Wk (by decide) rfl (Or.inl ⟨rfl, Or.inl w_202⟩) d_Wk_begin_15) (.cons (v_aload_n (i := 0) d_Wk_begin_18 rfl) (.cons (v_iconst (v := (0 : Int32)) d_Wk_begin_19 (by decide +kernel)) (.cons (v_putI (k := 6) k_Wk (by decide) rfl (Or.inl ⟨rfl, Or.inl w_206⟩) d_Wk_begin_20) (.cons (v_aload_n (i := 0) d_Wk_begin_23 rfl) (.cons (v_iconst (v := (0 : Int32)) d_Wk_begin_24 (by decide +kernel)) .nil)))))))))))
theorem d_Wk_begin_25 : decode y_Wk_begin.2.1 25 = .ok (.putfield 64, 3) := by decide +kernel
theorem d_Wk_begin_28 : decode y_Wk_begin.2.1 28 = .ok (.aload_n 0, 1) := by decide +kernel
theorem d_Wk_begin_29 : decode y_Wk_begin.2.1 29 = .ok (.lconst 0, 1) := by decide +kernel
theorem d_Wk_begin_30 : decode y_Wk_begin.2.1 30 = .ok (.putfield 67, 3) := by decide +kernel
theorem d_Wk_begin_33 : decode y_Wk_begin.2.1 33 = .ok (.iconst 0, 1) := by decide +kernel
theorem d_Wk_begin_34 : decode y_Wk_begin.2.1 34 = .ok (.istore_n 3, 1) := by decide +kernel
theorem s_Wk_begin_28 : aw_VS y_Wk_begin 28 [o_ald 0, o_c (.long (0 : Int64)), o_putJ 4 11, o_c (.int (0 : Int32)), o_ist 3] 35 := .cons (v_aload_n (i := 0) d_Wk_begin_28 rfl) (.cons (v_lconst (v := (0 : Int64)) d_Wk_begin_29 (by decide +kernel)) (.cons (v_putJ (k := 11) k_Wk (by decide) rfl (Or.inl ⟨rfl, Or.inl w_212⟩) d_Wk_begin_30) (.cons (v_iconst (v := (0 : Int32)) d_Wk_begin_33 (by decide +kernel)) (.cons (v_istore_n d_Wk_begin_34) .nil))))
theorem b_Wk_begin_0 {X : aw_X} {d : Nat} {Q : Option Value → aw_H → Prop} {I : Nat → Nat → Int32} {L : Nat → Nat → Int64} {D : Nat → Nat} {c1 : Nat} {v2 : Int32} (hc1 : c1 ∈ aw_codes)
    (h1 : aw_z X d y_Wk_begin Q 35 [some (.ref 11), none, none, some (.int (0 : Int32))] [] (aw_s (aw_u (aw_u (aw_u (aw_u I 11 0 (1 : Int32)) 11 1 v2) 11 6 (0 : Int32)) 11 10 (0 : Int32)) (aw_u (aw_u L 11 2 (L c1 10)) 11 11 (0 : Int64)) D)) :
    aw_z X d y_Wk_begin Q 0 [some (.ref 11), some (.ref c1), some (.int v2), none] [] (aw_s I L D) := by
  simp only [aw_codes, List.mem_cons, List.not_mem_nil, or_false] at hc1
  rcases hc1 with rfl | rfl | rfl | rfl | rfl | rfl
  · exact (s_Wk_begin_0.go [some (.ref 11), some (.ref 30), some (.int v2), none] [.int (1 : Int32), .ref 11] (aw_s I L D) rfl (z_putZ (k := 0) k_Wk (by decide) rfl (Or.inl ⟨rfl, Or.inl w_200⟩) d_Wk_begin_2 rfl (aw_lt (o := 11) rfl) (by decide +kernel) (s_Wk_begin_5.go [some (.ref 11), some (.ref 30), some (.int v2), none] [.int (0 : Int32), .ref 11] (aw_s (aw_u (aw_u (aw_u I 11 0 (1 : Int32)) 11 1 v2) 11 6 (0 : Int32)) (aw_u L 11 2 (L 30 10)) D) rfl (z_putZ (k := 10) k_Wk (by decide) rfl (Or.inl ⟨rfl, Or.inl w_211⟩) d_Wk_begin_25 rfl (aw_lt (o := 11) rfl) (by decide +kernel) (s_Wk_begin_28.go [some (.ref 11), some (.ref 30), some (.int v2), some (.int (0 : Int32))] [] (aw_s (aw_u (aw_u (aw_u (aw_u I 11 0 (1 : Int32)) 11 1 v2) 11 6 (0 : Int32)) 11 10 (0 : Int32)) (aw_u (aw_u L 11 2 (L 30 10)) 11 11 (0 : Int64)) D) rfl (aw_Z.weak (ls' := [some (.ref 11), none, none, some (.int (0 : Int32))]) (h1) (Nat.le_of_ble_eq_true rfl) ⟨Or.inr rfl, ⟨Or.inl rfl, ⟨Or.inl rfl, ⟨Or.inr rfl, trivial⟩⟩⟩⟩))))))
  · exact (s_Wk_begin_0.go [some (.ref 11), some (.ref 35), some (.int v2), none] [.int (1 : Int32), .ref 11] (aw_s I L D) rfl (z_putZ (k := 0) k_Wk (by decide) rfl (Or.inl ⟨rfl, Or.inl w_200⟩) d_Wk_begin_2 rfl (aw_lt (o := 11) rfl) (by decide +kernel) (s_Wk_begin_5.go [some (.ref 11), some (.ref 35), some (.int v2), none] [.int (0 : Int32), .ref 11] (aw_s (aw_u (aw_u (aw_u I 11 0 (1 : Int32)) 11 1 v2) 11 6 (0 : Int32)) (aw_u L 11 2 (L 35 10)) D) rfl (z_putZ (k := 10) k_Wk (by decide) rfl (Or.inl ⟨rfl, Or.inl w_211⟩) d_Wk_begin_25 rfl (aw_lt (o := 11) rfl) (by decide +kernel) (s_Wk_begin_28.go [some (.ref 11), some (.ref 35), some (.int v2), some (.int (0 : Int32))] [] (aw_s (aw_u (aw_u (aw_u (aw_u I 11 0 (1 : Int32)) 11 1 v2) 11 6 (0 : Int32)) 11 10 (0 : Int32)) (aw_u (aw_u L 11 2 (L 35 10)) 11 11 (0 : Int64)) D) rfl (aw_Z.weak (ls' := [some (.ref 11), none, none, some (.int (0 : Int32))]) (h1) (Nat.le_of_ble_eq_true rfl) ⟨Or.inr rfl, ⟨Or.inl rfl, ⟨Or.inl rfl, ⟨Or.inr rfl, trivial⟩⟩⟩⟩))))))
  · exact (s_Wk_begin_0.go [some (.ref 11), some (.ref 40), some (.int v2), none] [.int (1 : Int32), .ref 11] (aw_s I L D) rfl (z_putZ (k := 0) k_Wk (by decide) rfl (Or.inl ⟨rfl, Or.inl w_200⟩) d_Wk_begin_2 rfl (aw_lt (o := 11) rfl) (by decide +kernel) (s_Wk_begin_5.go [some (.ref 11), some (.ref 40), some (.int v2), none] [.int (0 : Int32), .ref 11] (aw_s (aw_u (aw_u (aw_u I 11 0 (1 : Int32)) 11 1 v2) 11 6 (0 : Int32)) (aw_u L 11 2 (L 40 10)) D) rfl (z_putZ (k := 10) k_Wk (by decide) rfl (Or.inl ⟨rfl, Or.inl w_211⟩) d_Wk_begin_25 rfl (aw_lt (o := 11) rfl) (by decide +kernel) (s_Wk_begin_28.go [some (.ref 11), some (.ref 40), some (.int v2), some (.int (0 : Int32))] [] (aw_s (aw_u (aw_u (aw_u (aw_u I 11 0 (1 : Int32)) 11 1 v2) 11 6 (0 : Int32)) 11 10 (0 : Int32)) (aw_u (aw_u L 11 2 (L 40 10)) 11 11 (0 : Int64)) D) rfl (aw_Z.weak (ls' := [some (.ref 11), none, none, some (.int (0 : Int32))]) (h1) (Nat.le_of_ble_eq_true rfl) ⟨Or.inr rfl, ⟨Or.inl rfl, ⟨Or.inl rfl, ⟨Or.inr rfl, trivial⟩⟩⟩⟩))))))
  · exact (s_Wk_begin_0.go [some (.ref 11), some (.ref 45), some (.int v2), none] [.int (1 : Int32), .ref 11] (aw_s I L D) rfl (z_putZ (k := 0) k_Wk (by decide) rfl (Or.inl ⟨rfl, Or.inl w_200⟩) d_Wk_begin_2 rfl (aw_lt (o := 11) rfl) (by decide +kernel) (s_Wk_begin_5.go [some (.ref 11), some (.ref 45), some (.int v2), none] [.int (0 : Int32), .ref 11] (aw_s (aw_u (aw_u (aw_u I 11 0 (1 : Int32)) 11 1 v2) 11 6 (0 : Int32)) (aw_u L 11 2 (L 45 10)) D) rfl (z_putZ (k := 10) k_Wk (by decide) rfl (Or.inl ⟨rfl, Or.inl w_211⟩) d_Wk_begin_25 rfl (aw_lt (o := 11) rfl) (by decide +kernel) (s_Wk_begin_28.go [some (.ref 11), some (.ref 45), some (.int v2), some (.int (0 : Int32))] [] (aw_s (aw_u (aw_u (aw_u (aw_u I 11 0 (1 : Int32)) 11 1 v2) 11 6 (0 : Int32)) 11 10 (0 : Int32)) (aw_u (aw_u L 11 2 (L 45 10)) 11 11 (0 : Int64)) D) rfl (aw_Z.weak (ls' := [some (.ref 11), none, none, some (.int (0 : Int32))]) (h1) (Nat.le_of_ble_eq_true rfl) ⟨Or.inr rfl, ⟨Or.inl rfl, ⟨Or.inl rfl, ⟨Or.inr rfl, trivial⟩⟩⟩⟩))))))
  · exact (s_Wk_begin_0.go [some (.ref 11), some (.ref 50), some (.int v2), none] [.int (1 : Int32), .ref 11] (aw_s I L D) rfl (z_putZ (k := 0) k_Wk (by decide) rfl (Or.inl ⟨rfl, Or.inl w_200⟩) d_Wk_begin_2 rfl (aw_lt (o := 11) rfl) (by decide +kernel) (s_Wk_begin_5.go [some (.ref 11), some (.ref 50), some (.int v2), none] [.int (0 : Int32), .ref 11] (aw_s (aw_u (aw_u (aw_u I 11 0 (1 : Int32)) 11 1 v2) 11 6 (0 : Int32)) (aw_u L 11 2 (L 50 10)) D) rfl (z_putZ (k := 10) k_Wk (by decide) rfl (Or.inl ⟨rfl, Or.inl w_211⟩) d_Wk_begin_25 rfl (aw_lt (o := 11) rfl) (by decide +kernel) (s_Wk_begin_28.go [some (.ref 11), some (.ref 50), some (.int v2), some (.int (0 : Int32))] [] (aw_s (aw_u (aw_u (aw_u (aw_u I 11 0 (1 : Int32)) 11 1 v2) 11 6 (0 : Int32)) 11 10 (0 : Int32)) (aw_u (aw_u L 11 2 (L 50 10)) 11 11 (0 : Int64)) D) rfl (aw_Z.weak (ls' := [some (.ref 11), none, none, some (.int (0 : Int32))]) (h1) (Nat.le_of_ble_eq_true rfl) ⟨Or.inr rfl, ⟨Or.inl rfl, ⟨Or.inl rfl, ⟨Or.inr rfl, trivial⟩⟩⟩⟩))))))
  · exact (s_Wk_begin_0.go [some (.ref 11), some (.ref 55), some (.int v2), none] [.int (1 : Int32), .ref 11] (aw_s I L D) rfl (z_putZ (k := 0) k_Wk (by decide) rfl (Or.inl ⟨rfl, Or.inl w_200⟩) d_Wk_begin_2 rfl (aw_lt (o := 11) rfl) (by decide +kernel) (s_Wk_begin_5.go [some (.ref 11), some (.ref 55), some (.int v2), none] [.int (0 : Int32), .ref 11] (aw_s (aw_u (aw_u (aw_u I 11 0 (1 : Int32)) 11 1 v2) 11 6 (0 : Int32)) (aw_u L 11 2 (L 55 10)) D) rfl (z_putZ (k := 10) k_Wk (by decide) rfl (Or.inl ⟨rfl, Or.inl w_211⟩) d_Wk_begin_25 rfl (aw_lt (o := 11) rfl) (by decide +kernel) (s_Wk_begin_28.go [some (.ref 11), some (.ref 55), some (.int v2), some (.int (0 : Int32))] [] (aw_s (aw_u (aw_u (aw_u (aw_u I 11 0 (1 : Int32)) 11 1 v2) 11 6 (0 : Int32)) 11 10 (0 : Int32)) (aw_u (aw_u L 11 2 (L 55 10)) 11 11 (0 : Int64)) D) rfl (aw_Z.weak (ls' := [some (.ref 11), none, none, some (.int (0 : Int32))]) (h1) (Nat.le_of_ble_eq_true rfl) ⟨Or.inr rfl, ⟨Or.inl rfl, ⟨Or.inl rfl, ⟨Or.inr rfl, trivial⟩⟩⟩⟩))))))
theorem d_Wk_begin_35 : decode y_Wk_begin.2.1 35 = .ok (.iload_n 3, 1) := by decide +kernel
theorem d_Wk_begin_36 : decode y_Wk_begin.2.1 36 = .ok (.aload_n 0, 1) := by decide +kernel
theorem d_Wk_begin_37 : decode y_Wk_begin.2.1 37 = .ok (.getfield 31, 3) := by decide +kernel
theorem d_Wk_begin_40 : decode y_Wk_begin.2.1 40 = .ok (.arraylength, 1) := by decide +kernel
theorem s_Wk_begin_35 : aw_VS y_Wk_begin 35 [o_ild 3, o_ald 0, o_getA 4 12, o_alen] 41 := .cons (v_iload_n (i := 3) d_Wk_begin_35 rfl) (.cons (v_aload_n (i := 0) d_Wk_begin_36 rfl) (.cons (v_getA (k := 12) k_Wk (by decide) rfl (Or.inl w_213) d_Wk_begin_37) (.cons (v_alen d_Wk_begin_40) .nil)))
theorem d_Wk_begin_41 : decode y_Wk_begin.2.1 41 = .ok (.if_icmp .ge (16), 3) := by decide +kernel
theorem d_Wk_begin_57 : decode y_Wk_begin.2.1 57 = .ok (.iconst 0, 1) := by decide +kernel
theorem d_Wk_begin_58 : decode y_Wk_begin.2.1 58 = .ok (.istore_n 3, 1) := by decide +kernel
theorem s_Wk_begin_57 : aw_VS y_Wk_begin 57 [o_c (.int (0 : Int32)), o_ist 3] 59 := .cons (v_iconst (v := (0 : Int32)) d_Wk_begin_57 (by decide +kernel)) (.cons (v_istore_n d_Wk_begin_58) .nil)
theorem d_Wk_begin_44 : decode y_Wk_begin.2.1 44 = .ok (.aload_n 0, 1) := by decide +kernel
theorem d_Wk_begin_45 : decode y_Wk_begin.2.1 45 = .ok (.getfield 31, 3) := by decide +kernel
theorem d_Wk_begin_48 : decode y_Wk_begin.2.1 48 = .ok (.iload_n 3, 1) := by decide +kernel
theorem d_Wk_begin_49 : decode y_Wk_begin.2.1 49 = .ok (.lconst 0, 1) := by decide +kernel
theorem s_Wk_begin_44 : aw_VS y_Wk_begin 44 [o_ald 0, o_getA 4 12, o_ild 3, o_c (.long (0 : Int64))] 50 := .cons (v_aload_n (i := 0) d_Wk_begin_44 rfl) (.cons (v_getA (k := 12) k_Wk (by decide) rfl (Or.inl w_213) d_Wk_begin_45) (.cons (v_iload_n (i := 3) d_Wk_begin_48 rfl) (.cons (v_lconst (v := (0 : Int64)) d_Wk_begin_49 (by decide +kernel)) .nil)))
theorem d_Wk_begin_50 : decode y_Wk_begin.2.1 50 = .ok (.lastore, 1) := by decide +kernel
theorem d_Wk_begin_51 : decode y_Wk_begin.2.1 51 = .ok (.iinc 3 (1), 3) := by decide +kernel
theorem s_Wk_begin_51 : aw_VS y_Wk_begin 51 [o_inc 3 (1 : Int32)] 54 := .cons (v_iinc (k0 := (1 : Int32)) d_Wk_begin_51 (by decide +kernel)) .nil
theorem d_Wk_begin_54 : decode y_Wk_begin.2.1 54 = .ok (.goto (-19), 3) := by decide +kernel
theorem b_Wk_begin_35 {X : aw_X} {d : Nat} {Q : Option Value → aw_H → Prop} {I : Nat → Nat → Int32} {L : Nat → Nat → Int64} {D : Nat → Nat} {v3 : Int32}
    (h1 : (480 : Int32) ≤ v3 → aw_z X d y_Wk_begin Q 59 [some (.ref 11), none, none, some (.int (0 : Int32))] [] (aw_s I L D))
    (h2 : ¬ (480 : Int32) ≤ v3 → vp_in v3 480)
    (h3 : ¬ (480 : Int32) ≤ v3 → aw_z X d y_Wk_begin Q 35 [some (.ref 11), none, none, some (.int (v3 + (1 : Int32)))] [] (aw_s I (aw_u L 18 v3.toNatClampNeg (0 : Int64)) D)) :
    aw_z X d y_Wk_begin Q 35 [some (.ref 11), none, none, some (.int v3)] [] (aw_s I L D) :=
  (s_Wk_begin_35.go [some (.ref 11), none, none, some (.int v3)] [.int (480 : Int32), .int v3] (aw_s I L D) rfl (z_icmp_ge (tgt := 57) d_Wk_begin_41 rfl (fun q1 => (s_Wk_begin_57.go [some (.ref 11), none, none, some (.int (0 : Int32))] [] (aw_s I L D) rfl (h1 q1))) (fun q2 => (s_Wk_begin_44.go [some (.ref 11), none, none, some (.int v3)] [.long (0 : Int64), .int v3, .ref 18] (aw_s I L D) rfl (z_last (n := 480) rfl rfl (aw_lt (o := 18) rfl) (h2 q2) d_Wk_begin_50 (s_Wk_begin_51.go [some (.ref 11), none, none, some (.int (v3 + (1 : Int32)))] [] (aw_s I (aw_u L 18 v3.toNatClampNeg (0 : Int64)) D) rfl (z_goto (tgt := 35) d_Wk_begin_54 rfl (h3 q2))))))))
theorem d_Wk_begin_59 : decode y_Wk_begin.2.1 59 = .ok (.iload_n 3, 1) := by decide +kernel
theorem d_Wk_begin_60 : decode y_Wk_begin.2.1 60 = .ok (.aload_n 0, 1) := by decide +kernel
theorem d_Wk_begin_61 : decode y_Wk_begin.2.1 61 = .ok (.getfield 34, 3) := by decide +kernel
theorem d_Wk_begin_64 : decode y_Wk_begin.2.1 64 = .ok (.arraylength, 1) := by decide +kernel
theorem s_Wk_begin_59 : aw_VS y_Wk_begin 59 [o_ild 3, o_ald 0, o_getA 4 13, o_alen] 65 := .cons (v_iload_n (i := 3) d_Wk_begin_59 rfl) (.cons (v_aload_n (i := 0) d_Wk_begin_60 rfl) (.cons (v_getA (k := 13) k_Wk (by decide) rfl (Or.inl w_214) d_Wk_begin_61) (.cons (v_alen d_Wk_begin_64) .nil)))
theorem d_Wk_begin_65 : decode y_Wk_begin.2.1 65 = .ok (.if_icmp .ge (16), 3) := by decide +kernel
theorem d_Wk_begin_81 : decode y_Wk_begin.2.1 81 = .ok (.return_, 1) := by decide +kernel
theorem d_Wk_begin_68 : decode y_Wk_begin.2.1 68 = .ok (.aload_n 0, 1) := by decide +kernel
theorem d_Wk_begin_69 : decode y_Wk_begin.2.1 69 = .ok (.getfield 34, 3) := by decide +kernel
theorem d_Wk_begin_72 : decode y_Wk_begin.2.1 72 = .ok (.iload_n 3, 1) := by decide +kernel
theorem d_Wk_begin_73 : decode y_Wk_begin.2.1 73 = .ok (.iconst 0, 1) := by decide +kernel
theorem s_Wk_begin_68 : aw_VS y_Wk_begin 68 [o_ald 0, o_getA 4 13, o_ild 3, o_c (.int (0 : Int32))] 74 := .cons (v_aload_n (i := 0) d_Wk_begin_68 rfl) (.cons (v_getA (k := 13) k_Wk (by decide) rfl (Or.inl w_214) d_Wk_begin_69) (.cons (v_iload_n (i := 3) d_Wk_begin_72 rfl) (.cons (v_iconst (v := (0 : Int32)) d_Wk_begin_73 (by decide +kernel)) .nil)))
theorem d_Wk_begin_74 : decode y_Wk_begin.2.1 74 = .ok (.iastore, 1) := by decide +kernel
theorem d_Wk_begin_75 : decode y_Wk_begin.2.1 75 = .ok (.iinc 3 (1), 3) := by decide +kernel
theorem s_Wk_begin_75 : aw_VS y_Wk_begin 75 [o_inc 3 (1 : Int32)] 78 := .cons (v_iinc (k0 := (1 : Int32)) d_Wk_begin_75 (by decide +kernel)) .nil
theorem d_Wk_begin_78 : decode y_Wk_begin.2.1 78 = .ok (.goto (-19), 3) := by decide +kernel
theorem b_Wk_begin_59 {X : aw_X} {d : Nat} {Q : Option Value → aw_H → Prop} {I : Nat → Nat → Int32} {L : Nat → Nat → Int64} {D : Nat → Nat} {v3 : Int32}
    (h1 : (3840 : Int32) ≤ v3 → Q none (aw_s I L D))
    (h2 : ¬ (3840 : Int32) ≤ v3 → vp_in v3 3840)
    (h3 : ¬ (3840 : Int32) ≤ v3 → aw_z X d y_Wk_begin Q 59 [some (.ref 11), none, none, some (.int (v3 + (1 : Int32)))] [] (aw_s (aw_u I 19 v3.toNatClampNeg (0 : Int32)) L D)) :
    aw_z X d y_Wk_begin Q 59 [some (.ref 11), none, none, some (.int v3)] [] (aw_s I L D) :=
  (s_Wk_begin_59.go [some (.ref 11), none, none, some (.int v3)] [.int (3840 : Int32), .int v3] (aw_s I L D) rfl (z_icmp_ge (tgt := 81) d_Wk_begin_65 rfl (fun q1 => (z_vret d_Wk_begin_81 rfl (h1 q1))) (fun q2 => (s_Wk_begin_68.go [some (.ref 11), none, none, some (.int v3)] [.int (0 : Int32), .int v3, .ref 19] (aw_s I L D) rfl (z_iast (n := 3840) rfl (aw_lt (o := 19) rfl) (h2 q2) d_Wk_begin_74 (s_Wk_begin_75.go [some (.ref 11), none, none, some (.int (v3 + (1 : Int32)))] [] (aw_s (aw_u I 19 v3.toNatClampNeg (0 : Int32)) L D) rfl (z_goto (tgt := 59) d_Wk_begin_78 rfl (h3 q2))))))))
/-! Wk_note -/
theorem d_Wk_note_0 : decode y_Wk_note.2.1 0 = .ok (.iload_n 1, 1) := by decide +kernel
theorem s_Wk_note_0 : aw_VS y_Wk_note 0 [o_ild 1] 1 := .cons (v_iload_n (i := 1) d_Wk_note_0 rfl) .nil
theorem d_Wk_note_1 : decode y_Wk_note.2.1 1 = .ok (.ifCond .lt (10), 3) := by decide +kernel
theorem d_Wk_note_11 : decode y_Wk_note.2.1 11 = .ok (.return_, 1) := by decide +kernel
theorem d_Wk_note_4 : decode y_Wk_note.2.1 4 = .ok (.iload_n 1, 1) := by decide +kernel
theorem d_Wk_note_5 : decode y_Wk_note.2.1 5 = .ok (.sipush 4096, 3) := by decide +kernel
theorem s_Wk_note_4 : aw_VS y_Wk_note 4 [o_ild 1, o_c (.int (4096 : Int32))] 8 := .cons (v_iload_n (i := 1) d_Wk_note_4 rfl) (.cons (v_sipush (v := (4096 : Int32)) d_Wk_note_5 (by decide +kernel)) .nil)
theorem d_Wk_note_8 : decode y_Wk_note.2.1 8 = .ok (.if_icmp .lt (4), 3) := by decide +kernel
theorem d_Wk_note_12 : decode y_Wk_note.2.1 12 = .ok (.aload_n 2, 1) := by decide +kernel
theorem s_Wk_note_12 : aw_VS y_Wk_note 12 [o_ald 2] 13 := .cons (v_aload_n (i := 2) d_Wk_note_12 rfl) .nil
theorem d_Wk_note_13 : decode y_Wk_note.2.1 13 = .ok (.invokestatic 70, 3) := by decide +kernel
theorem b_Wk_note_0 {X : aw_X} {d : Nat} {Q : Option Value → aw_H → Prop} {I : Nat → Nat → Int32} {L : Nat → Nat → Int64} {D : Nat → Nat} {v1 : Int32}
    (h1 : v1 < 0 → Q none (aw_s I L D))
    (h2 : ¬ v1 < 0 → v1 < (4096 : Int32) → aw_m X d y_Wk_keyOf [.ref 4] (aw_s I L D) (fun r A => aw_z X (d + 1) y_Wk_note Q 16 [some (.ref 11), some (.int v1), some (.ref 4), none, none] (r.toList ++ []) A))
    (h3 : ¬ v1 < 0 → ¬ v1 < (4096 : Int32) → Q none (aw_s I L D)) :
    aw_z X (d + 1) y_Wk_note Q 0 [some (.ref 11), some (.int v1), some (.ref 4), none, none] [] (aw_s I L D) :=
  (s_Wk_note_0.go [some (.ref 11), some (.int v1), some (.ref 4), none, none] [.int v1] (aw_s I L D) rfl (z_if_lt (tgt := 11) d_Wk_note_1 rfl (fun q1 => (z_vret d_Wk_note_11 rfl (h1 q1))) (fun q2 => (s_Wk_note_4.go [some (.ref 11), some (.int v1), some (.ref 4), none, none] [.int (4096 : Int32), .int v1] (aw_s I L D) rfl (z_icmp_lt (tgt := 12) d_Wk_note_8 rfl (fun q3 => (s_Wk_note_12.go [some (.ref 11), some (.int v1), some (.ref 4), none, none] [.ref 4] (aw_s I L D) rfl (z_callS (av := [.ref 4]) (st := []) ok_Wk_keyOf (Or.inl w_882) w_883 d_Wk_note_13 rfl rfl (Nat.le_of_ble_eq_true rfl) (Nat.le_refl _) (Nat.le_refl _) (h2 q2 q3)))) (fun q4 => (z_vret d_Wk_note_11 rfl (h3 q2 q4))))))))
theorem d_Wk_note_16 : decode y_Wk_note.2.1 16 = .ok (.lstore_n 3, 1) := by decide +kernel
theorem d_Wk_note_17 : decode y_Wk_note.2.1 17 = .ok (.aload_n 0, 1) := by decide +kernel
theorem d_Wk_note_18 : decode y_Wk_note.2.1 18 = .ok (.getfield 9, 3) := by decide +kernel
theorem d_Wk_note_21 : decode y_Wk_note.2.1 21 = .ok (.iload_n 1, 1) := by decide +kernel
theorem d_Wk_note_22 : decode y_Wk_note.2.1 22 = .ok (.lload_n 3, 1) := by decide +kernel
theorem s_Wk_note_16 : aw_VS y_Wk_note 16 [o_lst 3, o_ald 0, o_getA 4 3, o_ild 1, o_lld 3] 23 := .cons (v_lstore_n d_Wk_note_16) (.cons (v_aload_n (i := 0) d_Wk_note_17 rfl) (.cons (v_getA (k := 3) k_Wk (by decide) rfl (Or.inl w_203) d_Wk_note_18) (.cons (v_iload_n (i := 1) d_Wk_note_21 rfl) (.cons (v_lload_n (i := 3) d_Wk_note_22 rfl) .nil))))
theorem d_Wk_note_23 : decode y_Wk_note.2.1 23 = .ok (.lastore, 1) := by decide +kernel
theorem d_Wk_note_24 : decode y_Wk_note.2.1 24 = .ok (.aload_n 0, 1) := by decide +kernel
theorem d_Wk_note_25 : decode y_Wk_note.2.1 25 = .ok (.getfield 15, 3) := by decide +kernel
theorem d_Wk_note_28 : decode y_Wk_note.2.1 28 = .ok (.iload_n 1, 1) := by decide +kernel
theorem d_Wk_note_29 : decode y_Wk_note.2.1 29 = .ok (.aload_n 2, 1) := by decide +kernel
theorem d_Wk_note_30 : decode y_Wk_note.2.1 30 = .ok (.getfield 74, 3) := by decide +kernel
theorem s_Wk_note_24 : aw_VS y_Wk_note 24 [o_ald 0, o_getA 4 4, o_ild 1, o_ald 2, o_getI 3 16] 33 := .cons (v_aload_n (i := 0) d_Wk_note_24 rfl) (.cons (v_getA (k := 4) k_Wk (by decide) rfl (Or.inl w_204) d_Wk_note_25) (.cons (v_iload_n (i := 1) d_Wk_note_28 rfl) (.cons (v_aload_n (i := 2) d_Wk_note_29 rfl) (.cons (v_getI (k := 16) k_Mc (by decide) (Or.inl rfl) (Or.inr ⟨"AllWays", w_144⟩) d_Wk_note_30) .nil))))
theorem d_Wk_note_33 : decode y_Wk_note.2.1 33 = .ok (.iastore, 1) := by decide +kernel
theorem d_Wk_note_34 : decode y_Wk_note.2.1 34 = .ok (.aload_n 0, 1) := by decide +kernel
theorem d_Wk_note_35 : decode y_Wk_note.2.1 35 = .ok (.getfield 19, 3) := by decide +kernel
theorem d_Wk_note_38 : decode y_Wk_note.2.1 38 = .ok (.iload_n 1, 1) := by decide +kernel
theorem d_Wk_note_39 : decode y_Wk_note.2.1 39 = .ok (.lconst 0, 1) := by decide +kernel
theorem s_Wk_note_34 : aw_VS y_Wk_note 34 [o_ald 0, o_getA 4 5, o_ild 1, o_c (.long (0 : Int64))] 40 := .cons (v_aload_n (i := 0) d_Wk_note_34 rfl) (.cons (v_getA (k := 5) k_Wk (by decide) rfl (Or.inl w_205) d_Wk_note_35) (.cons (v_iload_n (i := 1) d_Wk_note_38 rfl) (.cons (v_lconst (v := (0 : Int64)) d_Wk_note_39 (by decide +kernel)) .nil)))
theorem d_Wk_note_40 : decode y_Wk_note.2.1 40 = .ok (.lastore, 1) := by decide +kernel
theorem d_Wk_note_41 : decode y_Wk_note.2.1 41 = .ok (.aload_n 0, 1) := by decide +kernel
theorem d_Wk_note_42 : decode y_Wk_note.2.1 42 = .ok (.lload_n 3, 1) := by decide +kernel
theorem d_Wk_note_43 : decode y_Wk_note.2.1 43 = .ok (.iload_n 1, 1) := by decide +kernel
theorem s_Wk_note_41 : aw_VS y_Wk_note 41 [o_ald 0, o_lld 3, o_ild 1] 44 := .cons (v_aload_n (i := 0) d_Wk_note_41 rfl) (.cons (v_lload_n (i := 3) d_Wk_note_42 rfl) (.cons (v_iload_n (i := 1) d_Wk_note_43 rfl) .nil))
theorem d_Wk_note_44 : decode y_Wk_note.2.1 44 = .ok (.invokevirtual 79, 3) := by decide +kernel
theorem b_Wk_note_16 {X : aw_X} {d : Nat} {Q : Option Value → aw_H → Prop} {I : Nat → Nat → Int32} {L : Nat → Nat → Int64} {D : Nat → Nat} {v1 : Int32} {s0 : Int64}
    (h1 : vp_in v1 4096)
    (h2 : vp_in v1 4096)
    (h3 : vp_in v1 4096)
    (h4 : aw_m X d y_Wk_noteWay [.ref 11, .long s0, .int v1] (aw_s (aw_u I 13 v1.toNatClampNeg (I 4 16)) (aw_u (aw_u L 12 v1.toNatClampNeg s0) 14 v1.toNatClampNeg (0 : Int64)) D) (fun r A => aw_z X (d + 1) y_Wk_note Q 47 [some (.ref 11), some (.int v1), some (.ref 4), none, none] (r.toList ++ []) A)) :
    aw_z X (d + 1) y_Wk_note Q 16 [some (.ref 11), some (.int v1), some (.ref 4), none, none] [.long s0] (aw_s I L D) :=
  (s_Wk_note_16.go [some (.ref 11), some (.int v1), some (.ref 4), some (.long s0), none] [.long s0, .int v1, .ref 12] (aw_s I L D) rfl (z_last (n := 4096) rfl rfl (aw_lt (o := 12) rfl) (h1) d_Wk_note_23 (s_Wk_note_24.go [some (.ref 11), some (.int v1), some (.ref 4), some (.long s0), none] [.int (I 4 16), .int v1, .ref 13] (aw_s I (aw_u L 12 v1.toNatClampNeg s0) D) rfl (z_iast (n := 4096) rfl (aw_lt (o := 13) rfl) (h2) d_Wk_note_33 (s_Wk_note_34.go [some (.ref 11), some (.int v1), some (.ref 4), some (.long s0), none] [.long (0 : Int64), .int v1, .ref 14] (aw_s (aw_u I 13 v1.toNatClampNeg (I 4 16)) (aw_u L 12 v1.toNatClampNeg s0) D) rfl (z_last (n := 4096) rfl rfl (aw_lt (o := 14) rfl) (h3) d_Wk_note_40 (s_Wk_note_41.go [some (.ref 11), some (.int v1), some (.ref 4), some (.long s0), none] [.int v1, .long s0, .ref 11] (aw_s (aw_u I 13 v1.toNatClampNeg (I 4 16)) (aw_u (aw_u L 12 v1.toNatClampNeg s0) 14 v1.toNatClampNeg (0 : Int64)) D) rfl (z_callV (av := [.long s0, .int v1]) (st := []) ok_Wk_noteWay (Or.inl w_885) w_887 w_44 k_Wk d_Wk_note_44 rfl (aw_lt (o := 11) rfl) rfl rfl (Nat.le_of_ble_eq_true rfl) (Nat.le_refl _) (Nat.le_refl _) (aw_C.mono (h4) (fun _ _ zz => aw_Z.weak (ls' := [some (.ref 11), some (.int v1), some (.ref 4), none, none]) zz (Nat.le_of_ble_eq_true rfl) ⟨Or.inr rfl, ⟨Or.inr rfl, ⟨Or.inr rfl, ⟨Or.inl rfl, ⟨Or.inl rfl, trivial⟩⟩⟩⟩⟩))))))))))
theorem d_Wk_note_47 : decode y_Wk_note.2.1 47 = .ok (.aload_n 2, 1) := by decide +kernel
theorem d_Wk_note_48 : decode y_Wk_note.2.1 48 = .ok (.getfield 83, 3) := by decide +kernel
theorem d_Wk_note_51 : decode y_Wk_note.2.1 51 = .ok (.iconst 4, 1) := by decide +kernel
theorem s_Wk_note_47 : aw_VS y_Wk_note 47 [o_ald 2, o_getI 3 15, o_c (.int (4 : Int32))] 52 := .cons (v_aload_n (i := 2) d_Wk_note_47 rfl) (.cons (v_getI (k := 15) k_Mc (by decide) (Or.inl rfl) (Or.inr ⟨"AllWays", w_142⟩) d_Wk_note_48) (.cons (v_iconst (v := (4 : Int32)) d_Wk_note_51 (by decide +kernel)) .nil))
theorem d_Wk_note_52 : decode y_Wk_note.2.1 52 = .ok (.if_icmp .eq (34), 3) := by decide +kernel
theorem d_Wk_note_55 : decode y_Wk_note.2.1 55 = .ok (.aload_n 0, 1) := by decide +kernel
theorem d_Wk_note_56 : decode y_Wk_note.2.1 56 = .ok (.getfield 19, 3) := by decide +kernel
theorem d_Wk_note_59 : decode y_Wk_note.2.1 59 = .ok (.iload_n 1, 1) := by decide +kernel
theorem d_Wk_note_60 : decode y_Wk_note.2.1 60 = .ok (.aload_n 0, 1) := by decide +kernel
theorem d_Wk_note_61 : decode y_Wk_note.2.1 61 = .ok (.aload_n 2, 1) := by decide +kernel
theorem s_Wk_note_55 : aw_VS y_Wk_note 55 [o_ald 0, o_getA 4 5, o_ild 1, o_ald 0, o_ald 2] 62 := .cons (v_aload_n (i := 0) d_Wk_note_55 rfl) (.cons (v_getA (k := 5) k_Wk (by decide) rfl (Or.inl w_205) d_Wk_note_56) (.cons (v_iload_n (i := 1) d_Wk_note_59 rfl) (.cons (v_aload_n (i := 0) d_Wk_note_60 rfl) (.cons (v_aload_n (i := 2) d_Wk_note_61 rfl) .nil))))
theorem d_Wk_note_62 : decode y_Wk_note.2.1 62 = .ok (.invokevirtual 86, 3) := by decide +kernel
theorem b_Wk_note_47 {X : aw_X} {d : Nat} {Q : Option Value → aw_H → Prop} {I : Nat → Nat → Int32} {L : Nat → Nat → Int64} {D : Nat → Nat} {v1 : Int32}
    (h1 : (I 4 15) = (4 : Int32) → aw_z X (d + 1) y_Wk_note Q 86 [none, none, none, none, none] [] (aw_s I L D))
    (h2 : ¬ (I 4 15) = (4 : Int32) → aw_m X d y_Wk_noteTrace [.ref 11, .ref 4] (aw_s I L D) (fun r A => aw_z X (d + 1) y_Wk_note Q 65 [some (.ref 11), some (.int v1), some (.ref 4), none, none] (r.toList ++ [.int v1, .ref 14]) A)) :
    aw_z X (d + 1) y_Wk_note Q 47 [some (.ref 11), some (.int v1), some (.ref 4), none, none] [] (aw_s I L D) :=
  (s_Wk_note_47.go [some (.ref 11), some (.int v1), some (.ref 4), none, none] [.int (4 : Int32), .int (I 4 15)] (aw_s I L D) rfl (z_icmp_eq (tgt := 86) d_Wk_note_52 rfl (fun q1 => (aw_Z.weak (ls' := [none, none, none, none, none]) (h1 q1) (Nat.le_of_ble_eq_true rfl) ⟨Or.inl rfl, ⟨Or.inl rfl, ⟨Or.inl rfl, ⟨Or.inl rfl, ⟨Or.inl rfl, trivial⟩⟩⟩⟩⟩)) (fun q2 => (s_Wk_note_55.go [some (.ref 11), some (.int v1), some (.ref 4), none, none] [.ref 4, .ref 11, .int v1, .ref 14] (aw_s I L D) rfl (z_callV (av := [.ref 4]) (st := [.int v1, .ref 14]) ok_Wk_noteTrace (Or.inl w_899) w_901 w_46 k_Wk d_Wk_note_62 rfl (aw_lt (o := 11) rfl) rfl rfl (Nat.le_of_ble_eq_true rfl) (Nat.le_refl _) (Nat.le_refl _) (h2 q2))))))
theorem d_Wk_note_86 : decode y_Wk_note.2.1 86 = .ok (.return_, 1) := by decide +kernel
theorem b_Wk_note_86 {X : aw_X} {d : Nat} {Q : Option Value → aw_H → Prop} {I : Nat → Nat → Int32} {L : Nat → Nat → Int64} {D : Nat → Nat} 
    (h1 : Q none (aw_s I L D)) :
    aw_z X (d + 1) y_Wk_note Q 86 [none, none, none, none, none] [] (aw_s I L D) :=
  (z_vret d_Wk_note_86 rfl (h1))
theorem d_Wk_note_65 : decode y_Wk_note.2.1 65 = .ok (.lastore, 1) := by decide +kernel
theorem d_Wk_note_66 : decode y_Wk_note.2.1 66 = .ok (.aload_n 0, 1) := by decide +kernel
theorem d_Wk_note_67 : decode y_Wk_note.2.1 67 = .ok (.dup, 1) := by decide +kernel
theorem d_Wk_note_68 : decode y_Wk_note.2.1 68 = .ok (.getfield 67, 3) := by decide +kernel
theorem d_Wk_note_71 : decode y_Wk_note.2.1 71 = .ok (.aload_n 0, 1) := by decide +kernel
theorem d_Wk_note_72 : decode y_Wk_note.2.1 72 = .ok (.getfield 19, 3) := by decide +kernel
theorem d_Wk_note_75 : decode y_Wk_note.2.1 75 = .ok (.iload_n 1, 1) := by decide +kernel
theorem s_Wk_note_66 : aw_VS y_Wk_note 66 [o_ald 0, o_dup, o_getJ 4 11, o_ald 0, o_getA 4 5, o_ild 1] 76 := .cons (v_aload_n (i := 0) d_Wk_note_66 rfl) (.cons (v_dup d_Wk_note_67) (.cons (v_getJ (k := 11) k_Wk (by decide) rfl (Or.inl w_212) d_Wk_note_68) (.cons (v_aload_n (i := 0) d_Wk_note_71 rfl) (.cons (v_getA (k := 5) k_Wk (by decide) rfl (Or.inl w_205) d_Wk_note_72) (.cons (v_iload_n (i := 1) d_Wk_note_75 rfl) .nil)))))
theorem d_Wk_note_76 : decode y_Wk_note.2.1 76 = .ok (.laload, 1) := by decide +kernel
theorem d_Wk_note_77 : decode y_Wk_note.2.1 77 = .ok (.lor, 1) := by decide +kernel
theorem d_Wk_note_78 : decode y_Wk_note.2.1 78 = .ok (.putfield 67, 3) := by decide +kernel
theorem d_Wk_note_81 : decode y_Wk_note.2.1 81 = .ok (.aload_n 0, 1) := by decide +kernel
theorem d_Wk_note_82 : decode y_Wk_note.2.1 82 = .ok (.aload_n 2, 1) := by decide +kernel
theorem s_Wk_note_77 : aw_VS y_Wk_note 77 [o_l2 (fun x z => x ||| z), o_putJ 4 11, o_ald 0, o_ald 2] 83 := .cons (v_lor d_Wk_note_77) (.cons (v_putJ (k := 11) k_Wk (by decide) rfl (Or.inl ⟨rfl, Or.inl w_212⟩) d_Wk_note_78) (.cons (v_aload_n (i := 0) d_Wk_note_81 rfl) (.cons (v_aload_n (i := 2) d_Wk_note_82 rfl) .nil)))
theorem d_Wk_note_83 : decode y_Wk_note.2.1 83 = .ok (.invokevirtual 89, 3) := by decide +kernel
theorem b_Wk_note_65 {X : aw_X} {d : Nat} {Q : Option Value → aw_H → Prop} {I : Nat → Nat → Int32} {L : Nat → Nat → Int64} {D : Nat → Nat} {v1 : Int32} {s2 : Int64} {s1 : Int32}
    (h1 : vp_in s1 4096)
    (h2 : vp_in v1 4096)
    (h3 : aw_m X d y_Wk_noteRounds [.ref 11, .ref 4] (aw_s I (aw_u (aw_u L 14 s1.toNatClampNeg s2) 11 11 ((L 11 11) ||| ((aw_u L 14 s1.toNatClampNeg s2) 14 v1.toNatClampNeg))) D) (fun r A => aw_z X (d + 1) y_Wk_note Q 86 [none, none, none, none, none] (r.toList ++ []) A)) :
    aw_z X (d + 1) y_Wk_note Q 65 [some (.ref 11), some (.int v1), some (.ref 4), none, none] [.long s2, .int s1, .ref 14] (aw_s I L D) :=
  (z_last (n := 4096) rfl rfl (aw_lt (o := 14) rfl) (h1) d_Wk_note_65 (s_Wk_note_66.go [some (.ref 11), some (.int v1), some (.ref 4), none, none] [.int v1, .ref 14, .long (L 11 11), .ref 11] (aw_s I (aw_u L 14 s1.toNatClampNeg s2) D) rfl (z_lald (n := 4096) rfl (aw_lt (o := 14) rfl) (h2) d_Wk_note_76 (s_Wk_note_77.go [some (.ref 11), some (.int v1), some (.ref 4), none, none] [.ref 4, .ref 11] (aw_s I (aw_u (aw_u L 14 s1.toNatClampNeg s2) 11 11 ((L 11 11) ||| ((aw_u L 14 s1.toNatClampNeg s2) 14 v1.toNatClampNeg))) D) rfl (z_callV (av := [.ref 4]) (st := []) ok_Wk_noteRounds (Or.inl w_915) w_917 w_49 k_Wk d_Wk_note_83 rfl (aw_lt (o := 11) rfl) rfl rfl (Nat.le_of_ble_eq_true rfl) (Nat.le_refl _) (Nat.le_refl _) (aw_C.mono (h3) (fun _ _ zz => aw_Z.weak (ls' := [none, none, none, none, none]) zz (Nat.le_of_ble_eq_true rfl) ⟨Or.inl rfl, ⟨Or.inl rfl, ⟨Or.inl rfl, ⟨Or.inl rfl, ⟨Or.inl rfl, trivial⟩⟩⟩⟩⟩)))))))
/-! Wk_keyOf -/
theorem d_Wk_keyOf_0 : decode y_Wk_keyOf.2.1 0 = .ok (.aload_n 0, 1) := by decide +kernel
theorem d_Wk_keyOf_1 : decode y_Wk_keyOf.2.1 1 = .ok (.getfield 74, 3) := by decide +kernel
theorem d_Wk_keyOf_4 : decode y_Wk_keyOf.2.1 4 = .ok (.iconst (-1), 1) := by decide +kernel
theorem s_Wk_keyOf_0 : aw_VS y_Wk_keyOf 0 [o_ald 0, o_getI 3 16, o_c (.int (-1 : Int32))] 5 := .cons (v_aload_n (i := 0) d_Wk_keyOf_0 rfl) (.cons (v_getI (k := 16) k_Mc (by decide) (Or.inl rfl) (Or.inr ⟨"AllWays", w_144⟩) d_Wk_keyOf_1) (.cons (v_iconst (v := (-1 : Int32)) d_Wk_keyOf_4 (by decide +kernel)) .nil))
theorem d_Wk_keyOf_5 : decode y_Wk_keyOf.2.1 5 = .ok (.if_icmp .ne (12), 3) := by decide +kernel
theorem d_Wk_keyOf_17 : decode y_Wk_keyOf.2.1 17 = .ok (.aload_n 0, 1) := by decide +kernel
theorem d_Wk_keyOf_18 : decode y_Wk_keyOf.2.1 18 = .ok (.getfield 93, 3) := by decide +kernel
theorem s_Wk_keyOf_17 : aw_VS y_Wk_keyOf 17 [o_ald 0, o_getI 3 12] 21 := .cons (v_aload_n (i := 0) d_Wk_keyOf_17 rfl) (.cons (v_getI (k := 12) k_Mc (by decide) (Or.inl rfl) (Or.inr ⟨"AllWays", w_135⟩) d_Wk_keyOf_18) .nil)
theorem d_Wk_keyOf_8 : decode y_Wk_keyOf.2.1 8 = .ok (.aload_n 0, 1) := by decide +kernel
theorem d_Wk_keyOf_9 : decode y_Wk_keyOf.2.1 9 = .ok (.getfield 93, 3) := by decide +kernel
theorem d_Wk_keyOf_12 : decode y_Wk_keyOf.2.1 12 = .ok (.iconst 1, 1) := by decide +kernel
theorem d_Wk_keyOf_13 : decode y_Wk_keyOf.2.1 13 = .ok (.iadd, 1) := by decide +kernel
theorem s_Wk_keyOf_8 : aw_VS y_Wk_keyOf 8 [o_ald 0, o_getI 3 12, o_c (.int (1 : Int32)), o_i2 (fun x z => x + z)] 14 := .cons (v_aload_n (i := 0) d_Wk_keyOf_8 rfl) (.cons (v_getI (k := 12) k_Mc (by decide) (Or.inl rfl) (Or.inr ⟨"AllWays", w_135⟩) d_Wk_keyOf_9) (.cons (v_iconst (v := (1 : Int32)) d_Wk_keyOf_12 (by decide +kernel)) (.cons (v_iadd d_Wk_keyOf_13) .nil)))
theorem d_Wk_keyOf_14 : decode y_Wk_keyOf.2.1 14 = .ok (.goto (7), 3) := by decide +kernel
theorem b_Wk_keyOf_0 {X : aw_X} {d : Nat} {Q : Option Value → aw_H → Prop} {I : Nat → Nat → Int32} {L : Nat → Nat → Int64} {D : Nat → Nat} 
    (h1 : ¬ (I 4 16) = (-1 : Int32) → aw_z X d y_Wk_keyOf Q 21 [some (.ref 4), none, none, none] [.int (I 4 12)] (aw_s I L D))
    (h2 : (I 4 16) = (-1 : Int32) → aw_z X d y_Wk_keyOf Q 21 [some (.ref 4), none, none, none] [.int ((I 4 12) + (1 : Int32))] (aw_s I L D)) :
    aw_z X d y_Wk_keyOf Q 0 [some (.ref 4), none, none, none] [] (aw_s I L D) :=
  (s_Wk_keyOf_0.go [some (.ref 4), none, none, none] [.int (-1 : Int32), .int (I 4 16)] (aw_s I L D) rfl (z_icmp_ne (tgt := 17) d_Wk_keyOf_5 rfl (fun q1 => (s_Wk_keyOf_17.go [some (.ref 4), none, none, none] [.int (I 4 12)] (aw_s I L D) rfl (h1 q1))) (fun q2 => (s_Wk_keyOf_8.go [some (.ref 4), none, none, none] [.int ((I 4 12) + (1 : Int32))] (aw_s I L D) rfl (z_goto (tgt := 21) d_Wk_keyOf_14 rfl (h2 q2))))))
theorem d_Wk_keyOf_21 : decode y_Wk_keyOf.2.1 21 = .ok (.istore_n 1, 1) := by decide +kernel
theorem d_Wk_keyOf_22 : decode y_Wk_keyOf.2.1 22 = .ok (.aload_n 0, 1) := by decide +kernel
theorem d_Wk_keyOf_23 : decode y_Wk_keyOf.2.1 23 = .ok (.getfield 95, 3) := by decide +kernel
theorem d_Wk_keyOf_26 : decode y_Wk_keyOf.2.1 26 = .ok (.bipush 6, 2) := by decide +kernel
theorem d_Wk_keyOf_28 : decode y_Wk_keyOf.2.1 28 = .ok (.lshl, 1) := by decide +kernel
theorem d_Wk_keyOf_29 : decode y_Wk_keyOf.2.1 29 = .ok (.aload_n 0, 1) := by decide +kernel
theorem d_Wk_keyOf_30 : decode y_Wk_keyOf.2.1 30 = .ok (.getfield 98, 3) := by decide +kernel
theorem d_Wk_keyOf_33 : decode y_Wk_keyOf.2.1 33 = .ok (.i2l, 1) := by decide +kernel
theorem d_Wk_keyOf_34 : decode y_Wk_keyOf.2.1 34 = .ok (.lor, 1) := by decide +kernel
theorem d_Wk_keyOf_35 : decode y_Wk_keyOf.2.1 35 = .ok (.lstore_n 2, 1) := by decide +kernel
theorem d_Wk_keyOf_36 : decode y_Wk_keyOf.2.1 36 = .ok (.lload_n 2, 1) := by decide +kernel
theorem d_Wk_keyOf_37 : decode y_Wk_keyOf.2.1 37 = .ok (.bipush 10, 2) := by decide +kernel
theorem d_Wk_keyOf_39 : decode y_Wk_keyOf.2.1 39 = .ok (.lshl, 1) := by decide +kernel
theorem d_Wk_keyOf_40 : decode y_Wk_keyOf.2.1 40 = .ok (.iload_n 1, 1) := by decide +kernel
theorem d_Wk_keyOf_41 : decode y_Wk_keyOf.2.1 41 = .ok (.i2l, 1) := by decide +kernel
theorem d_Wk_keyOf_42 : decode y_Wk_keyOf.2.1 42 = .ok (.lor, 1) := by decide +kernel
theorem d_Wk_keyOf_43 : decode y_Wk_keyOf.2.1 43 = .ok (.iconst 3, 1) := by decide +kernel
theorem d_Wk_keyOf_44 : decode y_Wk_keyOf.2.1 44 = .ok (.lshl, 1) := by decide +kernel
theorem d_Wk_keyOf_45 : decode y_Wk_keyOf.2.1 45 = .ok (.aload_n 0, 1) := by decide +kernel
theorem d_Wk_keyOf_46 : decode y_Wk_keyOf.2.1 46 = .ok (.getfield 83, 3) := by decide +kernel
theorem d_Wk_keyOf_49 : decode y_Wk_keyOf.2.1 49 = .ok (.i2l, 1) := by decide +kernel
theorem d_Wk_keyOf_50 : decode y_Wk_keyOf.2.1 50 = .ok (.lor, 1) := by decide +kernel
theorem s_Wk_keyOf_21 : aw_VS y_Wk_keyOf 21 [o_ist 1, o_ald 0, o_getJ 3 14, o_c (.int (6 : Int32)), o_ls (fun x z => x <<< (z.toInt64 &&& 63)), o_ald 0, o_getI 3 13, o_il (fun x => x.toInt64), o_l2 (fun x z => x ||| z), o_lst 2, o_lld 2, o_c (.int (10 : Int32)), o_ls (fun x z => x <<< (z.toInt64 &&& 63)), o_ild 1, o_il (fun x => x.toInt64), o_l2 (fun x z => x ||| z), o_c (.int (3 : Int32)), o_ls (fun x z => x <<< (z.toInt64 &&& 63)), o_ald 0, o_getI 3 15, o_il (fun x => x.toInt64), o_l2 (fun x z => x ||| z)] 51 := .cons (v_istore_n d_Wk_keyOf_21) (.cons (v_aload_n (i := 0) d_Wk_keyOf_22 rfl) (.cons (v_getJ (k := 14) k_Mc (by decide) rfl (Or.inr ⟨"AllWays", w_139⟩) d_Wk_keyOf_23) (.cons (v_bipush (v := (6 : Int32)) d_Wk_keyOf_26 (by decide +kernel)) (.cons (v_lshl d_Wk_keyOf_28) (.cons (v_aload_n (i := 0) d_Wk_keyOf_29 rfl) (.cons (v_getI (k := 13) k_Mc (by decide) (Or.inl rfl) (Or.inr ⟨"AllWays", w_137⟩) d_Wk_keyOf_30) (.cons (v_i2l d_Wk_keyOf_33) (.cons (v_lor d_Wk_keyOf_34) (.cons (v_lstore_n d_Wk_keyOf_35) (.cons (v_lload_n (i := 2) d_Wk_keyOf_36 rfl) (.cons (v_bipush (v := (10 : Int32)) d_Wk_keyOf_37 (by decide +kernel)) (.cons (v_lshl d_Wk_keyOf_39) (.cons (v_iload_n (i := 1) d_Wk_keyOf_40 rfl) (.cons (v_i2l d_Wk_keyOf_41) (.cons (v_lor d_Wk_keyOf_42) (.cons (v_iconst (v := (3 : Int32)) d_Wk_keyOf_43 (by decide +kernel)) (.cons (v_lshl d_Wk_keyOf_44) (.cons (v_aload_n (i := 0) d_Wk_keyOf_45 rfl) (.cons (v_getI (k := 15) k_Mc (by decide) (Or.inl rfl) (Or.inr ⟨"AllWays", w_142⟩) d_Wk_keyOf_46) (.cons (v_i2l d_Wk_keyOf_49) (.cons (v_lor d_Wk_keyOf_50) .nil)))))))))))))))))))))
theorem d_Wk_keyOf_51 : decode y_Wk_keyOf.2.1 51 = .ok (.lreturn, 1) := by decide +kernel
theorem b_Wk_keyOf_21 {X : aw_X} {d : Nat} {Q : Option Value → aw_H → Prop} {I : Nat → Nat → Int32} {L : Nat → Nat → Int64} {D : Nat → Nat} {s0 : Int32}
    (h1 : Q (some (.long (((((((L 4 14) <<< ((6 : Int32).toInt64 &&& 63)) ||| ((I 4 13).toInt64)) <<< ((10 : Int32).toInt64 &&& 63)) ||| s0.toInt64) <<< ((3 : Int32).toInt64 &&& 63)) ||| ((I 4 15).toInt64)))) (aw_s I L D)) :
    aw_z X d y_Wk_keyOf Q 21 [some (.ref 4), none, none, none] [.int s0] (aw_s I L D) :=
  (s_Wk_keyOf_21.go [some (.ref 4), some (.int s0), some (.long (((L 4 14) <<< ((6 : Int32).toInt64 &&& 63)) ||| ((I 4 13).toInt64))), none] [.long (((((((L 4 14) <<< ((6 : Int32).toInt64 &&& 63)) ||| ((I 4 13).toInt64)) <<< ((10 : Int32).toInt64 &&& 63)) ||| s0.toInt64) <<< ((3 : Int32).toInt64 &&& 63)) ||| ((I 4 15).toInt64))] (aw_s I L D) rfl (z_lret d_Wk_keyOf_51 rfl (h1)))
/-! Wk_noteWay -/
theorem d_Wk_noteWay_0 : decode y_Wk_noteWay.2.1 0 = .ok (.aload_n 0, 1) := by decide +kernel
theorem d_Wk_noteWay_1 : decode y_Wk_noteWay.2.1 1 = .ok (.lload_n 1, 1) := by decide +kernel
theorem s_Wk_noteWay_0 : aw_VS y_Wk_noteWay 0 [o_ald 0, o_lld 1] 2 := .cons (v_aload_n (i := 0) d_Wk_noteWay_0 rfl) (.cons (v_lload_n (i := 1) d_Wk_noteWay_1 rfl) .nil)
theorem d_Wk_noteWay_2 : decode y_Wk_noteWay.2.1 2 = .ok (.invokevirtual 105, 3) := by decide +kernel
theorem b_Wk_noteWay_0 {X : aw_X} {d : Nat} {Q : Option Value → aw_H → Prop} {I : Nat → Nat → Int32} {L : Nat → Nat → Int64} {D : Nat → Nat} {v1 : Int64} {v3 : Int32}
    (h1 : aw_m X d y_Wk_find [.ref 11, .long v1] (aw_s I L D) (fun r A => aw_z X (d + 1) y_Wk_noteWay Q 5 [some (.ref 11), some (.long v1), none, some (.int v3), none, none] (r.toList ++ []) A)) :
    aw_z X (d + 1) y_Wk_noteWay Q 0 [some (.ref 11), some (.long v1), none, some (.int v3), none, none] [] (aw_s I L D) :=
  (s_Wk_noteWay_0.go [some (.ref 11), some (.long v1), none, some (.int v3), none, none] [.long v1, .ref 11] (aw_s I L D) rfl (z_callV (av := [.long v1]) (st := []) ok_Wk_find (Or.inl w_889) w_891 w_45 k_Wk d_Wk_noteWay_2 rfl (aw_lt (o := 11) rfl) rfl rfl (Nat.le_of_ble_eq_true rfl) (Nat.le_refl _) (Nat.le_refl _) (h1)))
theorem d_Wk_noteWay_5 : decode y_Wk_noteWay.2.1 5 = .ok (.istore 4, 2) := by decide +kernel
theorem d_Wk_noteWay_7 : decode y_Wk_noteWay.2.1 7 = .ok (.iload 4, 2) := by decide +kernel
theorem s_Wk_noteWay_5 : aw_VS y_Wk_noteWay 5 [o_ist 4, o_ild 4] 9 := .cons (v_istore d_Wk_noteWay_5) (.cons (v_iload (i := 4) d_Wk_noteWay_7) .nil)
theorem d_Wk_noteWay_9 : decode y_Wk_noteWay.2.1 9 = .ok (.ifCond .lt (11), 3) := by decide +kernel
theorem d_Wk_noteWay_20 : decode y_Wk_noteWay.2.1 20 = .ok (.return_, 1) := by decide +kernel
theorem d_Wk_noteWay_12 : decode y_Wk_noteWay.2.1 12 = .ok (.iload 4, 2) := by decide +kernel
theorem d_Wk_noteWay_14 : decode y_Wk_noteWay.2.1 14 = .ok (.sipush 4096, 3) := by decide +kernel
theorem s_Wk_noteWay_12 : aw_VS y_Wk_noteWay 12 [o_ild 4, o_c (.int (4096 : Int32))] 17 := .cons (v_iload (i := 4) d_Wk_noteWay_12) (.cons (v_sipush (v := (4096 : Int32)) d_Wk_noteWay_14 (by decide +kernel)) .nil)
theorem d_Wk_noteWay_17 : decode y_Wk_noteWay.2.1 17 = .ok (.if_icmp .lt (4), 3) := by decide +kernel
theorem d_Wk_noteWay_21 : decode y_Wk_noteWay.2.1 21 = .ok (.iload 4, 2) := by decide +kernel
theorem d_Wk_noteWay_23 : decode y_Wk_noteWay.2.1 23 = .ok (.aload_n 0, 1) := by decide +kernel
theorem d_Wk_noteWay_24 : decode y_Wk_noteWay.2.1 24 = .ok (.getfield 61, 3) := by decide +kernel
theorem s_Wk_noteWay_21 : aw_VS y_Wk_noteWay 21 [o_ild 4, o_ald 0, o_getI 4 6] 27 := .cons (v_iload (i := 4) d_Wk_noteWay_21) (.cons (v_aload_n (i := 0) d_Wk_noteWay_23 rfl) (.cons (v_getI (k := 6) k_Wk (by decide) (Or.inl rfl) (Or.inl w_206) d_Wk_noteWay_24) .nil))
theorem d_Wk_noteWay_27 : decode y_Wk_noteWay.2.1 27 = .ok (.if_icmp .ge (27), 3) := by decide +kernel
theorem d_Wk_noteWay_30 : decode y_Wk_noteWay.2.1 30 = .ok (.aload_n 0, 1) := by decide +kernel
theorem d_Wk_noteWay_31 : decode y_Wk_noteWay.2.1 31 = .ok (.getfield 22, 3) := by decide +kernel
theorem d_Wk_noteWay_34 : decode y_Wk_noteWay.2.1 34 = .ok (.iload 4, 2) := by decide +kernel
theorem s_Wk_noteWay_30 : aw_VS y_Wk_noteWay 30 [o_ald 0, o_getA 4 7, o_ild 4] 36 := .cons (v_aload_n (i := 0) d_Wk_noteWay_30 rfl) (.cons (v_getA (k := 7) k_Wk (by decide) rfl (Or.inl w_208) d_Wk_noteWay_31) (.cons (v_iload (i := 4) d_Wk_noteWay_34) .nil))
theorem d_Wk_noteWay_36 : decode y_Wk_noteWay.2.1 36 = .ok (.laload, 1) := by decide +kernel
theorem d_Wk_noteWay_37 : decode y_Wk_noteWay.2.1 37 = .ok (.lload_n 1, 1) := by decide +kernel
theorem d_Wk_noteWay_38 : decode y_Wk_noteWay.2.1 38 = .ok (.lcmp, 1) := by decide +kernel
theorem s_Wk_noteWay_37 : aw_VS y_Wk_noteWay 37 [o_lld 1, o_lc] 39 := .cons (v_lload_n (i := 1) d_Wk_noteWay_37 rfl) (.cons (v_lcmp d_Wk_noteWay_38) .nil)
theorem d_Wk_noteWay_39 : decode y_Wk_noteWay.2.1 39 = .ok (.ifCond .ne (15), 3) := by decide +kernel
theorem d_Wk_noteWay_42 : decode y_Wk_noteWay.2.1 42 = .ok (.aload_n 0, 1) := by decide +kernel
theorem d_Wk_noteWay_43 : decode y_Wk_noteWay.2.1 43 = .ok (.getfield 25, 3) := by decide +kernel
theorem d_Wk_noteWay_46 : decode y_Wk_noteWay.2.1 46 = .ok (.iload 4, 2) := by decide +kernel
theorem d_Wk_noteWay_48 : decode y_Wk_noteWay.2.1 48 = .ok (.dup2, 1) := by decide +kernel
theorem s_Wk_noteWay_42 : aw_VS y_Wk_noteWay 42 [o_ald 0, o_getA 4 8, o_ild 4, o_dup2] 49 := .cons (v_aload_n (i := 0) d_Wk_noteWay_42 rfl) (.cons (v_getA (k := 8) k_Wk (by decide) rfl (Or.inl w_209) d_Wk_noteWay_43) (.cons (v_iload (i := 4) d_Wk_noteWay_46) (.cons (v_dup2 d_Wk_noteWay_48) .nil)))
theorem d_Wk_noteWay_49 : decode y_Wk_noteWay.2.1 49 = .ok (.iaload, 1) := by decide +kernel
theorem d_Wk_noteWay_50 : decode y_Wk_noteWay.2.1 50 = .ok (.iconst 1, 1) := by decide +kernel
theorem d_Wk_noteWay_51 : decode y_Wk_noteWay.2.1 51 = .ok (.iadd, 1) := by decide +kernel
theorem s_Wk_noteWay_50 : aw_VS y_Wk_noteWay 50 [o_c (.int (1 : Int32)), o_i2 (fun x z => x + z)] 52 := .cons (v_iconst (v := (1 : Int32)) d_Wk_noteWay_50 (by decide +kernel)) (.cons (v_iadd d_Wk_noteWay_51) .nil)
theorem d_Wk_noteWay_52 : decode y_Wk_noteWay.2.1 52 = .ok (.iastore, 1) := by decide +kernel
theorem d_Wk_noteWay_53 : decode y_Wk_noteWay.2.1 53 = .ok (.return_, 1) := by decide +kernel
theorem b_Wk_noteWay_5 {X : aw_X} {d : Nat} {Q : Option Value → aw_H → Prop} {I : Nat → Nat → Int32} {L : Nat → Nat → Int64} {D : Nat → Nat} {v1 : Int64} {v3 : Int32} {s0 : Int32}
    (h1 : s0 < 0 → Q none (aw_s I L D))
    (h2 : ¬ s0 < 0 → s0 < (4096 : Int32) → (I 11 6) ≤ s0 → aw_z X (d + 1) y_Wk_noteWay Q 54 [some (.ref 11), some (.long v1), none, some (.int v3), some (.int s0), none] [] (aw_s I L D))
    (h3 : ¬ s0 < 0 → s0 < (4096 : Int32) → ¬ (I 11 6) ≤ s0 → vp_in s0 4096)
    (h4 : ¬ s0 < 0 → s0 < (4096 : Int32) → ¬ (I 11 6) ≤ s0 → ¬ (lg_cmp (L 15 s0.toNatClampNeg) v1) = 0 → aw_z X (d + 1) y_Wk_noteWay Q 54 [some (.ref 11), some (.long v1), none, some (.int v3), some (.int s0), none] [] (aw_s I L D))
    (h5 : ¬ s0 < 0 → s0 < (4096 : Int32) → ¬ (I 11 6) ≤ s0 → (lg_cmp (L 15 s0.toNatClampNeg) v1) = 0 → vp_in s0 4096)
    (h6 : ¬ s0 < 0 → s0 < (4096 : Int32) → ¬ (I 11 6) ≤ s0 → (lg_cmp (L 15 s0.toNatClampNeg) v1) = 0 → vp_in s0 4096)
    (h7 : ¬ s0 < 0 → s0 < (4096 : Int32) → ¬ (I 11 6) ≤ s0 → (lg_cmp (L 15 s0.toNatClampNeg) v1) = 0 → Q none (aw_s (aw_u I 16 s0.toNatClampNeg ((I 16 s0.toNatClampNeg) + (1 : Int32))) L D))
    (h8 : ¬ s0 < 0 → ¬ s0 < (4096 : Int32) → Q none (aw_s I L D)) :
    aw_z X (d + 1) y_Wk_noteWay Q 5 [some (.ref 11), some (.long v1), none, some (.int v3), none, none] [.int s0] (aw_s I L D) :=
  (s_Wk_noteWay_5.go [some (.ref 11), some (.long v1), none, some (.int v3), some (.int s0), none] [.int s0] (aw_s I L D) rfl (z_if_lt (tgt := 20) d_Wk_noteWay_9 rfl (fun q1 => (z_vret d_Wk_noteWay_20 rfl (h1 q1))) (fun q2 => (s_Wk_noteWay_12.go [some (.ref 11), some (.long v1), none, some (.int v3), some (.int s0), none] [.int (4096 : Int32), .int s0] (aw_s I L D) rfl (z_icmp_lt (tgt := 21) d_Wk_noteWay_17 rfl (fun q3 => (s_Wk_noteWay_21.go [some (.ref 11), some (.long v1), none, some (.int v3), some (.int s0), none] [.int (I 11 6), .int s0] (aw_s I L D) rfl (z_icmp_ge (tgt := 54) d_Wk_noteWay_27 rfl (fun q5 => (h2 q2 q3 q5)) (fun q6 => (s_Wk_noteWay_30.go [some (.ref 11), some (.long v1), none, some (.int v3), some (.int s0), none] [.int s0, .ref 15] (aw_s I L D) rfl (z_lald (n := 4096) rfl (aw_lt (o := 15) rfl) (h3 q2 q3 q6) d_Wk_noteWay_36 (s_Wk_noteWay_37.go [some (.ref 11), some (.long v1), none, some (.int v3), some (.int s0), none] [.int (lg_cmp (L 15 s0.toNatClampNeg) v1)] (aw_s I L D) rfl (z_if_ne (tgt := 54) d_Wk_noteWay_39 rfl (fun q7 => (h4 q2 q3 q6 q7)) (fun q8 => (s_Wk_noteWay_42.go [some (.ref 11), some (.long v1), none, some (.int v3), some (.int s0), none] [.int s0, .ref 16, .int s0, .ref 16] (aw_s I L D) rfl (z_iald (n := 4096) rfl (aw_lt (o := 16) rfl) (h5 q2 q3 q6 q8) d_Wk_noteWay_49 (s_Wk_noteWay_50.go [some (.ref 11), some (.long v1), none, some (.int v3), some (.int s0), none] [.int ((I 16 s0.toNatClampNeg) + (1 : Int32)), .int s0, .ref 16] (aw_s I L D) rfl (z_iast (n := 4096) rfl (aw_lt (o := 16) rfl) (h6 q2 q3 q6 q8) d_Wk_noteWay_52 (z_vret d_Wk_noteWay_53 rfl (h7 q2 q3 q6 q8))))))))))))))) (fun q4 => (z_vret d_Wk_noteWay_20 rfl (h8 q2 q4))))))))
theorem d_Wk_noteWay_54 : decode y_Wk_noteWay.2.1 54 = .ok (.aload_n 0, 1) := by decide +kernel
theorem d_Wk_noteWay_55 : decode y_Wk_noteWay.2.1 55 = .ok (.getfield 61, 3) := by decide +kernel
theorem d_Wk_noteWay_58 : decode y_Wk_noteWay.2.1 58 = .ok (.iload 4, 2) := by decide +kernel
theorem d_Wk_noteWay_60 : decode y_Wk_noteWay.2.1 60 = .ok (.isub, 1) := by decide +kernel
theorem d_Wk_noteWay_61 : decode y_Wk_noteWay.2.1 61 = .ok (.istore 5, 2) := by decide +kernel
theorem d_Wk_noteWay_63 : decode y_Wk_noteWay.2.1 63 = .ok (.iload 5, 2) := by decide +kernel
theorem s_Wk_noteWay_54 : aw_VS y_Wk_noteWay 54 [o_ald 0, o_getI 4 6, o_ild 4, o_i2 (fun x z => x - z), o_ist 5, o_ild 5] 65 := .cons (v_aload_n (i := 0) d_Wk_noteWay_54 rfl) (.cons (v_getI (k := 6) k_Wk (by decide) (Or.inl rfl) (Or.inl w_206) d_Wk_noteWay_55) (.cons (v_iload (i := 4) d_Wk_noteWay_58) (.cons (v_isub d_Wk_noteWay_60) (.cons (v_istore d_Wk_noteWay_61) (.cons (v_iload (i := 5) d_Wk_noteWay_63) .nil)))))
theorem d_Wk_noteWay_65 : decode y_Wk_noteWay.2.1 65 = .ok (.ifCond .lt (13), 3) := by decide +kernel
theorem d_Wk_noteWay_78 : decode y_Wk_noteWay.2.1 78 = .ok (.return_, 1) := by decide +kernel
theorem d_Wk_noteWay_68 : decode y_Wk_noteWay.2.1 68 = .ok (.aload_n 0, 1) := by decide +kernel
theorem d_Wk_noteWay_69 : decode y_Wk_noteWay.2.1 69 = .ok (.getfield 61, 3) := by decide +kernel
theorem d_Wk_noteWay_72 : decode y_Wk_noteWay.2.1 72 = .ok (.sipush 4096, 3) := by decide +kernel
theorem s_Wk_noteWay_68 : aw_VS y_Wk_noteWay 68 [o_ald 0, o_getI 4 6, o_c (.int (4096 : Int32))] 75 := .cons (v_aload_n (i := 0) d_Wk_noteWay_68 rfl) (.cons (v_getI (k := 6) k_Wk (by decide) (Or.inl rfl) (Or.inl w_206) d_Wk_noteWay_69) (.cons (v_sipush (v := (4096 : Int32)) d_Wk_noteWay_72 (by decide +kernel)) .nil))
theorem d_Wk_noteWay_75 : decode y_Wk_noteWay.2.1 75 = .ok (.if_icmp .lt (4), 3) := by decide +kernel
theorem d_Wk_noteWay_79 : decode y_Wk_noteWay.2.1 79 = .ok (.aload_n 0, 1) := by decide +kernel
theorem d_Wk_noteWay_80 : decode y_Wk_noteWay.2.1 80 = .ok (.getfield 22, 3) := by decide +kernel
theorem d_Wk_noteWay_83 : decode y_Wk_noteWay.2.1 83 = .ok (.iload 4, 2) := by decide +kernel
theorem d_Wk_noteWay_85 : decode y_Wk_noteWay.2.1 85 = .ok (.aload_n 0, 1) := by decide +kernel
theorem d_Wk_noteWay_86 : decode y_Wk_noteWay.2.1 86 = .ok (.getfield 22, 3) := by decide +kernel
theorem d_Wk_noteWay_89 : decode y_Wk_noteWay.2.1 89 = .ok (.iload 4, 2) := by decide +kernel
theorem d_Wk_noteWay_91 : decode y_Wk_noteWay.2.1 91 = .ok (.iconst 1, 1) := by decide +kernel
theorem d_Wk_noteWay_92 : decode y_Wk_noteWay.2.1 92 = .ok (.iadd, 1) := by decide +kernel
theorem d_Wk_noteWay_93 : decode y_Wk_noteWay.2.1 93 = .ok (.iload 5, 2) := by decide +kernel
theorem s_Wk_noteWay_79 : aw_VS y_Wk_noteWay 79 [o_ald 0, o_getA 4 7, o_ild 4, o_ald 0, o_getA 4 7, o_ild 4, o_c (.int (1 : Int32)), o_i2 (fun x z => x + z), o_ild 5] 95 := .cons (v_aload_n (i := 0) d_Wk_noteWay_79 rfl) (.cons (v_getA (k := 7) k_Wk (by decide) rfl (Or.inl w_208) d_Wk_noteWay_80) (.cons (v_iload (i := 4) d_Wk_noteWay_83) (.cons (v_aload_n (i := 0) d_Wk_noteWay_85 rfl) (.cons (v_getA (k := 7) k_Wk (by decide) rfl (Or.inl w_208) d_Wk_noteWay_86) (.cons (v_iload (i := 4) d_Wk_noteWay_89) (.cons (v_iconst (v := (1 : Int32)) d_Wk_noteWay_91 (by decide +kernel)) (.cons (v_iadd d_Wk_noteWay_92) (.cons (v_iload (i := 5) d_Wk_noteWay_93) .nil))))))))
theorem d_Wk_noteWay_95 : decode y_Wk_noteWay.2.1 95 = .ok (.invokestatic 109, 3) := by decide +kernel
theorem d_Wk_noteWay_98 : decode y_Wk_noteWay.2.1 98 = .ok (.aload_n 0, 1) := by decide +kernel
theorem d_Wk_noteWay_99 : decode y_Wk_noteWay.2.1 99 = .ok (.getfield 25, 3) := by decide +kernel
theorem d_Wk_noteWay_102 : decode y_Wk_noteWay.2.1 102 = .ok (.iload 4, 2) := by decide +kernel
theorem d_Wk_noteWay_104 : decode y_Wk_noteWay.2.1 104 = .ok (.aload_n 0, 1) := by decide +kernel
theorem d_Wk_noteWay_105 : decode y_Wk_noteWay.2.1 105 = .ok (.getfield 25, 3) := by decide +kernel
theorem d_Wk_noteWay_108 : decode y_Wk_noteWay.2.1 108 = .ok (.iload 4, 2) := by decide +kernel
theorem d_Wk_noteWay_110 : decode y_Wk_noteWay.2.1 110 = .ok (.iconst 1, 1) := by decide +kernel
theorem d_Wk_noteWay_111 : decode y_Wk_noteWay.2.1 111 = .ok (.iadd, 1) := by decide +kernel
theorem d_Wk_noteWay_112 : decode y_Wk_noteWay.2.1 112 = .ok (.iload 5, 2) := by decide +kernel
theorem s_Wk_noteWay_98 : aw_VS y_Wk_noteWay 98 [o_ald 0, o_getA 4 8, o_ild 4, o_ald 0, o_getA 4 8, o_ild 4, o_c (.int (1 : Int32)), o_i2 (fun x z => x + z), o_ild 5] 114 := .cons (v_aload_n (i := 0) d_Wk_noteWay_98 rfl) (.cons (v_getA (k := 8) k_Wk (by decide) rfl (Or.inl w_209) d_Wk_noteWay_99) (.cons (v_iload (i := 4) d_Wk_noteWay_102) (.cons (v_aload_n (i := 0) d_Wk_noteWay_104 rfl) (.cons (v_getA (k := 8) k_Wk (by decide) rfl (Or.inl w_209) d_Wk_noteWay_105) (.cons (v_iload (i := 4) d_Wk_noteWay_108) (.cons (v_iconst (v := (1 : Int32)) d_Wk_noteWay_110 (by decide +kernel)) (.cons (v_iadd d_Wk_noteWay_111) (.cons (v_iload (i := 5) d_Wk_noteWay_112) .nil))))))))
theorem d_Wk_noteWay_114 : decode y_Wk_noteWay.2.1 114 = .ok (.invokestatic 109, 3) := by decide +kernel
theorem d_Wk_noteWay_117 : decode y_Wk_noteWay.2.1 117 = .ok (.aload_n 0, 1) := by decide +kernel
theorem d_Wk_noteWay_118 : decode y_Wk_noteWay.2.1 118 = .ok (.getfield 28, 3) := by decide +kernel
theorem d_Wk_noteWay_121 : decode y_Wk_noteWay.2.1 121 = .ok (.iload 4, 2) := by decide +kernel
theorem d_Wk_noteWay_123 : decode y_Wk_noteWay.2.1 123 = .ok (.aload_n 0, 1) := by decide +kernel
theorem d_Wk_noteWay_124 : decode y_Wk_noteWay.2.1 124 = .ok (.getfield 28, 3) := by decide +kernel
theorem d_Wk_noteWay_127 : decode y_Wk_noteWay.2.1 127 = .ok (.iload 4, 2) := by decide +kernel
theorem d_Wk_noteWay_129 : decode y_Wk_noteWay.2.1 129 = .ok (.iconst 1, 1) := by decide +kernel
theorem d_Wk_noteWay_130 : decode y_Wk_noteWay.2.1 130 = .ok (.iadd, 1) := by decide +kernel
theorem d_Wk_noteWay_131 : decode y_Wk_noteWay.2.1 131 = .ok (.iload 5, 2) := by decide +kernel
theorem s_Wk_noteWay_117 : aw_VS y_Wk_noteWay 117 [o_ald 0, o_getA 4 9, o_ild 4, o_ald 0, o_getA 4 9, o_ild 4, o_c (.int (1 : Int32)), o_i2 (fun x z => x + z), o_ild 5] 133 := .cons (v_aload_n (i := 0) d_Wk_noteWay_117 rfl) (.cons (v_getA (k := 9) k_Wk (by decide) rfl (Or.inl w_210) d_Wk_noteWay_118) (.cons (v_iload (i := 4) d_Wk_noteWay_121) (.cons (v_aload_n (i := 0) d_Wk_noteWay_123 rfl) (.cons (v_getA (k := 9) k_Wk (by decide) rfl (Or.inl w_210) d_Wk_noteWay_124) (.cons (v_iload (i := 4) d_Wk_noteWay_127) (.cons (v_iconst (v := (1 : Int32)) d_Wk_noteWay_129 (by decide +kernel)) (.cons (v_iadd d_Wk_noteWay_130) (.cons (v_iload (i := 5) d_Wk_noteWay_131) .nil))))))))
theorem d_Wk_noteWay_133 : decode y_Wk_noteWay.2.1 133 = .ok (.invokestatic 109, 3) := by decide +kernel
theorem d_Wk_noteWay_136 : decode y_Wk_noteWay.2.1 136 = .ok (.aload_n 0, 1) := by decide +kernel
theorem d_Wk_noteWay_137 : decode y_Wk_noteWay.2.1 137 = .ok (.getfield 22, 3) := by decide +kernel
theorem d_Wk_noteWay_140 : decode y_Wk_noteWay.2.1 140 = .ok (.iload 4, 2) := by decide +kernel
theorem d_Wk_noteWay_142 : decode y_Wk_noteWay.2.1 142 = .ok (.lload_n 1, 1) := by decide +kernel
theorem s_Wk_noteWay_136 : aw_VS y_Wk_noteWay 136 [o_ald 0, o_getA 4 7, o_ild 4, o_lld 1] 143 := .cons (v_aload_n (i := 0) d_Wk_noteWay_136 rfl) (.cons (v_getA (k := 7) k_Wk (by decide) rfl (Or.inl w_208) d_Wk_noteWay_137) (.cons (v_iload (i := 4) d_Wk_noteWay_140) (.cons (v_lload_n (i := 1) d_Wk_noteWay_142 rfl) .nil)))
theorem d_Wk_noteWay_143 : decode y_Wk_noteWay.2.1 143 = .ok (.lastore, 1) := by decide +kernel
theorem d_Wk_noteWay_144 : decode y_Wk_noteWay.2.1 144 = .ok (.aload_n 0, 1) := by decide +kernel
theorem d_Wk_noteWay_145 : decode y_Wk_noteWay.2.1 145 = .ok (.getfield 25, 3) := by decide +kernel
theorem d_Wk_noteWay_148 : decode y_Wk_noteWay.2.1 148 = .ok (.iload 4, 2) := by decide +kernel
theorem d_Wk_noteWay_150 : decode y_Wk_noteWay.2.1 150 = .ok (.iconst 1, 1) := by decide +kernel
theorem s_Wk_noteWay_144 : aw_VS y_Wk_noteWay 144 [o_ald 0, o_getA 4 8, o_ild 4, o_c (.int (1 : Int32))] 151 := .cons (v_aload_n (i := 0) d_Wk_noteWay_144 rfl) (.cons (v_getA (k := 8) k_Wk (by decide) rfl (Or.inl w_209) d_Wk_noteWay_145) (.cons (v_iload (i := 4) d_Wk_noteWay_148) (.cons (v_iconst (v := (1 : Int32)) d_Wk_noteWay_150 (by decide +kernel)) .nil)))
theorem d_Wk_noteWay_151 : decode y_Wk_noteWay.2.1 151 = .ok (.iastore, 1) := by decide +kernel
theorem d_Wk_noteWay_152 : decode y_Wk_noteWay.2.1 152 = .ok (.aload_n 0, 1) := by decide +kernel
theorem d_Wk_noteWay_153 : decode y_Wk_noteWay.2.1 153 = .ok (.getfield 28, 3) := by decide +kernel
theorem d_Wk_noteWay_156 : decode y_Wk_noteWay.2.1 156 = .ok (.iload 4, 2) := by decide +kernel
theorem d_Wk_noteWay_158 : decode y_Wk_noteWay.2.1 158 = .ok (.iload_n 3, 1) := by decide +kernel
theorem s_Wk_noteWay_152 : aw_VS y_Wk_noteWay 152 [o_ald 0, o_getA 4 9, o_ild 4, o_ild 3] 159 := .cons (v_aload_n (i := 0) d_Wk_noteWay_152 rfl) (.cons (v_getA (k := 9) k_Wk (by decide) rfl (Or.inl w_210) d_Wk_noteWay_153) (.cons (v_iload (i := 4) d_Wk_noteWay_156) (.cons (v_iload_n (i := 3) d_Wk_noteWay_158 rfl) .nil)))
theorem d_Wk_noteWay_159 : decode y_Wk_noteWay.2.1 159 = .ok (.iastore, 1) := by decide +kernel
theorem d_Wk_noteWay_160 : decode y_Wk_noteWay.2.1 160 = .ok (.aload_n 0, 1) := by decide +kernel
theorem d_Wk_noteWay_161 : decode y_Wk_noteWay.2.1 161 = .ok (.dup, 1) := by decide +kernel
theorem d_Wk_noteWay_162 : decode y_Wk_noteWay.2.1 162 = .ok (.getfield 61, 3) := by decide +kernel
theorem d_Wk_noteWay_165 : decode y_Wk_noteWay.2.1 165 = .ok (.iconst 1, 1) := by decide +kernel
theorem d_Wk_noteWay_166 : decode y_Wk_noteWay.2.1 166 = .ok (.iadd, 1) := by decide +kernel
theorem d_Wk_noteWay_167 : decode y_Wk_noteWay.2.1 167 = .ok (.putfield 61, 3) := by decide +kernel
theorem s_Wk_noteWay_160 : aw_VS y_Wk_noteWay 160 [o_ald 0, o_dup, o_getI 4 6, o_c (.int (1 : Int32)), o_i2 (fun x z => x + z), o_putI 4 6] 170 := .cons (v_aload_n (i := 0) d_Wk_noteWay_160 rfl) (.cons (v_dup d_Wk_noteWay_161) (.cons (v_getI (k := 6) k_Wk (by decide) (Or.inl rfl) (Or.inl w_206) d_Wk_noteWay_162) (.cons (v_iconst (v := (1 : Int32)) d_Wk_noteWay_165 (by decide +kernel)) (.cons (v_iadd d_Wk_noteWay_166) (.cons (v_putI (k := 6) k_Wk (by decide) rfl (Or.inl ⟨rfl, Or.inl w_206⟩) d_Wk_noteWay_167) .nil)))))
theorem d_Wk_noteWay_170 : decode y_Wk_noteWay.2.1 170 = .ok (.return_, 1) := by decide +kernel
theorem b_Wk_noteWay_54 {X : aw_X} {d : Nat} {Q : Option Value → aw_H → Prop} {I : Nat → Nat → Int32} {L : Nat → Nat → Int64} {D : Nat → Nat} {v1 : Int64} {v3 : Int32} {v4 : Int32}
    (h1 : ((I 11 6) - v4) < 0 → Q none (aw_s I L D))
    (h2 : ¬ ((I 11 6) - v4) < 0 → (I 11 6) < (4096 : Int32) → ¬ v4 < 0)
    (h3 : ¬ ((I 11 6) - v4) < 0 → (I 11 6) < (4096 : Int32) → ¬ (v4 + (1 : Int32)) < 0)
    (h4 : ¬ ((I 11 6) - v4) < 0 → (I 11 6) < (4096 : Int32) → ¬ ((I 11 6) - v4) < 0)
    (h5 : ¬ ((I 11 6) - v4) < 0 → (I 11 6) < (4096 : Int32) → v4.toNatClampNeg + ((I 11 6) - v4).toNatClampNeg ≤ 4096)
    (h6 : ¬ ((I 11 6) - v4) < 0 → (I 11 6) < (4096 : Int32) → (v4 + (1 : Int32)).toNatClampNeg + ((I 11 6) - v4).toNatClampNeg ≤ 4096)
    (h7 : ¬ ((I 11 6) - v4) < 0 → (I 11 6) < (4096 : Int32) → ¬ v4 < 0)
    (h8 : ¬ ((I 11 6) - v4) < 0 → (I 11 6) < (4096 : Int32) → ¬ (v4 + (1 : Int32)) < 0)
    (h9 : ¬ ((I 11 6) - v4) < 0 → (I 11 6) < (4096 : Int32) → ¬ ((I 11 6) - v4) < 0)
    (h10 : ¬ ((I 11 6) - v4) < 0 → (I 11 6) < (4096 : Int32) → v4.toNatClampNeg + ((I 11 6) - v4).toNatClampNeg ≤ 4096)
    (h11 : ¬ ((I 11 6) - v4) < 0 → (I 11 6) < (4096 : Int32) → (v4 + (1 : Int32)).toNatClampNeg + ((I 11 6) - v4).toNatClampNeg ≤ 4096)
    (h12 : ¬ ((I 11 6) - v4) < 0 → (I 11 6) < (4096 : Int32) → ¬ v4 < 0)
    (h13 : ¬ ((I 11 6) - v4) < 0 → (I 11 6) < (4096 : Int32) → ¬ (v4 + (1 : Int32)) < 0)
    (h14 : ¬ ((I 11 6) - v4) < 0 → (I 11 6) < (4096 : Int32) → ¬ ((I 11 6) - v4) < 0)
    (h15 : ¬ ((I 11 6) - v4) < 0 → (I 11 6) < (4096 : Int32) → v4.toNatClampNeg + ((I 11 6) - v4).toNatClampNeg ≤ 4096)
    (h16 : ¬ ((I 11 6) - v4) < 0 → (I 11 6) < (4096 : Int32) → (v4 + (1 : Int32)).toNatClampNeg + ((I 11 6) - v4).toNatClampNeg ≤ 4096)
    (h17 : ¬ ((I 11 6) - v4) < 0 → (I 11 6) < (4096 : Int32) → vp_in v4 4096)
    (h18 : ¬ ((I 11 6) - v4) < 0 → (I 11 6) < (4096 : Int32) → vp_in v4 4096)
    (h19 : ¬ ((I 11 6) - v4) < 0 → (I 11 6) < (4096 : Int32) → vp_in v4 4096)
    (h20 : ¬ ((I 11 6) - v4) < 0 → (I 11 6) < (4096 : Int32) → Q none (aw_s (aw_u (aw_u (aw_u (aw_cp (aw_cp I 16 v4.toNatClampNeg ((v4 + (1 : Int32)).toNatClampNeg) (((I 11 6) - v4).toNatClampNeg)) 17 v4.toNatClampNeg ((v4 + (1 : Int32)).toNatClampNeg) (((I 11 6) - v4).toNatClampNeg)) 16 v4.toNatClampNeg (1 : Int32)) 17 v4.toNatClampNeg v3) 11 6 ((I 11 6) + (1 : Int32))) (aw_u (aw_cp L 15 v4.toNatClampNeg ((v4 + (1 : Int32)).toNatClampNeg) (((I 11 6) - v4).toNatClampNeg)) 15 v4.toNatClampNeg v1) D))
    (h21 : ¬ ((I 11 6) - v4) < 0 → ¬ (I 11 6) < (4096 : Int32) → Q none (aw_s I L D)) :
    aw_z X (d + 1) y_Wk_noteWay Q 54 [some (.ref 11), some (.long v1), none, some (.int v3), some (.int v4), none] [] (aw_s I L D) :=
  (s_Wk_noteWay_54.go [some (.ref 11), some (.long v1), none, some (.int v3), some (.int v4), some (.int ((I 11 6) - v4))] [.int ((I 11 6) - v4)] (aw_s I L D) rfl (z_if_lt (tgt := 78) d_Wk_noteWay_65 rfl (fun q1 => (z_vret d_Wk_noteWay_78 rfl (h1 q1))) (fun q2 => (s_Wk_noteWay_68.go [some (.ref 11), some (.long v1), none, some (.int v3), some (.int v4), some (.int ((I 11 6) - v4))] [.int (4096 : Int32), .int (I 11 6)] (aw_s I L D) rfl (z_icmp_lt (tgt := 79) d_Wk_noteWay_75 rfl (fun q3 => (s_Wk_noteWay_79.go [some (.ref 11), some (.long v1), none, some (.int v3), some (.int v4), some (.int ((I 11 6) - v4))] [.int ((I 11 6) - v4), .int (v4 + (1 : Int32)), .ref 15, .int v4, .ref 15] (aw_s I L D) rfl (z_acpJ (n0 := 4096) ⟨w_896, w_898, w_897, w_68⟩ rfl rfl (aw_lt (o := 15) rfl) (h2 q2 q3) (h3 q2 q3) (h4 q2 q3) (h5 q2 q3) (h6 q2 q3) d_Wk_noteWay_95 (s_Wk_noteWay_98.go [some (.ref 11), some (.long v1), none, some (.int v3), some (.int v4), some (.int ((I 11 6) - v4))] [.int ((I 11 6) - v4), .int (v4 + (1 : Int32)), .ref 16, .int v4, .ref 16] (aw_s I (aw_cp L 15 v4.toNatClampNeg ((v4 + (1 : Int32)).toNatClampNeg) (((I 11 6) - v4).toNatClampNeg)) D) rfl (z_acpI (n0 := 4096) ⟨w_896, w_898, w_897, w_68⟩ rfl rfl (aw_lt (o := 16) rfl) (h7 q2 q3) (h8 q2 q3) (h9 q2 q3) (h10 q2 q3) (h11 q2 q3) d_Wk_noteWay_114 (s_Wk_noteWay_117.go [some (.ref 11), some (.long v1), none, some (.int v3), some (.int v4), some (.int ((I 11 6) - v4))] [.int ((I 11 6) - v4), .int (v4 + (1 : Int32)), .ref 17, .int v4, .ref 17] (aw_s (aw_cp I 16 v4.toNatClampNeg ((v4 + (1 : Int32)).toNatClampNeg) (((I 11 6) - v4).toNatClampNeg)) (aw_cp L 15 v4.toNatClampNeg ((v4 + (1 : Int32)).toNatClampNeg) (((I 11 6) - v4).toNatClampNeg)) D) rfl (z_acpI (n0 := 4096) ⟨w_896, w_898, w_897, w_68⟩ rfl rfl (aw_lt (o := 17) rfl) (h12 q2 q3) (h13 q2 q3) (h14 q2 q3) (h15 q2 q3) (h16 q2 q3) d_Wk_noteWay_133 (s_Wk_noteWay_136.go [some (.ref 11), some (.long v1), none, some (.int v3), some (.int v4), some (.int ((I 11 6) - v4))] [.long v1, .int v4, .ref 15] (aw_s (aw_cp (aw_cp I 16 v4.toNatClampNeg ((v4 + (1 : Int32)).toNatClampNeg) (((I 11 6) - v4).toNatClampNeg)) 17 v4.toNatClampNeg ((v4 + (1 : Int32)).toNatClampNeg) (((I 11 6) - v4).toNatClampNeg)) (aw_cp L 15 v4.toNatClampNeg ((v4 + (1 : Int32)).toNatClampNeg) (((I 11 6) - v4).toNatClampNeg)) D) rfl (z_last (n := 4096) rfl rfl (aw_lt (o := 15) rfl) (h17 q2 q3) d_Wk_noteWay_143 (s_Wk_noteWay_144.go [some (.ref 11), some (.long v1), none, some (.int v3), some (.int v4), some (.int ((I 11 6) - v4))] [.int (1 : Int32), .int v4, .ref 16] (aw_s (aw_cp (aw_cp I 16 v4.toNatClampNeg ((v4 + (1 : Int32)).toNatClampNeg) (((I 11 6) - v4).toNatClampNeg)) 17 v4.toNatClampNeg ((v4 + (1 : Int32)).toNatClampNeg) (((I 11 6) - v4).toNatClampNeg)) (aw_u (aw_cp L 15 v4.toNatClampNeg ((v4 + (1 : Int32)).toNatClampNeg) (((I 11 6) - v4).toNatClampNeg)) 15 v4.toNatClampNeg v1) D) rfl (z_iast (n := 4096) rfl (aw_lt (o := 16) rfl) (h18 q2 q3) d_Wk_noteWay_151 (s_Wk_noteWay_152.go [some (.ref 11), some (.long v1), none, some (.int v3), some (.int v4), some (.int ((I 11 6) - v4))] [.int v3, .int v4, .ref 17] (aw_s (aw_u (aw_cp (aw_cp I 16 v4.toNatClampNeg ((v4 + (1 : Int32)).toNatClampNeg) (((I 11 6) - v4).toNatClampNeg)) 17 v4.toNatClampNeg ((v4 + (1 : Int32)).toNatClampNeg) (((I 11 6) - v4).toNatClampNeg)) 16 v4.toNatClampNeg (1 : Int32)) (aw_u (aw_cp L 15 v4.toNatClampNeg ((v4 + (1 : Int32)).toNatClampNeg) (((I 11 6) - v4).toNatClampNeg)) 15 v4.toNatClampNeg v1) D) rfl (z_iast (n := 4096) rfl (aw_lt (o := 17) rfl) (h19 q2 q3) d_Wk_noteWay_159 (s_Wk_noteWay_160.go [some (.ref 11), some (.long v1), none, some (.int v3), some (.int v4), some (.int ((I 11 6) - v4))] [] (aw_s (aw_u (aw_u (aw_u (aw_cp (aw_cp I 16 v4.toNatClampNeg ((v4 + (1 : Int32)).toNatClampNeg) (((I 11 6) - v4).toNatClampNeg)) 17 v4.toNatClampNeg ((v4 + (1 : Int32)).toNatClampNeg) (((I 11 6) - v4).toNatClampNeg)) 16 v4.toNatClampNeg (1 : Int32)) 17 v4.toNatClampNeg v3) 11 6 ((I 11 6) + (1 : Int32))) (aw_u (aw_cp L 15 v4.toNatClampNeg ((v4 + (1 : Int32)).toNatClampNeg) (((I 11 6) - v4).toNatClampNeg)) 15 v4.toNatClampNeg v1) D) rfl (z_vret d_Wk_noteWay_170 rfl (h20 q2 q3)))))))))))))))) (fun q4 => (z_vret d_Wk_noteWay_78 rfl (h21 q2 q4))))))))
/-! Wk_find -/
theorem d_Wk_find_0 : decode y_Wk_find.2.1 0 = .ok (.iconst 0, 1) := by decide +kernel
theorem d_Wk_find_1 : decode y_Wk_find.2.1 1 = .ok (.istore_n 3, 1) := by decide +kernel
theorem d_Wk_find_2 : decode y_Wk_find.2.1 2 = .ok (.aload_n 0, 1) := by decide +kernel
theorem d_Wk_find_3 : decode y_Wk_find.2.1 3 = .ok (.getfield 61, 3) := by decide +kernel
theorem d_Wk_find_6 : decode y_Wk_find.2.1 6 = .ok (.istore 4, 2) := by decide +kernel
theorem d_Wk_find_8 : decode y_Wk_find.2.1 8 = .ok (.iconst 0, 1) := by decide +kernel
theorem d_Wk_find_9 : decode y_Wk_find.2.1 9 = .ok (.istore 5, 2) := by decide +kernel
theorem s_Wk_find_0 : aw_VS y_Wk_find 0 [o_c (.int (0 : Int32)), o_ist 3, o_ald 0, o_getI 4 6, o_ist 4, o_c (.int (0 : Int32)), o_ist 5] 11 := .cons (v_iconst (v := (0 : Int32)) d_Wk_find_0 (by decide +kernel)) (.cons (v_istore_n d_Wk_find_1) (.cons (v_aload_n (i := 0) d_Wk_find_2 rfl) (.cons (v_getI (k := 6) k_Wk (by decide) (Or.inl rfl) (Or.inl w_206) d_Wk_find_3) (.cons (v_istore d_Wk_find_6) (.cons (v_iconst (v := (0 : Int32)) d_Wk_find_8 (by decide +kernel)) (.cons (v_istore d_Wk_find_9) .nil))))))
theorem b_Wk_find_0 {X : aw_X} {d : Nat} {Q : Option Value → aw_H → Prop} {I : Nat → Nat → Int32} {L : Nat → Nat → Int64} {D : Nat → Nat} {v1 : Int64}
    (h1 : aw_z X (d + 1) y_Wk_find Q 11 [some (.ref 11), some (.long v1), none, some (.int (0 : Int32)), some (.int (I 11 6)), some (.int (0 : Int32)), none] [] (aw_s I L D)) :
    aw_z X (d + 1) y_Wk_find Q 0 [some (.ref 11), some (.long v1), none, none, none, none, none] [] (aw_s I L D) :=
  (s_Wk_find_0.go [some (.ref 11), some (.long v1), none, some (.int (0 : Int32)), some (.int (I 11 6)), some (.int (0 : Int32)), none] [] (aw_s I L D) rfl (h1))
theorem d_Wk_find_11 : decode y_Wk_find.2.1 11 = .ok (.iload 5, 2) := by decide +kernel
theorem d_Wk_find_13 : decode y_Wk_find.2.1 13 = .ok (.bipush 40, 2) := by decide +kernel
theorem s_Wk_find_11 : aw_VS y_Wk_find 11 [o_ild 5, o_c (.int (40 : Int32))] 15 := .cons (v_iload (i := 5) d_Wk_find_11) (.cons (v_bipush (v := (40 : Int32)) d_Wk_find_13 (by decide +kernel)) .nil)
theorem d_Wk_find_15 : decode y_Wk_find.2.1 15 = .ok (.if_icmp .ge (49), 3) := by decide +kernel
theorem d_Wk_find_64 : decode y_Wk_find.2.1 64 = .ok (.iload_n 3, 1) := by decide +kernel
theorem s_Wk_find_64 : aw_VS y_Wk_find 64 [o_ild 3] 65 := .cons (v_iload_n (i := 3) d_Wk_find_64 rfl) .nil
theorem d_Wk_find_65 : decode y_Wk_find.2.1 65 = .ok (.ireturn, 1) := by decide +kernel
theorem d_Wk_find_18 : decode y_Wk_find.2.1 18 = .ok (.iload_n 3, 1) := by decide +kernel
theorem d_Wk_find_19 : decode y_Wk_find.2.1 19 = .ok (.iload 4, 2) := by decide +kernel
theorem s_Wk_find_18 : aw_VS y_Wk_find 18 [o_ild 3, o_ild 4] 21 := .cons (v_iload_n (i := 3) d_Wk_find_18 rfl) (.cons (v_iload (i := 4) d_Wk_find_19) .nil)
theorem d_Wk_find_21 : decode y_Wk_find.2.1 21 = .ok (.if_icmp .ge (43), 3) := by decide +kernel
theorem d_Wk_find_24 : decode y_Wk_find.2.1 24 = .ok (.iload_n 3, 1) := by decide +kernel
theorem d_Wk_find_25 : decode y_Wk_find.2.1 25 = .ok (.iload 4, 2) := by decide +kernel
theorem d_Wk_find_27 : decode y_Wk_find.2.1 27 = .ok (.iadd, 1) := by decide +kernel
theorem d_Wk_find_28 : decode y_Wk_find.2.1 28 = .ok (.iconst 2, 1) := by decide +kernel
theorem s_Wk_find_24 : aw_VS y_Wk_find 24 [o_ild 3, o_ild 4, o_i2 (fun x z => x + z), o_c (.int (2 : Int32))] 29 := .cons (v_iload_n (i := 3) d_Wk_find_24 rfl) (.cons (v_iload (i := 4) d_Wk_find_25) (.cons (v_iadd d_Wk_find_27) (.cons (v_iconst (v := (2 : Int32)) d_Wk_find_28 (by decide +kernel)) .nil)))
theorem d_Wk_find_29 : decode y_Wk_find.2.1 29 = .ok (.idiv, 1) := by decide +kernel
theorem d_Wk_find_30 : decode y_Wk_find.2.1 30 = .ok (.istore 6, 2) := by decide +kernel
theorem d_Wk_find_32 : decode y_Wk_find.2.1 32 = .ok (.aload_n 0, 1) := by decide +kernel
theorem d_Wk_find_33 : decode y_Wk_find.2.1 33 = .ok (.getfield 22, 3) := by decide +kernel
theorem d_Wk_find_36 : decode y_Wk_find.2.1 36 = .ok (.iload 6, 2) := by decide +kernel
theorem s_Wk_find_30 : aw_VS y_Wk_find 30 [o_ist 6, o_ald 0, o_getA 4 7, o_ild 6] 38 := .cons (v_istore d_Wk_find_30) (.cons (v_aload_n (i := 0) d_Wk_find_32 rfl) (.cons (v_getA (k := 7) k_Wk (by decide) rfl (Or.inl w_208) d_Wk_find_33) (.cons (v_iload (i := 6) d_Wk_find_36) .nil)))
theorem d_Wk_find_38 : decode y_Wk_find.2.1 38 = .ok (.invokestatic 101, 3) := by decide +kernel
theorem b_Wk_find_11 {X : aw_X} {d : Nat} {Q : Option Value → aw_H → Prop} {I : Nat → Nat → Int32} {L : Nat → Nat → Int64} {D : Nat → Nat} {v1 : Int64} {v3 : Int32} {v4 : Int32} {v5 : Int32}
    (h1 : (40 : Int32) ≤ v5 → Q (some (.int v3)) (aw_s I L D))
    (h2 : ¬ (40 : Int32) ≤ v5 → v4 ≤ v3 → Q (some (.int v3)) (aw_s I L D))
    (h3 : ¬ (40 : Int32) ≤ v5 → ¬ v4 ≤ v3 → aw_m X d y_AW_valueAt_aJI [.ref 15, .int ((v3 + v4) / (2 : Int32))] (aw_s I L D) (fun r A => aw_z X (d + 1) y_Wk_find Q 41 [some (.ref 11), some (.long v1), none, some (.int v3), some (.int v4), some (.int v5), some (.int ((v3 + v4) / (2 : Int32)))] (r.toList ++ []) A)) :
    aw_z X (d + 1) y_Wk_find Q 11 [some (.ref 11), some (.long v1), none, some (.int v3), some (.int v4), some (.int v5), none] [] (aw_s I L D) :=
  (s_Wk_find_11.go [some (.ref 11), some (.long v1), none, some (.int v3), some (.int v4), some (.int v5), none] [.int (40 : Int32), .int v5] (aw_s I L D) rfl (z_icmp_ge (tgt := 64) d_Wk_find_15 rfl (fun q1 => (s_Wk_find_64.go [some (.ref 11), some (.long v1), none, some (.int v3), some (.int v4), some (.int v5), none] [.int v3] (aw_s I L D) rfl (z_iret d_Wk_find_65 rfl rfl (h1 q1)))) (fun q2 => (s_Wk_find_18.go [some (.ref 11), some (.long v1), none, some (.int v3), some (.int v4), some (.int v5), none] [.int v4, .int v3] (aw_s I L D) rfl (z_icmp_ge (tgt := 64) d_Wk_find_21 rfl (fun q3 => (s_Wk_find_64.go [some (.ref 11), some (.long v1), none, some (.int v3), some (.int v4), some (.int v5), none] [.int v3] (aw_s I L D) rfl (z_iret d_Wk_find_65 rfl rfl (h2 q2 q3)))) (fun q4 => (s_Wk_find_24.go [some (.ref 11), some (.long v1), none, some (.int v3), some (.int v4), some (.int v5), none] [.int (2 : Int32), .int (v3 + v4)] (aw_s I L D) rfl (z_idiv d_Wk_find_29 (by decide +kernel) (s_Wk_find_30.go [some (.ref 11), some (.long v1), none, some (.int v3), some (.int v4), some (.int v5), some (.int ((v3 + v4) / (2 : Int32)))] [.int ((v3 + v4) / (2 : Int32)), .ref 15] (aw_s I L D) rfl (z_callS (av := [.ref 15, .int ((v3 + v4) / (2 : Int32))]) (st := []) ok_AW_valueAt_aJI (Or.inr ⟨"AllWays", w_893⟩) w_894 d_Wk_find_38 rfl rfl (Nat.le_of_ble_eq_true rfl) (Nat.le_refl _) (Nat.le_refl _) (h3 q2 q4)))))))))))
theorem d_Wk_find_41 : decode y_Wk_find.2.1 41 = .ok (.lload_n 1, 1) := by decide +kernel
theorem d_Wk_find_42 : decode y_Wk_find.2.1 42 = .ok (.lcmp, 1) := by decide +kernel
theorem s_Wk_find_41 : aw_VS y_Wk_find 41 [o_lld 1, o_lc] 43 := .cons (v_lload_n (i := 1) d_Wk_find_41 rfl) (.cons (v_lcmp d_Wk_find_42) .nil)
theorem d_Wk_find_43 : decode y_Wk_find.2.1 43 = .ok (.ifCond .ge (11), 3) := by decide +kernel
theorem d_Wk_find_54 : decode y_Wk_find.2.1 54 = .ok (.iload 6, 2) := by decide +kernel
theorem d_Wk_find_56 : decode y_Wk_find.2.1 56 = .ok (.istore 4, 2) := by decide +kernel
theorem s_Wk_find_54 : aw_VS y_Wk_find 54 [o_ild 6, o_ist 4] 58 := .cons (v_iload (i := 6) d_Wk_find_54) (.cons (v_istore d_Wk_find_56) .nil)
theorem d_Wk_find_58 : decode y_Wk_find.2.1 58 = .ok (.iinc 5 (1), 3) := by decide +kernel
theorem s_Wk_find_58 : aw_VS y_Wk_find 58 [o_inc 5 (1 : Int32)] 61 := .cons (v_iinc (k0 := (1 : Int32)) d_Wk_find_58 (by decide +kernel)) .nil
theorem d_Wk_find_61 : decode y_Wk_find.2.1 61 = .ok (.goto (-50), 3) := by decide +kernel
theorem d_Wk_find_46 : decode y_Wk_find.2.1 46 = .ok (.iload 6, 2) := by decide +kernel
theorem d_Wk_find_48 : decode y_Wk_find.2.1 48 = .ok (.iconst 1, 1) := by decide +kernel
theorem d_Wk_find_49 : decode y_Wk_find.2.1 49 = .ok (.iadd, 1) := by decide +kernel
theorem d_Wk_find_50 : decode y_Wk_find.2.1 50 = .ok (.istore_n 3, 1) := by decide +kernel
theorem s_Wk_find_46 : aw_VS y_Wk_find 46 [o_ild 6, o_c (.int (1 : Int32)), o_i2 (fun x z => x + z), o_ist 3] 51 := .cons (v_iload (i := 6) d_Wk_find_46) (.cons (v_iconst (v := (1 : Int32)) d_Wk_find_48 (by decide +kernel)) (.cons (v_iadd d_Wk_find_49) (.cons (v_istore_n d_Wk_find_50) .nil)))
theorem d_Wk_find_51 : decode y_Wk_find.2.1 51 = .ok (.goto (7), 3) := by decide +kernel
theorem b_Wk_find_41 {X : aw_X} {d : Nat} {Q : Option Value → aw_H → Prop} {I : Nat → Nat → Int32} {L : Nat → Nat → Int64} {D : Nat → Nat} {v1 : Int64} {v3 : Int32} {v4 : Int32} {v5 : Int32} {v6 : Int32} {s0 : Int64}
    (h1 : 0 ≤ (lg_cmp s0 v1) → aw_z X (d + 1) y_Wk_find Q 11 [some (.ref 11), some (.long v1), none, some (.int v3), some (.int v6), some (.int (v5 + (1 : Int32))), none] [] (aw_s I L D))
    (h2 : ¬ 0 ≤ (lg_cmp s0 v1) → aw_z X (d + 1) y_Wk_find Q 11 [some (.ref 11), some (.long v1), none, some (.int (v6 + (1 : Int32))), some (.int v4), some (.int (v5 + (1 : Int32))), none] [] (aw_s I L D)) :
    aw_z X (d + 1) y_Wk_find Q 41 [some (.ref 11), some (.long v1), none, some (.int v3), some (.int v4), some (.int v5), some (.int v6)] [.long s0] (aw_s I L D) :=
  (s_Wk_find_41.go [some (.ref 11), some (.long v1), none, some (.int v3), some (.int v4), some (.int v5), some (.int v6)] [.int (lg_cmp s0 v1)] (aw_s I L D) rfl (z_if_ge (tgt := 54) d_Wk_find_43 rfl (fun q1 => (s_Wk_find_54.go [some (.ref 11), some (.long v1), none, some (.int v3), some (.int v6), some (.int v5), some (.int v6)] [] (aw_s I L D) rfl (s_Wk_find_58.go [some (.ref 11), some (.long v1), none, some (.int v3), some (.int v6), some (.int (v5 + (1 : Int32))), some (.int v6)] [] (aw_s I L D) rfl (z_goto (tgt := 11) d_Wk_find_61 rfl (aw_Z.weak (ls' := [some (.ref 11), some (.long v1), none, some (.int v3), some (.int v6), some (.int (v5 + (1 : Int32))), none]) (h1 q1) (Nat.le_of_ble_eq_true rfl) ⟨Or.inr rfl, ⟨Or.inr rfl, ⟨Or.inl rfl, ⟨Or.inr rfl, ⟨Or.inr rfl, ⟨Or.inr rfl, ⟨Or.inl rfl, trivial⟩⟩⟩⟩⟩⟩⟩))))) (fun q2 => (s_Wk_find_46.go [some (.ref 11), some (.long v1), none, some (.int (v6 + (1 : Int32))), some (.int v4), some (.int v5), some (.int v6)] [] (aw_s I L D) rfl (z_goto (tgt := 58) d_Wk_find_51 rfl (s_Wk_find_58.go [some (.ref 11), some (.long v1), none, some (.int (v6 + (1 : Int32))), some (.int v4), some (.int (v5 + (1 : Int32))), some (.int v6)] [] (aw_s I L D) rfl (z_goto (tgt := 11) d_Wk_find_61 rfl (aw_Z.weak (ls' := [some (.ref 11), some (.long v1), none, some (.int (v6 + (1 : Int32))), some (.int v4), some (.int (v5 + (1 : Int32))), none]) (h2 q2) (Nat.le_of_ble_eq_true rfl) ⟨Or.inr rfl, ⟨Or.inr rfl, ⟨Or.inl rfl, ⟨Or.inr rfl, ⟨Or.inr rfl, ⟨Or.inr rfl, ⟨Or.inl rfl, trivial⟩⟩⟩⟩⟩⟩⟩))))))))
/-! Wk_noteTrace -/
theorem d_Wk_noteTrace_0 : decode y_Wk_noteTrace.2.1 0 = .ok (.lconst 0, 1) := by decide +kernel
theorem d_Wk_noteTrace_1 : decode y_Wk_noteTrace.2.1 1 = .ok (.lstore_n 2, 1) := by decide +kernel
theorem d_Wk_noteTrace_2 : decode y_Wk_noteTrace.2.1 2 = .ok (.iconst 0, 1) := by decide +kernel
theorem d_Wk_noteTrace_3 : decode y_Wk_noteTrace.2.1 3 = .ok (.istore 4, 2) := by decide +kernel
theorem s_Wk_noteTrace_0 : aw_VS y_Wk_noteTrace 0 [o_c (.long (0 : Int64)), o_lst 2, o_c (.int (0 : Int32)), o_ist 4] 5 := .cons (v_lconst (v := (0 : Int64)) d_Wk_noteTrace_0 (by decide +kernel)) (.cons (v_lstore_n d_Wk_noteTrace_1) (.cons (v_iconst (v := (0 : Int32)) d_Wk_noteTrace_2 (by decide +kernel)) (.cons (v_istore d_Wk_noteTrace_3) .nil)))
theorem b_Wk_noteTrace_0 {X : aw_X} {d : Nat} {Q : Option Value → aw_H → Prop} {I : Nat → Nat → Int32} {L : Nat → Nat → Int64} {D : Nat → Nat} 
    (h1 : aw_z X (d + 1) y_Wk_noteTrace Q 5 [some (.ref 11), some (.ref 4), some (.long (0 : Int64)), none, some (.int (0 : Int32)), none, none, none] [] (aw_s I L D)) :
    aw_z X (d + 1) y_Wk_noteTrace Q 0 [some (.ref 11), some (.ref 4), none, none, none, none, none, none] [] (aw_s I L D) :=
  (s_Wk_noteTrace_0.go [some (.ref 11), some (.ref 4), some (.long (0 : Int64)), none, some (.int (0 : Int32)), none, none, none] [] (aw_s I L D) rfl (h1))
theorem d_Wk_noteTrace_5 : decode y_Wk_noteTrace.2.1 5 = .ok (.iload 4, 2) := by decide +kernel
theorem d_Wk_noteTrace_7 : decode y_Wk_noteTrace.2.1 7 = .ok (.aload_n 1, 1) := by decide +kernel
theorem d_Wk_noteTrace_8 : decode y_Wk_noteTrace.2.1 8 = .ok (.getfield 93, 3) := by decide +kernel
theorem s_Wk_noteTrace_5 : aw_VS y_Wk_noteTrace 5 [o_ild 4, o_ald 1, o_getI 3 12] 11 := .cons (v_iload (i := 4) d_Wk_noteTrace_5) (.cons (v_aload_n (i := 1) d_Wk_noteTrace_7 rfl) (.cons (v_getI (k := 12) k_Mc (by decide) (Or.inl rfl) (Or.inr ⟨"AllWays", w_135⟩) d_Wk_noteTrace_8) .nil))
theorem d_Wk_noteTrace_11 : decode y_Wk_noteTrace.2.1 11 = .ok (.if_icmp .ge (54), 3) := by decide +kernel
theorem d_Wk_noteTrace_65 : decode y_Wk_noteTrace.2.1 65 = .ok (.lload_n 2, 1) := by decide +kernel
theorem s_Wk_noteTrace_65 : aw_VS y_Wk_noteTrace 65 [o_lld 2] 66 := .cons (v_lload_n (i := 2) d_Wk_noteTrace_65 rfl) .nil
theorem d_Wk_noteTrace_66 : decode y_Wk_noteTrace.2.1 66 = .ok (.lreturn, 1) := by decide +kernel
theorem d_Wk_noteTrace_14 : decode y_Wk_noteTrace.2.1 14 = .ok (.iload 4, 2) := by decide +kernel
theorem d_Wk_noteTrace_16 : decode y_Wk_noteTrace.2.1 16 = .ok (.aload_n 1, 1) := by decide +kernel
theorem d_Wk_noteTrace_17 : decode y_Wk_noteTrace.2.1 17 = .ok (.getfield 115, 3) := by decide +kernel
theorem d_Wk_noteTrace_20 : decode y_Wk_noteTrace.2.1 20 = .ok (.arraylength, 1) := by decide +kernel
theorem s_Wk_noteTrace_14 : aw_VS y_Wk_noteTrace 14 [o_ild 4, o_ald 1, o_getA 3 17, o_alen] 21 := .cons (v_iload (i := 4) d_Wk_noteTrace_14) (.cons (v_aload_n (i := 1) d_Wk_noteTrace_16 rfl) (.cons (v_getA (k := 17) k_Mc (by decide) rfl (Or.inr ⟨"AllWays", w_148⟩) d_Wk_noteTrace_17) (.cons (v_alen d_Wk_noteTrace_20) .nil)))
theorem d_Wk_noteTrace_21 : decode y_Wk_noteTrace.2.1 21 = .ok (.if_icmp .ge (44), 3) := by decide +kernel
theorem d_Wk_noteTrace_24 : decode y_Wk_noteTrace.2.1 24 = .ok (.aload_n 1, 1) := by decide +kernel
theorem d_Wk_noteTrace_25 : decode y_Wk_noteTrace.2.1 25 = .ok (.getfield 115, 3) := by decide +kernel
theorem d_Wk_noteTrace_28 : decode y_Wk_noteTrace.2.1 28 = .ok (.iload 4, 2) := by decide +kernel
theorem s_Wk_noteTrace_24 : aw_VS y_Wk_noteTrace 24 [o_ald 1, o_getA 3 17, o_ild 4] 30 := .cons (v_aload_n (i := 1) d_Wk_noteTrace_24 rfl) (.cons (v_getA (k := 17) k_Mc (by decide) rfl (Or.inr ⟨"AllWays", w_148⟩) d_Wk_noteTrace_25) (.cons (v_iload (i := 4) d_Wk_noteTrace_28) .nil))
theorem d_Wk_noteTrace_30 : decode y_Wk_noteTrace.2.1 30 = .ok (.laload, 1) := by decide +kernel
theorem d_Wk_noteTrace_31 : decode y_Wk_noteTrace.2.1 31 = .ok (.lstore 5, 2) := by decide +kernel
theorem d_Wk_noteTrace_33 : decode y_Wk_noteTrace.2.1 33 = .ok (.lload 5, 2) := by decide +kernel
theorem d_Wk_noteTrace_35 : decode y_Wk_noteTrace.2.1 35 = .ok (.l2i, 1) := by decide +kernel
theorem d_Wk_noteTrace_36 : decode y_Wk_noteTrace.2.1 36 = .ok (.bipush 63, 2) := by decide +kernel
theorem d_Wk_noteTrace_38 : decode y_Wk_noteTrace.2.1 38 = .ok (.iand, 1) := by decide +kernel
theorem d_Wk_noteTrace_39 : decode y_Wk_noteTrace.2.1 39 = .ok (.istore 7, 2) := by decide +kernel
theorem d_Wk_noteTrace_41 : decode y_Wk_noteTrace.2.1 41 = .ok (.lload_n 2, 1) := by decide +kernel
theorem d_Wk_noteTrace_42 : decode y_Wk_noteTrace.2.1 42 = .ok (.lconst 1, 1) := by decide +kernel
theorem d_Wk_noteTrace_43 : decode y_Wk_noteTrace.2.1 43 = .ok (.iload 7, 2) := by decide +kernel
theorem d_Wk_noteTrace_45 : decode y_Wk_noteTrace.2.1 45 = .ok (.lshl, 1) := by decide +kernel
theorem d_Wk_noteTrace_46 : decode y_Wk_noteTrace.2.1 46 = .ok (.lor, 1) := by decide +kernel
theorem d_Wk_noteTrace_47 : decode y_Wk_noteTrace.2.1 47 = .ok (.lstore_n 2, 1) := by decide +kernel
theorem d_Wk_noteTrace_48 : decode y_Wk_noteTrace.2.1 48 = .ok (.aload_n 0, 1) := by decide +kernel
theorem d_Wk_noteTrace_49 : decode y_Wk_noteTrace.2.1 49 = .ok (.iload 7, 2) := by decide +kernel
theorem d_Wk_noteTrace_51 : decode y_Wk_noteTrace.2.1 51 = .ok (.lload 5, 2) := by decide +kernel
theorem d_Wk_noteTrace_53 : decode y_Wk_noteTrace.2.1 53 = .ok (.bipush 6, 2) := by decide +kernel
theorem d_Wk_noteTrace_55 : decode y_Wk_noteTrace.2.1 55 = .ok (.lushr, 1) := by decide +kernel
theorem s_Wk_noteTrace_31 : aw_VS y_Wk_noteTrace 31 [o_lst 5, o_lld 5, o_li (fun x => x.toInt32), o_c (.int (63 : Int32)), o_i2 (fun x z => x &&& z), o_ist 7, o_lld 2, o_c (.long (1 : Int64)), o_ild 7, o_ls (fun x z => x <<< (z.toInt64 &&& 63)), o_l2 (fun x z => x ||| z), o_lst 2, o_ald 0, o_ild 7, o_lld 5, o_c (.int (6 : Int32)), o_ls (fun x z => (x.toUInt64 >>> (z.toInt64.toUInt64 &&& Int64.toUInt64 63)).toInt64)] 56 := .cons (v_lstore d_Wk_noteTrace_31) (.cons (v_lload (i := 5) d_Wk_noteTrace_33) (.cons (v_l2i d_Wk_noteTrace_35) (.cons (v_bipush (v := (63 : Int32)) d_Wk_noteTrace_36 (by decide +kernel)) (.cons (v_iand d_Wk_noteTrace_38) (.cons (v_istore d_Wk_noteTrace_39) (.cons (v_lload_n (i := 2) d_Wk_noteTrace_41 rfl) (.cons (v_lconst (v := (1 : Int64)) d_Wk_noteTrace_42 (by decide +kernel)) (.cons (v_iload (i := 7) d_Wk_noteTrace_43) (.cons (v_lshl d_Wk_noteTrace_45) (.cons (v_lor d_Wk_noteTrace_46) (.cons (v_lstore_n d_Wk_noteTrace_47) (.cons (v_aload_n (i := 0) d_Wk_noteTrace_48 rfl) (.cons (v_iload (i := 7) d_Wk_noteTrace_49) (.cons (v_lload (i := 5) d_Wk_noteTrace_51) (.cons (v_bipush (v := (6 : Int32)) d_Wk_noteTrace_53 (by decide +kernel)) (.cons (v_lushr d_Wk_noteTrace_55) .nil))))))))))))))))
theorem d_Wk_noteTrace_56 : decode y_Wk_noteTrace.2.1 56 = .ok (.invokevirtual 118, 3) := by decide +kernel
theorem b_Wk_noteTrace_5 {X : aw_X} {d : Nat} {Q : Option Value → aw_H → Prop} {I : Nat → Nat → Int32} {L : Nat → Nat → Int64} {D : Nat → Nat} {v2 : Int64} {v4 : Int32}
    (h1 : (I 4 12) ≤ v4 → Q (some (.long v2)) (aw_s I L D))
    (h2 : ¬ (I 4 12) ≤ v4 → (1001 : Int32) ≤ v4 → Q (some (.long v2)) (aw_s I L D))
    (h3 : ¬ (I 4 12) ≤ v4 → ¬ (1001 : Int32) ≤ v4 → vp_in v4 1001)
    (h4 : ¬ (I 4 12) ≤ v4 → ¬ (1001 : Int32) ≤ v4 → aw_m X d y_Wk_noteNames [.ref 11, .int (((L 9 v4.toNatClampNeg).toInt32) &&& (63 : Int32)), .long (((L 9 v4.toNatClampNeg).toUInt64 >>> ((6 : Int32).toInt64.toUInt64 &&& Int64.toUInt64 63)).toInt64)] (aw_s I L D) (fun r A => aw_z X (d + 1) y_Wk_noteTrace Q 59 [some (.ref 11), some (.ref 4), some (.long (v2 ||| ((1 : Int64) <<< ((((L 9 v4.toNatClampNeg).toInt32) &&& (63 : Int32)).toInt64 &&& 63)))), none, some (.int v4), none, none, none] (r.toList ++ []) A)) :
    aw_z X (d + 1) y_Wk_noteTrace Q 5 [some (.ref 11), some (.ref 4), some (.long v2), none, some (.int v4), none, none, none] [] (aw_s I L D) :=
  (s_Wk_noteTrace_5.go [some (.ref 11), some (.ref 4), some (.long v2), none, some (.int v4), none, none, none] [.int (I 4 12), .int v4] (aw_s I L D) rfl (z_icmp_ge (tgt := 65) d_Wk_noteTrace_11 rfl (fun q1 => (s_Wk_noteTrace_65.go [some (.ref 11), some (.ref 4), some (.long v2), none, some (.int v4), none, none, none] [.long v2] (aw_s I L D) rfl (z_lret d_Wk_noteTrace_66 rfl (h1 q1)))) (fun q2 => (s_Wk_noteTrace_14.go [some (.ref 11), some (.ref 4), some (.long v2), none, some (.int v4), none, none, none] [.int (1001 : Int32), .int v4] (aw_s I L D) rfl (z_icmp_ge (tgt := 65) d_Wk_noteTrace_21 rfl (fun q3 => (s_Wk_noteTrace_65.go [some (.ref 11), some (.ref 4), some (.long v2), none, some (.int v4), none, none, none] [.long v2] (aw_s I L D) rfl (z_lret d_Wk_noteTrace_66 rfl (h2 q2 q3)))) (fun q4 => (s_Wk_noteTrace_24.go [some (.ref 11), some (.ref 4), some (.long v2), none, some (.int v4), none, none, none] [.int v4, .ref 9] (aw_s I L D) rfl (z_lald (n := 1001) rfl (aw_lt (o := 9) rfl) (h3 q2 q4) d_Wk_noteTrace_30 (s_Wk_noteTrace_31.go [some (.ref 11), some (.ref 4), some (.long (v2 ||| ((1 : Int64) <<< ((((L 9 v4.toNatClampNeg).toInt32) &&& (63 : Int32)).toInt64 &&& 63)))), none, some (.int v4), some (.long (L 9 v4.toNatClampNeg)), none, some (.int (((L 9 v4.toNatClampNeg).toInt32) &&& (63 : Int32)))] [.long (((L 9 v4.toNatClampNeg).toUInt64 >>> ((6 : Int32).toInt64.toUInt64 &&& Int64.toUInt64 63)).toInt64), .int (((L 9 v4.toNatClampNeg).toInt32) &&& (63 : Int32)), .ref 11] (aw_s I L D) rfl (z_callV (av := [.int (((L 9 v4.toNatClampNeg).toInt32) &&& (63 : Int32)), .long (((L 9 v4.toNatClampNeg).toUInt64 >>> ((6 : Int32).toInt64.toUInt64 &&& Int64.toUInt64 63)).toInt64)]) (st := []) ok_Wk_noteNames (Or.inl w_903) w_905 w_47 k_Wk d_Wk_noteTrace_56 rfl (aw_lt (o := 11) rfl) rfl rfl (Nat.le_of_ble_eq_true rfl) (Nat.le_refl _) (Nat.le_refl _) (aw_C.mono (h4 q2 q4) (fun _ _ zz => aw_Z.weak (ls' := [some (.ref 11), some (.ref 4), some (.long (v2 ||| ((1 : Int64) <<< ((((L 9 v4.toNatClampNeg).toInt32) &&& (63 : Int32)).toInt64 &&& 63)))), none, some (.int v4), none, none, none]) zz (Nat.le_of_ble_eq_true rfl) ⟨Or.inr rfl, ⟨Or.inr rfl, ⟨Or.inr rfl, ⟨Or.inl rfl, ⟨Or.inr rfl, ⟨Or.inl rfl, ⟨Or.inl rfl, ⟨Or.inl rfl, trivial⟩⟩⟩⟩⟩⟩⟩⟩))))))))))))
theorem d_Wk_noteTrace_59 : decode y_Wk_noteTrace.2.1 59 = .ok (.iinc 4 (1), 3) := by decide +kernel
theorem s_Wk_noteTrace_59 : aw_VS y_Wk_noteTrace 59 [o_inc 4 (1 : Int32)] 62 := .cons (v_iinc (k0 := (1 : Int32)) d_Wk_noteTrace_59 (by decide +kernel)) .nil
theorem d_Wk_noteTrace_62 : decode y_Wk_noteTrace.2.1 62 = .ok (.goto (-57), 3) := by decide +kernel
theorem b_Wk_noteTrace_59 {X : aw_X} {d : Nat} {Q : Option Value → aw_H → Prop} {I : Nat → Nat → Int32} {L : Nat → Nat → Int64} {D : Nat → Nat} {v2 : Int64} {v4 : Int32}
    (h1 : aw_z X (d + 1) y_Wk_noteTrace Q 5 [some (.ref 11), some (.ref 4), some (.long v2), none, some (.int (v4 + (1 : Int32))), none, none, none] [] (aw_s I L D)) :
    aw_z X (d + 1) y_Wk_noteTrace Q 59 [some (.ref 11), some (.ref 4), some (.long v2), none, some (.int v4), none, none, none] [] (aw_s I L D) :=
  (s_Wk_noteTrace_59.go [some (.ref 11), some (.ref 4), some (.long v2), none, some (.int (v4 + (1 : Int32))), none, none, none] [] (aw_s I L D) rfl (z_goto (tgt := 5) d_Wk_noteTrace_62 rfl (h1)))
/-! Wk_noteNames -/
theorem d_Wk_noteNames_0 : decode y_Wk_noteNames.2.1 0 = .ok (.iconst 0, 1) := by decide +kernel
theorem d_Wk_noteNames_1 : decode y_Wk_noteNames.2.1 1 = .ok (.istore 4, 2) := by decide +kernel
theorem s_Wk_noteNames_0 : aw_VS y_Wk_noteNames 0 [o_c (.int (0 : Int32)), o_ist 4] 3 := .cons (v_iconst (v := (0 : Int32)) d_Wk_noteNames_0 (by decide +kernel)) (.cons (v_istore d_Wk_noteNames_1) .nil)
theorem b_Wk_noteNames_0 {X : aw_X} {d : Nat} {Q : Option Value → aw_H → Prop} {I : Nat → Nat → Int32} {L : Nat → Nat → Int64} {D : Nat → Nat} {v1 : Int32} {v2 : Int64}
    (h1 : aw_z X (d + 1) y_Wk_noteNames Q 3 [some (.ref 11), some (.int v1), some (.long v2), none, some (.int (0 : Int32)), none, none, none, none] [] (aw_s I L D)) :
    aw_z X (d + 1) y_Wk_noteNames Q 0 [some (.ref 11), some (.int v1), some (.long v2), none, none, none, none, none, none] [] (aw_s I L D) :=
  (s_Wk_noteNames_0.go [some (.ref 11), some (.int v1), some (.long v2), none, some (.int (0 : Int32)), none, none, none, none] [] (aw_s I L D) rfl (h1))
theorem d_Wk_noteNames_3 : decode y_Wk_noteNames.2.1 3 = .ok (.iload 4, 2) := by decide +kernel
theorem d_Wk_noteNames_5 : decode y_Wk_noteNames.2.1 5 = .ok (.bipush 8, 2) := by decide +kernel
theorem s_Wk_noteNames_3 : aw_VS y_Wk_noteNames 3 [o_ild 4, o_c (.int (8 : Int32))] 7 := .cons (v_iload (i := 4) d_Wk_noteNames_3) (.cons (v_bipush (v := (8 : Int32)) d_Wk_noteNames_5 (by decide +kernel)) .nil)
theorem d_Wk_noteNames_7 : decode y_Wk_noteNames.2.1 7 = .ok (.if_icmp .ge (105), 3) := by decide +kernel
theorem d_Wk_noteNames_112 : decode y_Wk_noteNames.2.1 112 = .ok (.return_, 1) := by decide +kernel
theorem d_Wk_noteNames_10 : decode y_Wk_noteNames.2.1 10 = .ok (.lload_n 2, 1) := by decide +kernel
theorem d_Wk_noteNames_11 : decode y_Wk_noteNames.2.1 11 = .ok (.bipush 6, 2) := by decide +kernel
theorem d_Wk_noteNames_13 : decode y_Wk_noteNames.2.1 13 = .ok (.iload 4, 2) := by decide +kernel
theorem d_Wk_noteNames_15 : decode y_Wk_noteNames.2.1 15 = .ok (.imul, 1) := by decide +kernel
theorem d_Wk_noteNames_16 : decode y_Wk_noteNames.2.1 16 = .ok (.lushr, 1) := by decide +kernel
theorem d_Wk_noteNames_17 : decode y_Wk_noteNames.2.1 17 = .ok (.ldc2_w 122, 3) := by decide +kernel
theorem d_Wk_noteNames_20 : decode y_Wk_noteNames.2.1 20 = .ok (.land, 1) := by decide +kernel
theorem d_Wk_noteNames_21 : decode y_Wk_noteNames.2.1 21 = .ok (.lstore 5, 2) := by decide +kernel
theorem d_Wk_noteNames_23 : decode y_Wk_noteNames.2.1 23 = .ok (.iload_n 1, 1) := by decide +kernel
theorem d_Wk_noteNames_24 : decode y_Wk_noteNames.2.1 24 = .ok (.bipush 8, 2) := by decide +kernel
theorem d_Wk_noteNames_26 : decode y_Wk_noteNames.2.1 26 = .ok (.imul, 1) := by decide +kernel
theorem d_Wk_noteNames_27 : decode y_Wk_noteNames.2.1 27 = .ok (.iload 4, 2) := by decide +kernel
theorem d_Wk_noteNames_29 : decode y_Wk_noteNames.2.1 29 = .ok (.iadd, 1) := by decide +kernel
theorem d_Wk_noteNames_30 : decode y_Wk_noteNames.2.1 30 = .ok (.istore 7, 2) := by decide +kernel
theorem d_Wk_noteNames_32 : decode y_Wk_noteNames.2.1 32 = .ok (.iload 7, 2) := by decide +kernel
theorem s_Wk_noteNames_10 : aw_VS y_Wk_noteNames 10 [o_lld 2, o_c (.int (6 : Int32)), o_ild 4, o_i2 (fun x z => x * z), o_ls (fun x z => (x.toUInt64 >>> (z.toInt64.toUInt64 &&& Int64.toUInt64 63)).toInt64), o_c (.long (63 : Int64)), o_l2 (fun x z => x &&& z), o_lst 5, o_ild 1, o_c (.int (8 : Int32)), o_i2 (fun x z => x * z), o_ild 4, o_i2 (fun x z => x + z), o_ist 7, o_ild 7] 34 := .cons (v_lload_n (i := 2) d_Wk_noteNames_10 rfl) (.cons (v_bipush (v := (6 : Int32)) d_Wk_noteNames_11 (by decide +kernel)) (.cons (v_iload (i := 4) d_Wk_noteNames_13) (.cons (v_imul d_Wk_noteNames_15) (.cons (v_lushr d_Wk_noteNames_16) (.cons (v_ldc2 d_Wk_noteNames_17 w_907) (.cons (v_land d_Wk_noteNames_20) (.cons (v_lstore d_Wk_noteNames_21) (.cons (v_iload_n (i := 1) d_Wk_noteNames_23 rfl) (.cons (v_bipush (v := (8 : Int32)) d_Wk_noteNames_24 (by decide +kernel)) (.cons (v_imul d_Wk_noteNames_26) (.cons (v_iload (i := 4) d_Wk_noteNames_27) (.cons (v_iadd d_Wk_noteNames_29) (.cons (v_istore d_Wk_noteNames_30) (.cons (v_iload (i := 7) d_Wk_noteNames_32) .nil))))))))))))))
theorem d_Wk_noteNames_34 : decode y_Wk_noteNames.2.1 34 = .ok (.ifCond .lt (28), 3) := by decide +kernel
theorem d_Wk_noteNames_62 : decode y_Wk_noteNames.2.1 62 = .ok (.iload 4, 2) := by decide +kernel
theorem d_Wk_noteNames_64 : decode y_Wk_noteNames.2.1 64 = .ok (.iconst 1, 1) := by decide +kernel
theorem d_Wk_noteNames_65 : decode y_Wk_noteNames.2.1 65 = .ok (.iadd, 1) := by decide +kernel
theorem d_Wk_noteNames_66 : decode y_Wk_noteNames.2.1 66 = .ok (.istore 8, 2) := by decide +kernel
theorem s_Wk_noteNames_62 : aw_VS y_Wk_noteNames 62 [o_ild 4, o_c (.int (1 : Int32)), o_i2 (fun x z => x + z), o_ist 8] 68 := .cons (v_iload (i := 4) d_Wk_noteNames_62) (.cons (v_iconst (v := (1 : Int32)) d_Wk_noteNames_64 (by decide +kernel)) (.cons (v_iadd d_Wk_noteNames_65) (.cons (v_istore d_Wk_noteNames_66) .nil)))
theorem d_Wk_noteNames_37 : decode y_Wk_noteNames.2.1 37 = .ok (.iload 7, 2) := by decide +kernel
theorem d_Wk_noteNames_39 : decode y_Wk_noteNames.2.1 39 = .ok (.aload_n 0, 1) := by decide +kernel
theorem d_Wk_noteNames_40 : decode y_Wk_noteNames.2.1 40 = .ok (.getfield 31, 3) := by decide +kernel
theorem d_Wk_noteNames_43 : decode y_Wk_noteNames.2.1 43 = .ok (.arraylength, 1) := by decide +kernel
theorem s_Wk_noteNames_37 : aw_VS y_Wk_noteNames 37 [o_ild 7, o_ald 0, o_getA 4 12, o_alen] 44 := .cons (v_iload (i := 7) d_Wk_noteNames_37) (.cons (v_aload_n (i := 0) d_Wk_noteNames_39 rfl) (.cons (v_getA (k := 12) k_Wk (by decide) rfl (Or.inl w_213) d_Wk_noteNames_40) (.cons (v_alen d_Wk_noteNames_43) .nil)))
theorem d_Wk_noteNames_44 : decode y_Wk_noteNames.2.1 44 = .ok (.if_icmp .ge (18), 3) := by decide +kernel
theorem d_Wk_noteNames_47 : decode y_Wk_noteNames.2.1 47 = .ok (.aload_n 0, 1) := by decide +kernel
theorem d_Wk_noteNames_48 : decode y_Wk_noteNames.2.1 48 = .ok (.getfield 31, 3) := by decide +kernel
theorem d_Wk_noteNames_51 : decode y_Wk_noteNames.2.1 51 = .ok (.iload 7, 2) := by decide +kernel
theorem d_Wk_noteNames_53 : decode y_Wk_noteNames.2.1 53 = .ok (.dup2, 1) := by decide +kernel
theorem s_Wk_noteNames_47 : aw_VS y_Wk_noteNames 47 [o_ald 0, o_getA 4 12, o_ild 7, o_dup2] 54 := .cons (v_aload_n (i := 0) d_Wk_noteNames_47 rfl) (.cons (v_getA (k := 12) k_Wk (by decide) rfl (Or.inl w_213) d_Wk_noteNames_48) (.cons (v_iload (i := 7) d_Wk_noteNames_51) (.cons (v_dup2 d_Wk_noteNames_53) .nil)))
theorem d_Wk_noteNames_54 : decode y_Wk_noteNames.2.1 54 = .ok (.laload, 1) := by decide +kernel
theorem d_Wk_noteNames_55 : decode y_Wk_noteNames.2.1 55 = .ok (.lconst 1, 1) := by decide +kernel
theorem d_Wk_noteNames_56 : decode y_Wk_noteNames.2.1 56 = .ok (.lload 5, 2) := by decide +kernel
theorem d_Wk_noteNames_58 : decode y_Wk_noteNames.2.1 58 = .ok (.l2i, 1) := by decide +kernel
theorem d_Wk_noteNames_59 : decode y_Wk_noteNames.2.1 59 = .ok (.lshl, 1) := by decide +kernel
theorem d_Wk_noteNames_60 : decode y_Wk_noteNames.2.1 60 = .ok (.lor, 1) := by decide +kernel
theorem s_Wk_noteNames_55 : aw_VS y_Wk_noteNames 55 [o_c (.long (1 : Int64)), o_lld 5, o_li (fun x => x.toInt32), o_ls (fun x z => x <<< (z.toInt64 &&& 63)), o_l2 (fun x z => x ||| z)] 61 := .cons (v_lconst (v := (1 : Int64)) d_Wk_noteNames_55 (by decide +kernel)) (.cons (v_lload (i := 5) d_Wk_noteNames_56) (.cons (v_l2i d_Wk_noteNames_58) (.cons (v_lshl d_Wk_noteNames_59) (.cons (v_lor d_Wk_noteNames_60) .nil))))
theorem d_Wk_noteNames_61 : decode y_Wk_noteNames.2.1 61 = .ok (.lastore, 1) := by decide +kernel
theorem b_Wk_noteNames_3 {X : aw_X} {d : Nat} {Q : Option Value → aw_H → Prop} {I : Nat → Nat → Int32} {L : Nat → Nat → Int64} {D : Nat → Nat} {v1 : Int32} {v2 : Int64} {v4 : Int32}
    (h1 : (8 : Int32) ≤ v4 → Q none (aw_s I L D))
    (h2 : ¬ (8 : Int32) ≤ v4 → ((v1 * (8 : Int32)) + v4) < 0 → aw_z X (d + 1) y_Wk_noteNames Q 68 [some (.ref 11), some (.int v1), some (.long v2), none, some (.int v4), some (.long (((v2.toUInt64 >>> (((6 : Int32) * v4).toInt64.toUInt64 &&& Int64.toUInt64 63)).toInt64) &&& (63 : Int64))), none, some (.int ((v1 * (8 : Int32)) + v4)), some (.int (v4 + (1 : Int32)))] [] (aw_s I L D))
    (h3 : ¬ (8 : Int32) ≤ v4 → ¬ ((v1 * (8 : Int32)) + v4) < 0 → (480 : Int32) ≤ ((v1 * (8 : Int32)) + v4) → aw_z X (d + 1) y_Wk_noteNames Q 68 [some (.ref 11), some (.int v1), some (.long v2), none, some (.int v4), some (.long (((v2.toUInt64 >>> (((6 : Int32) * v4).toInt64.toUInt64 &&& Int64.toUInt64 63)).toInt64) &&& (63 : Int64))), none, some (.int ((v1 * (8 : Int32)) + v4)), some (.int (v4 + (1 : Int32)))] [] (aw_s I L D))
    (h4 : ¬ (8 : Int32) ≤ v4 → ¬ ((v1 * (8 : Int32)) + v4) < 0 → ¬ (480 : Int32) ≤ ((v1 * (8 : Int32)) + v4) → vp_in ((v1 * (8 : Int32)) + v4) 480)
    (h5 : ¬ (8 : Int32) ≤ v4 → ¬ ((v1 * (8 : Int32)) + v4) < 0 → ¬ (480 : Int32) ≤ ((v1 * (8 : Int32)) + v4) → vp_in ((v1 * (8 : Int32)) + v4) 480)
    (h6 : ¬ (8 : Int32) ≤ v4 → ¬ ((v1 * (8 : Int32)) + v4) < 0 → ¬ (480 : Int32) ≤ ((v1 * (8 : Int32)) + v4) → aw_z X (d + 1) y_Wk_noteNames Q 68 [some (.ref 11), some (.int v1), some (.long v2), none, some (.int v4), some (.long (((v2.toUInt64 >>> (((6 : Int32) * v4).toInt64.toUInt64 &&& Int64.toUInt64 63)).toInt64) &&& (63 : Int64))), none, some (.int ((v1 * (8 : Int32)) + v4)), some (.int (v4 + (1 : Int32)))] [] (aw_s I (aw_u L 18 (((v1 * (8 : Int32)) + v4).toNatClampNeg) ((L 18 (((v1 * (8 : Int32)) + v4).toNatClampNeg)) ||| ((1 : Int64) <<< (((((v2.toUInt64 >>> (((6 : Int32) * v4).toInt64.toUInt64 &&& Int64.toUInt64 63)).toInt64) &&& (63 : Int64)).toInt32).toInt64 &&& 63)))) D)) :
    aw_z X (d + 1) y_Wk_noteNames Q 3 [some (.ref 11), some (.int v1), some (.long v2), none, some (.int v4), none, none, none, none] [] (aw_s I L D) :=
  (s_Wk_noteNames_3.go [some (.ref 11), some (.int v1), some (.long v2), none, some (.int v4), none, none, none, none] [.int (8 : Int32), .int v4] (aw_s I L D) rfl (z_icmp_ge (tgt := 112) d_Wk_noteNames_7 rfl (fun q1 => (z_vret d_Wk_noteNames_112 rfl (h1 q1))) (fun q2 => (s_Wk_noteNames_10.go [some (.ref 11), some (.int v1), some (.long v2), none, some (.int v4), some (.long (((v2.toUInt64 >>> (((6 : Int32) * v4).toInt64.toUInt64 &&& Int64.toUInt64 63)).toInt64) &&& (63 : Int64))), none, some (.int ((v1 * (8 : Int32)) + v4)), none] [.int ((v1 * (8 : Int32)) + v4)] (aw_s I L D) rfl (z_if_lt (tgt := 62) d_Wk_noteNames_34 rfl (fun q3 => (s_Wk_noteNames_62.go [some (.ref 11), some (.int v1), some (.long v2), none, some (.int v4), some (.long (((v2.toUInt64 >>> (((6 : Int32) * v4).toInt64.toUInt64 &&& Int64.toUInt64 63)).toInt64) &&& (63 : Int64))), none, some (.int ((v1 * (8 : Int32)) + v4)), some (.int (v4 + (1 : Int32)))] [] (aw_s I L D) rfl (h2 q2 q3))) (fun q4 => (s_Wk_noteNames_37.go [some (.ref 11), some (.int v1), some (.long v2), none, some (.int v4), some (.long (((v2.toUInt64 >>> (((6 : Int32) * v4).toInt64.toUInt64 &&& Int64.toUInt64 63)).toInt64) &&& (63 : Int64))), none, some (.int ((v1 * (8 : Int32)) + v4)), none] [.int (480 : Int32), .int ((v1 * (8 : Int32)) + v4)] (aw_s I L D) rfl (z_icmp_ge (tgt := 62) d_Wk_noteNames_44 rfl (fun q5 => (s_Wk_noteNames_62.go [some (.ref 11), some (.int v1), some (.long v2), none, some (.int v4), some (.long (((v2.toUInt64 >>> (((6 : Int32) * v4).toInt64.toUInt64 &&& Int64.toUInt64 63)).toInt64) &&& (63 : Int64))), none, some (.int ((v1 * (8 : Int32)) + v4)), some (.int (v4 + (1 : Int32)))] [] (aw_s I L D) rfl (h3 q2 q4 q5))) (fun q6 => (s_Wk_noteNames_47.go [some (.ref 11), some (.int v1), some (.long v2), none, some (.int v4), some (.long (((v2.toUInt64 >>> (((6 : Int32) * v4).toInt64.toUInt64 &&& Int64.toUInt64 63)).toInt64) &&& (63 : Int64))), none, some (.int ((v1 * (8 : Int32)) + v4)), none] [.int ((v1 * (8 : Int32)) + v4), .ref 18, .int ((v1 * (8 : Int32)) + v4), .ref 18] (aw_s I L D) rfl (z_lald (n := 480) rfl (aw_lt (o := 18) rfl) (h4 q2 q4 q6) d_Wk_noteNames_54 (s_Wk_noteNames_55.go [some (.ref 11), some (.int v1), some (.long v2), none, some (.int v4), some (.long (((v2.toUInt64 >>> (((6 : Int32) * v4).toInt64.toUInt64 &&& Int64.toUInt64 63)).toInt64) &&& (63 : Int64))), none, some (.int ((v1 * (8 : Int32)) + v4)), none] [.long ((L 18 (((v1 * (8 : Int32)) + v4).toNatClampNeg)) ||| ((1 : Int64) <<< (((((v2.toUInt64 >>> (((6 : Int32) * v4).toInt64.toUInt64 &&& Int64.toUInt64 63)).toInt64) &&& (63 : Int64)).toInt32).toInt64 &&& 63))), .int ((v1 * (8 : Int32)) + v4), .ref 18] (aw_s I L D) rfl (z_last (n := 480) rfl rfl (aw_lt (o := 18) rfl) (h5 q2 q4 q6) d_Wk_noteNames_61 (s_Wk_noteNames_62.go [some (.ref 11), some (.int v1), some (.long v2), none, some (.int v4), some (.long (((v2.toUInt64 >>> (((6 : Int32) * v4).toInt64.toUInt64 &&& Int64.toUInt64 63)).toInt64) &&& (63 : Int64))), none, some (.int ((v1 * (8 : Int32)) + v4)), some (.int (v4 + (1 : Int32)))] [] (aw_s I (aw_u L 18 (((v1 * (8 : Int32)) + v4).toNatClampNeg) ((L 18 (((v1 * (8 : Int32)) + v4).toNatClampNeg)) ||| ((1 : Int64) <<< (((((v2.toUInt64 >>> (((6 : Int32) * v4).toInt64.toUInt64 &&& Int64.toUInt64 63)).toInt64) &&& (63 : Int64)).toInt32).toInt64 &&& 63)))) D) rfl (h6 q2 q4 q6)))))))))))))))
theorem d_Wk_noteNames_68 : decode y_Wk_noteNames.2.1 68 = .ok (.iload 8, 2) := by decide +kernel
theorem d_Wk_noteNames_70 : decode y_Wk_noteNames.2.1 70 = .ok (.bipush 8, 2) := by decide +kernel
theorem s_Wk_noteNames_68 : aw_VS y_Wk_noteNames 68 [o_ild 8, o_c (.int (8 : Int32))] 72 := .cons (v_iload (i := 8) d_Wk_noteNames_68) (.cons (v_bipush (v := (8 : Int32)) d_Wk_noteNames_70 (by decide +kernel)) .nil)
theorem d_Wk_noteNames_72 : decode y_Wk_noteNames.2.1 72 = .ok (.if_icmp .ge (34), 3) := by decide +kernel
theorem d_Wk_noteNames_106 : decode y_Wk_noteNames.2.1 106 = .ok (.iinc 4 (1), 3) := by decide +kernel
theorem s_Wk_noteNames_106 : aw_VS y_Wk_noteNames 106 [o_inc 4 (1 : Int32)] 109 := .cons (v_iinc (k0 := (1 : Int32)) d_Wk_noteNames_106 (by decide +kernel)) .nil
theorem d_Wk_noteNames_109 : decode y_Wk_noteNames.2.1 109 = .ok (.goto (-106), 3) := by decide +kernel
theorem d_Wk_noteNames_75 : decode y_Wk_noteNames.2.1 75 = .ok (.aload_n 0, 1) := by decide +kernel
theorem d_Wk_noteNames_76 : decode y_Wk_noteNames.2.1 76 = .ok (.iload 7, 2) := by decide +kernel
theorem d_Wk_noteNames_78 : decode y_Wk_noteNames.2.1 78 = .ok (.bipush 8, 2) := by decide +kernel
theorem d_Wk_noteNames_80 : decode y_Wk_noteNames.2.1 80 = .ok (.imul, 1) := by decide +kernel
theorem d_Wk_noteNames_81 : decode y_Wk_noteNames.2.1 81 = .ok (.iload 8, 2) := by decide +kernel
theorem d_Wk_noteNames_83 : decode y_Wk_noteNames.2.1 83 = .ok (.iadd, 1) := by decide +kernel
theorem d_Wk_noteNames_84 : decode y_Wk_noteNames.2.1 84 = .ok (.lload 5, 2) := by decide +kernel
theorem d_Wk_noteNames_86 : decode y_Wk_noteNames.2.1 86 = .ok (.lload_n 2, 1) := by decide +kernel
theorem d_Wk_noteNames_87 : decode y_Wk_noteNames.2.1 87 = .ok (.bipush 6, 2) := by decide +kernel
theorem d_Wk_noteNames_89 : decode y_Wk_noteNames.2.1 89 = .ok (.iload 8, 2) := by decide +kernel
theorem d_Wk_noteNames_91 : decode y_Wk_noteNames.2.1 91 = .ok (.imul, 1) := by decide +kernel
theorem d_Wk_noteNames_92 : decode y_Wk_noteNames.2.1 92 = .ok (.lushr, 1) := by decide +kernel
theorem d_Wk_noteNames_93 : decode y_Wk_noteNames.2.1 93 = .ok (.ldc2_w 122, 3) := by decide +kernel
theorem d_Wk_noteNames_96 : decode y_Wk_noteNames.2.1 96 = .ok (.land, 1) := by decide +kernel
theorem s_Wk_noteNames_75 : aw_VS y_Wk_noteNames 75 [o_ald 0, o_ild 7, o_c (.int (8 : Int32)), o_i2 (fun x z => x * z), o_ild 8, o_i2 (fun x z => x + z), o_lld 5, o_lld 2, o_c (.int (6 : Int32)), o_ild 8, o_i2 (fun x z => x * z), o_ls (fun x z => (x.toUInt64 >>> (z.toInt64.toUInt64 &&& Int64.toUInt64 63)).toInt64), o_c (.long (63 : Int64)), o_l2 (fun x z => x &&& z)] 97 := .cons (v_aload_n (i := 0) d_Wk_noteNames_75 rfl) (.cons (v_iload (i := 7) d_Wk_noteNames_76) (.cons (v_bipush (v := (8 : Int32)) d_Wk_noteNames_78 (by decide +kernel)) (.cons (v_imul d_Wk_noteNames_80) (.cons (v_iload (i := 8) d_Wk_noteNames_81) (.cons (v_iadd d_Wk_noteNames_83) (.cons (v_lload (i := 5) d_Wk_noteNames_84) (.cons (v_lload_n (i := 2) d_Wk_noteNames_86 rfl) (.cons (v_bipush (v := (6 : Int32)) d_Wk_noteNames_87 (by decide +kernel)) (.cons (v_iload (i := 8) d_Wk_noteNames_89) (.cons (v_imul d_Wk_noteNames_91) (.cons (v_lushr d_Wk_noteNames_92) (.cons (v_ldc2 d_Wk_noteNames_93 w_907) (.cons (v_land d_Wk_noteNames_96) .nil)))))))))))))
theorem d_Wk_noteNames_97 : decode y_Wk_noteNames.2.1 97 = .ok (.invokevirtual 124, 3) := by decide +kernel
theorem b_Wk_noteNames_68 {X : aw_X} {d : Nat} {Q : Option Value → aw_H → Prop} {I : Nat → Nat → Int32} {L : Nat → Nat → Int64} {D : Nat → Nat} {v1 : Int32} {v2 : Int64} {v4 : Int32} {v5 : Int64} {v7 : Int32} {v8 : Int32}
    (h1 : (8 : Int32) ≤ v8 → aw_z X (d + 1) y_Wk_noteNames Q 3 [some (.ref 11), some (.int v1), some (.long v2), none, some (.int (v4 + (1 : Int32))), none, none, none, none] [] (aw_s I L D))
    (h2 : ¬ (8 : Int32) ≤ v8 → aw_m X d y_Wk_noteRelation [.ref 11, .int ((v7 * (8 : Int32)) + v8), .long v5, .long (((v2.toUInt64 >>> (((6 : Int32) * v8).toInt64.toUInt64 &&& Int64.toUInt64 63)).toInt64) &&& (63 : Int64))] (aw_s I L D) (fun r A => aw_z X (d + 1) y_Wk_noteNames Q 100 [some (.ref 11), some (.int v1), some (.long v2), none, some (.int v4), some (.long v5), none, some (.int v7), some (.int v8)] (r.toList ++ []) A)) :
    aw_z X (d + 1) y_Wk_noteNames Q 68 [some (.ref 11), some (.int v1), some (.long v2), none, some (.int v4), some (.long v5), none, some (.int v7), some (.int v8)] [] (aw_s I L D) :=
  (s_Wk_noteNames_68.go [some (.ref 11), some (.int v1), some (.long v2), none, some (.int v4), some (.long v5), none, some (.int v7), some (.int v8)] [.int (8 : Int32), .int v8] (aw_s I L D) rfl (z_icmp_ge (tgt := 106) d_Wk_noteNames_72 rfl (fun q1 => (s_Wk_noteNames_106.go [some (.ref 11), some (.int v1), some (.long v2), none, some (.int (v4 + (1 : Int32))), some (.long v5), none, some (.int v7), some (.int v8)] [] (aw_s I L D) rfl (z_goto (tgt := 3) d_Wk_noteNames_109 rfl (aw_Z.weak (ls' := [some (.ref 11), some (.int v1), some (.long v2), none, some (.int (v4 + (1 : Int32))), none, none, none, none]) (h1 q1) (Nat.le_of_ble_eq_true rfl) ⟨Or.inr rfl, ⟨Or.inr rfl, ⟨Or.inr rfl, ⟨Or.inl rfl, ⟨Or.inr rfl, ⟨Or.inl rfl, ⟨Or.inl rfl, ⟨Or.inl rfl, ⟨Or.inl rfl, trivial⟩⟩⟩⟩⟩⟩⟩⟩⟩)))) (fun q2 => (s_Wk_noteNames_75.go [some (.ref 11), some (.int v1), some (.long v2), none, some (.int v4), some (.long v5), none, some (.int v7), some (.int v8)] [.long (((v2.toUInt64 >>> (((6 : Int32) * v8).toInt64.toUInt64 &&& Int64.toUInt64 63)).toInt64) &&& (63 : Int64)), .long v5, .int ((v7 * (8 : Int32)) + v8), .ref 11] (aw_s I L D) rfl (z_callV (av := [.int ((v7 * (8 : Int32)) + v8), .long v5, .long (((v2.toUInt64 >>> (((6 : Int32) * v8).toInt64.toUInt64 &&& Int64.toUInt64 63)).toInt64) &&& (63 : Int64))]) (st := []) ok_Wk_noteRelation (Or.inl w_908) w_910 w_48 k_Wk d_Wk_noteNames_97 rfl (aw_lt (o := 11) rfl) rfl rfl (Nat.le_of_ble_eq_true rfl) (Nat.le_refl _) (Nat.le_refl _) (h2 q2))))))
theorem d_Wk_noteNames_100 : decode y_Wk_noteNames.2.1 100 = .ok (.iinc 8 (1), 3) := by decide +kernel
theorem s_Wk_noteNames_100 : aw_VS y_Wk_noteNames 100 [o_inc 8 (1 : Int32)] 103 := .cons (v_iinc (k0 := (1 : Int32)) d_Wk_noteNames_100 (by decide +kernel)) .nil
theorem d_Wk_noteNames_103 : decode y_Wk_noteNames.2.1 103 = .ok (.goto (-35), 3) := by decide +kernel
theorem b_Wk_noteNames_100 {X : aw_X} {d : Nat} {Q : Option Value → aw_H → Prop} {I : Nat → Nat → Int32} {L : Nat → Nat → Int64} {D : Nat → Nat} {v1 : Int32} {v2 : Int64} {v4 : Int32} {v5 : Int64} {v7 : Int32} {v8 : Int32}
    (h1 : aw_z X (d + 1) y_Wk_noteNames Q 68 [some (.ref 11), some (.int v1), some (.long v2), none, some (.int v4), some (.long v5), none, some (.int v7), some (.int (v8 + (1 : Int32)))] [] (aw_s I L D)) :
    aw_z X (d + 1) y_Wk_noteNames Q 100 [some (.ref 11), some (.int v1), some (.long v2), none, some (.int v4), some (.long v5), none, some (.int v7), some (.int v8)] [] (aw_s I L D) :=
  (s_Wk_noteNames_100.go [some (.ref 11), some (.int v1), some (.long v2), none, some (.int v4), some (.long v5), none, some (.int v7), some (.int (v8 + (1 : Int32)))] [] (aw_s I L D) rfl (z_goto (tgt := 68) d_Wk_noteNames_103 rfl (h1)))
/-! Wk_noteRelation -/
theorem d_Wk_noteRelation_0 : decode y_Wk_noteRelation.2.1 0 = .ok (.iload_n 1, 1) := by decide +kernel
theorem s_Wk_noteRelation_0 : aw_VS y_Wk_noteRelation 0 [o_ild 1] 1 := .cons (v_iload_n (i := 1) d_Wk_noteRelation_0 rfl) .nil
theorem d_Wk_noteRelation_1 : decode y_Wk_noteRelation.2.1 1 = .ok (.ifCond .lt (27), 3) := by decide +kernel
theorem d_Wk_noteRelation_28 : decode y_Wk_noteRelation.2.1 28 = .ok (.return_, 1) := by decide +kernel
theorem d_Wk_noteRelation_4 : decode y_Wk_noteRelation.2.1 4 = .ok (.iload_n 1, 1) := by decide +kernel
theorem d_Wk_noteRelation_5 : decode y_Wk_noteRelation.2.1 5 = .ok (.aload_n 0, 1) := by decide +kernel
theorem d_Wk_noteRelation_6 : decode y_Wk_noteRelation.2.1 6 = .ok (.getfield 34, 3) := by decide +kernel
theorem d_Wk_noteRelation_9 : decode y_Wk_noteRelation.2.1 9 = .ok (.arraylength, 1) := by decide +kernel
theorem s_Wk_noteRelation_4 : aw_VS y_Wk_noteRelation 4 [o_ild 1, o_ald 0, o_getA 4 13, o_alen] 10 := .cons (v_iload_n (i := 1) d_Wk_noteRelation_4 rfl) (.cons (v_aload_n (i := 0) d_Wk_noteRelation_5 rfl) (.cons (v_getA (k := 13) k_Wk (by decide) rfl (Or.inl w_214) d_Wk_noteRelation_6) (.cons (v_alen d_Wk_noteRelation_9) .nil)))
theorem d_Wk_noteRelation_10 : decode y_Wk_noteRelation.2.1 10 = .ok (.if_icmp .ge (18), 3) := by decide +kernel
theorem d_Wk_noteRelation_13 : decode y_Wk_noteRelation.2.1 13 = .ok (.aload_n 0, 1) := by decide +kernel
theorem d_Wk_noteRelation_14 : decode y_Wk_noteRelation.2.1 14 = .ok (.getfield 34, 3) := by decide +kernel
theorem d_Wk_noteRelation_17 : decode y_Wk_noteRelation.2.1 17 = .ok (.iload_n 1, 1) := by decide +kernel
theorem d_Wk_noteRelation_18 : decode y_Wk_noteRelation.2.1 18 = .ok (.dup2, 1) := by decide +kernel
theorem s_Wk_noteRelation_13 : aw_VS y_Wk_noteRelation 13 [o_ald 0, o_getA 4 13, o_ild 1, o_dup2] 19 := .cons (v_aload_n (i := 0) d_Wk_noteRelation_13 rfl) (.cons (v_getA (k := 13) k_Wk (by decide) rfl (Or.inl w_214) d_Wk_noteRelation_14) (.cons (v_iload_n (i := 1) d_Wk_noteRelation_17 rfl) (.cons (v_dup2 d_Wk_noteRelation_18) .nil)))
theorem d_Wk_noteRelation_19 : decode y_Wk_noteRelation.2.1 19 = .ok (.iaload, 1) := by decide +kernel
theorem d_Wk_noteRelation_20 : decode y_Wk_noteRelation.2.1 20 = .ok (.lload_n 2, 1) := by decide +kernel
theorem d_Wk_noteRelation_21 : decode y_Wk_noteRelation.2.1 21 = .ok (.lload 4, 2) := by decide +kernel
theorem s_Wk_noteRelation_20 : aw_VS y_Wk_noteRelation 20 [o_lld 2, o_lld 4] 23 := .cons (v_lload_n (i := 2) d_Wk_noteRelation_20 rfl) (.cons (v_lload (i := 4) d_Wk_noteRelation_21) .nil)
theorem d_Wk_noteRelation_23 : decode y_Wk_noteRelation.2.1 23 = .ok (.invokestatic 128, 3) := by decide +kernel
theorem b_Wk_noteRelation_0 {X : aw_X} {d : Nat} {Q : Option Value → aw_H → Prop} {I : Nat → Nat → Int32} {L : Nat → Nat → Int64} {D : Nat → Nat} {v1 : Int32} {v2 : Int64} {v4 : Int64}
    (h1 : v1 < 0 → Q none (aw_s I L D))
    (h2 : ¬ v1 < 0 → (3840 : Int32) ≤ v1 → Q none (aw_s I L D))
    (h3 : ¬ v1 < 0 → ¬ (3840 : Int32) ≤ v1 → vp_in v1 3840)
    (h4 : ¬ v1 < 0 → ¬ (3840 : Int32) ≤ v1 → aw_m X d y_AW_relationOf [.long v2, .long v4] (aw_s I L D) (fun r A => aw_z X (d + 1) y_Wk_noteRelation Q 26 [none, none, none, none, none, none] (r.toList ++ [.int (I 19 v1.toNatClampNeg), .int v1, .ref 19]) A)) :
    aw_z X (d + 1) y_Wk_noteRelation Q 0 [some (.ref 11), some (.int v1), some (.long v2), none, some (.long v4), none] [] (aw_s I L D) :=
  (s_Wk_noteRelation_0.go [some (.ref 11), some (.int v1), some (.long v2), none, some (.long v4), none] [.int v1] (aw_s I L D) rfl (z_if_lt (tgt := 28) d_Wk_noteRelation_1 rfl (fun q1 => (z_vret d_Wk_noteRelation_28 rfl (h1 q1))) (fun q2 => (s_Wk_noteRelation_4.go [some (.ref 11), some (.int v1), some (.long v2), none, some (.long v4), none] [.int (3840 : Int32), .int v1] (aw_s I L D) rfl (z_icmp_ge (tgt := 28) d_Wk_noteRelation_10 rfl (fun q3 => (z_vret d_Wk_noteRelation_28 rfl (h2 q2 q3))) (fun q4 => (s_Wk_noteRelation_13.go [some (.ref 11), some (.int v1), some (.long v2), none, some (.long v4), none] [.int v1, .ref 19, .int v1, .ref 19] (aw_s I L D) rfl (z_iald (n := 3840) rfl (aw_lt (o := 19) rfl) (h3 q2 q4) d_Wk_noteRelation_19 (s_Wk_noteRelation_20.go [some (.ref 11), some (.int v1), some (.long v2), none, some (.long v4), none] [.long v4, .long v2, .int (I 19 v1.toNatClampNeg), .int v1, .ref 19] (aw_s I L D) rfl (z_callS (av := [.long v2, .long v4]) (st := [.int (I 19 v1.toNatClampNeg), .int v1, .ref 19]) ok_AW_relationOf (Or.inr ⟨"AllWays", w_912⟩) w_913 d_Wk_noteRelation_23 rfl rfl (Nat.le_of_ble_eq_true rfl) (Nat.le_refl _) (Nat.le_refl _) (aw_C.mono (h4 q2 q4) (fun _ _ zz => aw_Z.weak (ls' := [none, none, none, none, none, none]) zz (Nat.le_of_ble_eq_true rfl) ⟨Or.inl rfl, ⟨Or.inl rfl, ⟨Or.inl rfl, ⟨Or.inl rfl, ⟨Or.inl rfl, ⟨Or.inl rfl, trivial⟩⟩⟩⟩⟩⟩))))))))))))
theorem d_Wk_noteRelation_26 : decode y_Wk_noteRelation.2.1 26 = .ok (.ior, 1) := by decide +kernel
theorem s_Wk_noteRelation_26 : aw_VS y_Wk_noteRelation 26 [o_i2 (fun x z => x ||| z)] 27 := .cons (v_ior d_Wk_noteRelation_26) .nil
theorem d_Wk_noteRelation_27 : decode y_Wk_noteRelation.2.1 27 = .ok (.iastore, 1) := by decide +kernel
theorem b_Wk_noteRelation_26 {X : aw_X} {d : Nat} {Q : Option Value → aw_H → Prop} {I : Nat → Nat → Int32} {L : Nat → Nat → Int64} {D : Nat → Nat} {s3 : Int32} {s2 : Int32} {s1 : Int32}
    (h1 : vp_in s1 3840)
    (h2 : Q none (aw_s (aw_u I 19 s1.toNatClampNeg (s2 ||| s3)) L D)) :
    aw_z X (d + 1) y_Wk_noteRelation Q 26 [none, none, none, none, none, none] [.int s3, .int s2, .int s1, .ref 19] (aw_s I L D) :=
  (s_Wk_noteRelation_26.go [none, none, none, none, none, none] [.int (s2 ||| s3), .int s1, .ref 19] (aw_s I L D) rfl (z_iast (n := 3840) rfl (aw_lt (o := 19) rfl) (h1) d_Wk_noteRelation_27 (z_vret d_Wk_noteRelation_28 rfl (h2))))
/-! Wk_noteRounds -/
theorem d_Wk_noteRounds_0 : decode y_Wk_noteRounds.2.1 0 = .ok (.iconst 0, 1) := by decide +kernel
theorem d_Wk_noteRounds_1 : decode y_Wk_noteRounds.2.1 1 = .ok (.istore_n 2, 1) := by decide +kernel
theorem s_Wk_noteRounds_0 : aw_VS y_Wk_noteRounds 0 [o_c (.int (0 : Int32)), o_ist 2] 2 := .cons (v_iconst (v := (0 : Int32)) d_Wk_noteRounds_0 (by decide +kernel)) (.cons (v_istore_n d_Wk_noteRounds_1) .nil)
theorem b_Wk_noteRounds_0 {X : aw_X} {d : Nat} {Q : Option Value → aw_H → Prop} {I : Nat → Nat → Int32} {L : Nat → Nat → Int64} {D : Nat → Nat} 
    (h1 : aw_z X (d + 1) y_Wk_noteRounds Q 2 [some (.ref 11), some (.ref 4), some (.int (0 : Int32)), none] [] (aw_s I L D)) :
    aw_z X (d + 1) y_Wk_noteRounds Q 0 [some (.ref 11), some (.ref 4), none, none] [] (aw_s I L D) :=
  (s_Wk_noteRounds_0.go [some (.ref 11), some (.ref 4), some (.int (0 : Int32)), none] [] (aw_s I L D) rfl (h1))
theorem d_Wk_noteRounds_2 : decode y_Wk_noteRounds.2.1 2 = .ok (.iload_n 2, 1) := by decide +kernel
theorem d_Wk_noteRounds_3 : decode y_Wk_noteRounds.2.1 3 = .ok (.bipush 60, 2) := by decide +kernel
theorem s_Wk_noteRounds_2 : aw_VS y_Wk_noteRounds 2 [o_ild 2, o_c (.int (60 : Int32))] 5 := .cons (v_iload_n (i := 2) d_Wk_noteRounds_2 rfl) (.cons (v_bipush (v := (60 : Int32)) d_Wk_noteRounds_3 (by decide +kernel)) .nil)
theorem d_Wk_noteRounds_5 : decode y_Wk_noteRounds.2.1 5 = .ok (.if_icmp .ge (72), 3) := by decide +kernel
theorem d_Wk_noteRounds_77 : decode y_Wk_noteRounds.2.1 77 = .ok (.aload_n 0, 1) := by decide +kernel
theorem d_Wk_noteRounds_78 : decode y_Wk_noteRounds.2.1 78 = .ok (.iconst 1, 1) := by decide +kernel
theorem s_Wk_noteRounds_77 : aw_VS y_Wk_noteRounds 77 [o_ald 0, o_c (.int (1 : Int32))] 79 := .cons (v_aload_n (i := 0) d_Wk_noteRounds_77 rfl) (.cons (v_iconst (v := (1 : Int32)) d_Wk_noteRounds_78 (by decide +kernel)) .nil)
theorem d_Wk_noteRounds_79 : decode y_Wk_noteRounds.2.1 79 = .ok (.putfield 64, 3) := by decide +kernel
theorem d_Wk_noteRounds_82 : decode y_Wk_noteRounds.2.1 82 = .ok (.return_, 1) := by decide +kernel
theorem d_Wk_noteRounds_8 : decode y_Wk_noteRounds.2.1 8 = .ok (.aload_n 1, 1) := by decide +kernel
theorem d_Wk_noteRounds_9 : decode y_Wk_noteRounds.2.1 9 = .ok (.getfield 132, 3) := by decide +kernel
theorem d_Wk_noteRounds_12 : decode y_Wk_noteRounds.2.1 12 = .ok (.iload_n 2, 1) := by decide +kernel
theorem s_Wk_noteRounds_8 : aw_VS y_Wk_noteRounds 8 [o_ald 1, o_getA 3 18, o_ild 2] 13 := .cons (v_aload_n (i := 1) d_Wk_noteRounds_8 rfl) (.cons (v_getA (k := 18) k_Mc (by decide) rfl (Or.inr ⟨"AllWays", w_150⟩) d_Wk_noteRounds_9) (.cons (v_iload_n (i := 2) d_Wk_noteRounds_12 rfl) .nil))
theorem d_Wk_noteRounds_13 : decode y_Wk_noteRounds.2.1 13 = .ok (.invokestatic 135, 3) := by decide +kernel
theorem b_Wk_noteRounds_2 {X : aw_X} {d : Nat} {Q : Option Value → aw_H → Prop} {I : Nat → Nat → Int32} {L : Nat → Nat → Int64} {D : Nat → Nat} {v2 : Int32}
    (h1 : (60 : Int32) ≤ v2 → Q none (aw_s (aw_u I 11 10 (1 : Int32)) L D))
    (h2 : ¬ (60 : Int32) ≤ v2 → aw_m X d y_AW_valueAt_aII [.ref 10, .int v2] (aw_s I L D) (fun r A => aw_z X (d + 1) y_Wk_noteRounds Q 16 [some (.ref 11), some (.ref 4), some (.int v2), none] (r.toList ++ []) A)) :
    aw_z X (d + 1) y_Wk_noteRounds Q 2 [some (.ref 11), some (.ref 4), some (.int v2), none] [] (aw_s I L D) :=
  (s_Wk_noteRounds_2.go [some (.ref 11), some (.ref 4), some (.int v2), none] [.int (60 : Int32), .int v2] (aw_s I L D) rfl (z_icmp_ge (tgt := 77) d_Wk_noteRounds_5 rfl (fun q1 => (s_Wk_noteRounds_77.go [some (.ref 11), some (.ref 4), some (.int v2), none] [.int (1 : Int32), .ref 11] (aw_s I L D) rfl (z_putZ (k := 10) k_Wk (by decide) rfl (Or.inl ⟨rfl, Or.inl w_211⟩) d_Wk_noteRounds_79 rfl (aw_lt (o := 11) rfl) (by decide +kernel) (z_vret d_Wk_noteRounds_82 rfl (h1 q1))))) (fun q2 => (s_Wk_noteRounds_8.go [some (.ref 11), some (.ref 4), some (.int v2), none] [.int v2, .ref 10] (aw_s I L D) rfl (z_callS (av := [.ref 10, .int v2]) (st := []) ok_AW_valueAt_aII (Or.inr ⟨"AllWays", w_919⟩) w_814 d_Wk_noteRounds_13 rfl rfl (Nat.le_of_ble_eq_true rfl) (Nat.le_refl _) (Nat.le_refl _) (h2 q2))))))
theorem d_Wk_noteRounds_16 : decode y_Wk_noteRounds.2.1 16 = .ok (.istore_n 3, 1) := by decide +kernel
theorem d_Wk_noteRounds_17 : decode y_Wk_noteRounds.2.1 17 = .ok (.aload_n 0, 1) := by decide +kernel
theorem d_Wk_noteRounds_18 : decode y_Wk_noteRounds.2.1 18 = .ok (.getfield 37, 3) := by decide +kernel
theorem d_Wk_noteRounds_21 : decode y_Wk_noteRounds.2.1 21 = .ok (.iload_n 2, 1) := by decide +kernel
theorem d_Wk_noteRounds_22 : decode y_Wk_noteRounds.2.1 22 = .ok (.aload_n 0, 1) := by decide +kernel
theorem d_Wk_noteRounds_23 : decode y_Wk_noteRounds.2.1 23 = .ok (.getfield 64, 3) := by decide +kernel
theorem s_Wk_noteRounds_16 : aw_VS y_Wk_noteRounds 16 [o_ist 3, o_ald 0, o_getA 4 14, o_ild 2, o_ald 0, o_getI 4 10] 26 := .cons (v_istore_n d_Wk_noteRounds_16) (.cons (v_aload_n (i := 0) d_Wk_noteRounds_17 rfl) (.cons (v_getA (k := 14) k_Wk (by decide) rfl (Or.inl w_215) d_Wk_noteRounds_18) (.cons (v_iload_n (i := 2) d_Wk_noteRounds_21 rfl) (.cons (v_aload_n (i := 0) d_Wk_noteRounds_22 rfl) (.cons (v_getI (k := 10) k_Wk (by decide) (Or.inr rfl) (Or.inl w_211) d_Wk_noteRounds_23) .nil)))))
theorem d_Wk_noteRounds_26 : decode y_Wk_noteRounds.2.1 26 = .ok (.ifCond .eq (16), 3) := by decide +kernel
theorem d_Wk_noteRounds_42 : decode y_Wk_noteRounds.2.1 42 = .ok (.iload_n 3, 1) := by decide +kernel
theorem s_Wk_noteRounds_42 : aw_VS y_Wk_noteRounds 42 [o_ild 3] 43 := .cons (v_iload_n (i := 3) d_Wk_noteRounds_42 rfl) .nil
theorem d_Wk_noteRounds_29 : decode y_Wk_noteRounds.2.1 29 = .ok (.aload_n 0, 1) := by decide +kernel
theorem d_Wk_noteRounds_30 : decode y_Wk_noteRounds.2.1 30 = .ok (.getfield 37, 3) := by decide +kernel
theorem d_Wk_noteRounds_33 : decode y_Wk_noteRounds.2.1 33 = .ok (.iload_n 2, 1) := by decide +kernel
theorem s_Wk_noteRounds_29 : aw_VS y_Wk_noteRounds 29 [o_ald 0, o_getA 4 14, o_ild 2] 34 := .cons (v_aload_n (i := 0) d_Wk_noteRounds_29 rfl) (.cons (v_getA (k := 14) k_Wk (by decide) rfl (Or.inl w_215) d_Wk_noteRounds_30) (.cons (v_iload_n (i := 2) d_Wk_noteRounds_33 rfl) .nil))
theorem d_Wk_noteRounds_34 : decode y_Wk_noteRounds.2.1 34 = .ok (.iaload, 1) := by decide +kernel
theorem d_Wk_noteRounds_35 : decode y_Wk_noteRounds.2.1 35 = .ok (.iload_n 3, 1) := by decide +kernel
theorem s_Wk_noteRounds_35 : aw_VS y_Wk_noteRounds 35 [o_ild 3] 36 := .cons (v_iload_n (i := 3) d_Wk_noteRounds_35 rfl) .nil
theorem d_Wk_noteRounds_36 : decode y_Wk_noteRounds.2.1 36 = .ok (.invokestatic 138, 3) := by decide +kernel
theorem b_Wk_noteRounds_16 {X : aw_X} {d : Nat} {Q : Option Value → aw_H → Prop} {I : Nat → Nat → Int32} {L : Nat → Nat → Int64} {D : Nat → Nat} {v2 : Int32} {s0 : Int32}
    (h1 : (I 11 10) = 0 → aw_z X (d + 1) y_Wk_noteRounds Q 43 [some (.ref 11), some (.ref 4), some (.int v2), some (.int s0)] [.int s0, .int v2, .ref 20] (aw_s I L D))
    (h2 : ¬ (I 11 10) = 0 → vp_in v2 60)
    (h3 : ¬ (I 11 10) = 0 → aw_m X d y_JM_min [.int (I 20 v2.toNatClampNeg), .int s0] (aw_s I L D) (fun r A => aw_z X (d + 1) y_Wk_noteRounds Q 39 [some (.ref 11), some (.ref 4), some (.int v2), some (.int s0)] (r.toList ++ [.int v2, .ref 20]) A)) :
    aw_z X (d + 1) y_Wk_noteRounds Q 16 [some (.ref 11), some (.ref 4), some (.int v2), none] [.int s0] (aw_s I L D) :=
  (s_Wk_noteRounds_16.go [some (.ref 11), some (.ref 4), some (.int v2), some (.int s0)] [.int (I 11 10), .int v2, .ref 20] (aw_s I L D) rfl (z_if_eq (tgt := 42) d_Wk_noteRounds_26 rfl (fun q1 => (s_Wk_noteRounds_42.go [some (.ref 11), some (.ref 4), some (.int v2), some (.int s0)] [.int s0, .int v2, .ref 20] (aw_s I L D) rfl (h1 q1))) (fun q2 => (s_Wk_noteRounds_29.go [some (.ref 11), some (.ref 4), some (.int v2), some (.int s0)] [.int v2, .ref 20, .int v2, .ref 20] (aw_s I L D) rfl (z_iald (n := 60) rfl (aw_lt (o := 20) rfl) (h2 q2) d_Wk_noteRounds_34 (s_Wk_noteRounds_35.go [some (.ref 11), some (.ref 4), some (.int v2), some (.int s0)] [.int s0, .int (I 20 v2.toNatClampNeg), .int v2, .ref 20] (aw_s I L D) rfl (z_callS (av := [.int (I 20 v2.toNatClampNeg), .int s0]) (st := [.int v2, .ref 20]) ok_JM_min (Or.inl w_920) w_589 d_Wk_noteRounds_36 rfl rfl (Nat.le_of_ble_eq_true rfl) (Nat.le_refl _) (Nat.le_refl _) (h3 q2))))))))
theorem d_Wk_noteRounds_43 : decode y_Wk_noteRounds.2.1 43 = .ok (.iastore, 1) := by decide +kernel
theorem d_Wk_noteRounds_44 : decode y_Wk_noteRounds.2.1 44 = .ok (.aload_n 0, 1) := by decide +kernel
theorem d_Wk_noteRounds_45 : decode y_Wk_noteRounds.2.1 45 = .ok (.getfield 40, 3) := by decide +kernel
theorem d_Wk_noteRounds_48 : decode y_Wk_noteRounds.2.1 48 = .ok (.iload_n 2, 1) := by decide +kernel
theorem d_Wk_noteRounds_49 : decode y_Wk_noteRounds.2.1 49 = .ok (.aload_n 0, 1) := by decide +kernel
theorem d_Wk_noteRounds_50 : decode y_Wk_noteRounds.2.1 50 = .ok (.getfield 64, 3) := by decide +kernel
theorem s_Wk_noteRounds_44 : aw_VS y_Wk_noteRounds 44 [o_ald 0, o_getA 4 15, o_ild 2, o_ald 0, o_getI 4 10] 53 := .cons (v_aload_n (i := 0) d_Wk_noteRounds_44 rfl) (.cons (v_getA (k := 15) k_Wk (by decide) rfl (Or.inl w_216) d_Wk_noteRounds_45) (.cons (v_iload_n (i := 2) d_Wk_noteRounds_48 rfl) (.cons (v_aload_n (i := 0) d_Wk_noteRounds_49 rfl) (.cons (v_getI (k := 10) k_Wk (by decide) (Or.inr rfl) (Or.inl w_211) d_Wk_noteRounds_50) .nil))))
theorem d_Wk_noteRounds_53 : decode y_Wk_noteRounds.2.1 53 = .ok (.ifCond .eq (16), 3) := by decide +kernel
theorem d_Wk_noteRounds_69 : decode y_Wk_noteRounds.2.1 69 = .ok (.iload_n 3, 1) := by decide +kernel
theorem s_Wk_noteRounds_69 : aw_VS y_Wk_noteRounds 69 [o_ild 3] 70 := .cons (v_iload_n (i := 3) d_Wk_noteRounds_69 rfl) .nil
theorem d_Wk_noteRounds_56 : decode y_Wk_noteRounds.2.1 56 = .ok (.aload_n 0, 1) := by decide +kernel
theorem d_Wk_noteRounds_57 : decode y_Wk_noteRounds.2.1 57 = .ok (.getfield 40, 3) := by decide +kernel
theorem d_Wk_noteRounds_60 : decode y_Wk_noteRounds.2.1 60 = .ok (.iload_n 2, 1) := by decide +kernel
theorem s_Wk_noteRounds_56 : aw_VS y_Wk_noteRounds 56 [o_ald 0, o_getA 4 15, o_ild 2] 61 := .cons (v_aload_n (i := 0) d_Wk_noteRounds_56 rfl) (.cons (v_getA (k := 15) k_Wk (by decide) rfl (Or.inl w_216) d_Wk_noteRounds_57) (.cons (v_iload_n (i := 2) d_Wk_noteRounds_60 rfl) .nil))
theorem d_Wk_noteRounds_61 : decode y_Wk_noteRounds.2.1 61 = .ok (.iaload, 1) := by decide +kernel
theorem d_Wk_noteRounds_62 : decode y_Wk_noteRounds.2.1 62 = .ok (.iload_n 3, 1) := by decide +kernel
theorem s_Wk_noteRounds_62 : aw_VS y_Wk_noteRounds 62 [o_ild 3] 63 := .cons (v_iload_n (i := 3) d_Wk_noteRounds_62 rfl) .nil
theorem d_Wk_noteRounds_63 : decode y_Wk_noteRounds.2.1 63 = .ok (.invokestatic 144, 3) := by decide +kernel
theorem b_Wk_noteRounds_43 {X : aw_X} {d : Nat} {Q : Option Value → aw_H → Prop} {I : Nat → Nat → Int32} {L : Nat → Nat → Int64} {D : Nat → Nat} {v2 : Int32} {v3 : Int32} {s2 : Int32} {s1 : Int32}
    (h1 : vp_in s1 60)
    (h2 : (I 11 10) = 0 → aw_z X (d + 1) y_Wk_noteRounds Q 70 [some (.ref 11), some (.ref 4), some (.int v2), none] [.int v3, .int v2, .ref 21] (aw_s (aw_u I 20 s1.toNatClampNeg s2) L D))
    (h3 : ¬ (I 11 10) = 0 → vp_in v2 60)
    (h4 : ¬ (I 11 10) = 0 → aw_m X d y_JM_max [.int (I 21 v2.toNatClampNeg), .int v3] (aw_s (aw_u I 20 s1.toNatClampNeg s2) L D) (fun r A => aw_z X (d + 1) y_Wk_noteRounds Q 66 [some (.ref 11), some (.ref 4), some (.int v2), none] (r.toList ++ [.int v2, .ref 21]) A)) :
    aw_z X (d + 1) y_Wk_noteRounds Q 43 [some (.ref 11), some (.ref 4), some (.int v2), some (.int v3)] [.int s2, .int s1, .ref 20] (aw_s I L D) :=
  (z_iast (n := 60) rfl (aw_lt (o := 20) rfl) (h1) d_Wk_noteRounds_43 (s_Wk_noteRounds_44.go [some (.ref 11), some (.ref 4), some (.int v2), some (.int v3)] [.int (I 11 10), .int v2, .ref 21] (aw_s (aw_u I 20 s1.toNatClampNeg s2) L D) rfl (z_if_eq (tgt := 69) d_Wk_noteRounds_53 rfl (fun q1 => (s_Wk_noteRounds_69.go [some (.ref 11), some (.ref 4), some (.int v2), some (.int v3)] [.int v3, .int v2, .ref 21] (aw_s (aw_u I 20 s1.toNatClampNeg s2) L D) rfl (aw_Z.weak (ls' := [some (.ref 11), some (.ref 4), some (.int v2), none]) (h2 q1) (Nat.le_of_ble_eq_true rfl) ⟨Or.inr rfl, ⟨Or.inr rfl, ⟨Or.inr rfl, ⟨Or.inl rfl, trivial⟩⟩⟩⟩))) (fun q2 => (s_Wk_noteRounds_56.go [some (.ref 11), some (.ref 4), some (.int v2), some (.int v3)] [.int v2, .ref 21, .int v2, .ref 21] (aw_s (aw_u I 20 s1.toNatClampNeg s2) L D) rfl (z_iald (n := 60) rfl (aw_lt (o := 21) rfl) (h3 q2) d_Wk_noteRounds_61 (s_Wk_noteRounds_62.go [some (.ref 11), some (.ref 4), some (.int v2), some (.int v3)] [.int v3, .int (I 21 v2.toNatClampNeg), .int v2, .ref 21] (aw_s (aw_u I 20 s1.toNatClampNeg s2) L D) rfl (z_callS (av := [.int (I 21 v2.toNatClampNeg), .int v3]) (st := [.int v2, .ref 21]) ok_JM_max (Or.inl w_921) w_586 d_Wk_noteRounds_63 rfl rfl (Nat.le_of_ble_eq_true rfl) (Nat.le_refl _) (Nat.le_refl _) (aw_C.mono (h4 q2) (fun _ _ zz => aw_Z.weak (ls' := [some (.ref 11), some (.ref 4), some (.int v2), none]) zz (Nat.le_of_ble_eq_true rfl) ⟨Or.inr rfl, ⟨Or.inr rfl, ⟨Or.inr rfl, ⟨Or.inl rfl, trivial⟩⟩⟩⟩))))))))))
theorem d_Wk_noteRounds_39 : decode y_Wk_noteRounds.2.1 39 = .ok (.goto (4), 3) := by decide +kernel
theorem b_Wk_noteRounds_39 {X : aw_X} {d : Nat} {Q : Option Value → aw_H → Prop} {I : Nat → Nat → Int32} {L : Nat → Nat → Int64} {D : Nat → Nat} {v2 : Int32} {v3 : Int32} {s2 : Int32} {s1 : Int32}
    (h1 : aw_z X (d + 1) y_Wk_noteRounds Q 43 [some (.ref 11), some (.ref 4), some (.int v2), some (.int v3)] [.int s2, .int s1, .ref 20] (aw_s I L D)) :
    aw_z X (d + 1) y_Wk_noteRounds Q 39 [some (.ref 11), some (.ref 4), some (.int v2), some (.int v3)] [.int s2, .int s1, .ref 20] (aw_s I L D) :=
  (z_goto (tgt := 43) d_Wk_noteRounds_39 rfl (h1))
theorem d_Wk_noteRounds_70 : decode y_Wk_noteRounds.2.1 70 = .ok (.iastore, 1) := by decide +kernel
theorem d_Wk_noteRounds_71 : decode y_Wk_noteRounds.2.1 71 = .ok (.iinc 2 (1), 3) := by decide +kernel
theorem s_Wk_noteRounds_71 : aw_VS y_Wk_noteRounds 71 [o_inc 2 (1 : Int32)] 74 := .cons (v_iinc (k0 := (1 : Int32)) d_Wk_noteRounds_71 (by decide +kernel)) .nil
theorem d_Wk_noteRounds_74 : decode y_Wk_noteRounds.2.1 74 = .ok (.goto (-72), 3) := by decide +kernel
theorem b_Wk_noteRounds_70 {X : aw_X} {d : Nat} {Q : Option Value → aw_H → Prop} {I : Nat → Nat → Int32} {L : Nat → Nat → Int64} {D : Nat → Nat} {v2 : Int32} {s2 : Int32} {s1 : Int32}
    (h1 : vp_in s1 60)
    (h2 : aw_z X (d + 1) y_Wk_noteRounds Q 2 [some (.ref 11), some (.ref 4), some (.int (v2 + (1 : Int32))), none] [] (aw_s (aw_u I 21 s1.toNatClampNeg s2) L D)) :
    aw_z X (d + 1) y_Wk_noteRounds Q 70 [some (.ref 11), some (.ref 4), some (.int v2), none] [.int s2, .int s1, .ref 21] (aw_s I L D) :=
  (z_iast (n := 60) rfl (aw_lt (o := 21) rfl) (h1) d_Wk_noteRounds_70 (s_Wk_noteRounds_71.go [some (.ref 11), some (.ref 4), some (.int (v2 + (1 : Int32))), none] [] (aw_s (aw_u I 21 s1.toNatClampNeg s2) L D) rfl (z_goto (tgt := 2) d_Wk_noteRounds_74 rfl (h2))))
theorem d_Wk_noteRounds_66 : decode y_Wk_noteRounds.2.1 66 = .ok (.goto (4), 3) := by decide +kernel
theorem b_Wk_noteRounds_66 {X : aw_X} {d : Nat} {Q : Option Value → aw_H → Prop} {I : Nat → Nat → Int32} {L : Nat → Nat → Int64} {D : Nat → Nat} {v2 : Int32} {s2 : Int32} {s1 : Int32}
    (h1 : aw_z X (d + 1) y_Wk_noteRounds Q 70 [some (.ref 11), some (.ref 4), some (.int v2), none] [.int s2, .int s1, .ref 21] (aw_s I L D)) :
    aw_z X (d + 1) y_Wk_noteRounds Q 66 [some (.ref 11), some (.ref 4), some (.int v2), none] [.int s2, .int s1, .ref 21] (aw_s I L D) :=
  (z_goto (tgt := 70) d_Wk_noteRounds_66 rfl (h1))
/-! Wk_decision -/
theorem d_Wk_decision_0 : decode y_Wk_decision.2.1 0 = .ok (.aload_n 0, 1) := by decide +kernel
theorem d_Wk_decision_1 : decode y_Wk_decision.2.1 1 = .ok (.iload_n 1, 1) := by decide +kernel
theorem s_Wk_decision_0 : aw_VS y_Wk_decision 0 [o_ald 0, o_ild 1] 2 := .cons (v_aload_n (i := 0) d_Wk_decision_0 rfl) (.cons (v_iload_n (i := 1) d_Wk_decision_1 rfl) .nil)
theorem d_Wk_decision_2 : decode y_Wk_decision.2.1 2 = .ok (.invokevirtual 156, 3) := by decide +kernel
theorem b_Wk_decision_0 {X : aw_X} {d : Nat} {Q : Option Value → aw_H → Prop} {I : Nat → Nat → Int32} {L : Nat → Nat → Int64} {D : Nat → Nat} {v1 : Int32} {v2 : Int32}
    (h1 : aw_m X d y_Wk_isWay [.ref 11, .int v1] (aw_s I L D) (fun r A => aw_z X (d + 1) y_Wk_decision Q 5 [some (.ref 11), some (.int v1), some (.int v2), none, none] (r.toList ++ []) A)) :
    aw_z X (d + 1) y_Wk_decision Q 0 [some (.ref 11), some (.int v1), some (.int v2), none, none] [] (aw_s I L D) :=
  (s_Wk_decision_0.go [some (.ref 11), some (.int v1), some (.int v2), none, none] [.int v1, .ref 11] (aw_s I L D) rfl (z_callV (av := [.int v1]) (st := []) ok_Wk_isWay (Or.inl w_930) w_931 w_932 k_Wk d_Wk_decision_2 rfl (aw_lt (o := 11) rfl) rfl rfl (Nat.le_of_ble_eq_true rfl) (Nat.le_refl _) (Nat.le_refl _) (h1)))
theorem d_Wk_decision_5 : decode y_Wk_decision.2.1 5 = .ok (.ifCond .ne (5), 3) := by decide +kernel
theorem d_Wk_decision_10 : decode y_Wk_decision.2.1 10 = .ok (.aload_n 0, 1) := by decide +kernel
theorem d_Wk_decision_11 : decode y_Wk_decision.2.1 11 = .ok (.getfield 22, 3) := by decide +kernel
theorem d_Wk_decision_14 : decode y_Wk_decision.2.1 14 = .ok (.iload_n 1, 1) := by decide +kernel
theorem s_Wk_decision_10 : aw_VS y_Wk_decision 10 [o_ald 0, o_getA 4 7, o_ild 1] 15 := .cons (v_aload_n (i := 0) d_Wk_decision_10 rfl) (.cons (v_getA (k := 7) k_Wk (by decide) rfl (Or.inl w_208) d_Wk_decision_11) (.cons (v_iload_n (i := 1) d_Wk_decision_14 rfl) .nil))
theorem d_Wk_decision_15 : decode y_Wk_decision.2.1 15 = .ok (.invokestatic 101, 3) := by decide +kernel
theorem d_Wk_decision_8 : decode y_Wk_decision.2.1 8 = .ok (.iconst (-1), 1) := by decide +kernel
theorem s_Wk_decision_8 : aw_VS y_Wk_decision 8 [o_c (.int (-1 : Int32))] 9 := .cons (v_iconst (v := (-1 : Int32)) d_Wk_decision_8 (by decide +kernel)) .nil
theorem d_Wk_decision_9 : decode y_Wk_decision.2.1 9 = .ok (.ireturn, 1) := by decide +kernel
theorem b_Wk_decision_5 {X : aw_X} {d : Nat} {Q : Option Value → aw_H → Prop} {I : Nat → Nat → Int32} {L : Nat → Nat → Int64} {D : Nat → Nat} {v1 : Int32} {v2 : Int32} {s0 : Int32}
    (h1 : ¬ s0 = 0 → aw_m X d y_AW_valueAt_aJI [.ref 15, .int v1] (aw_s I L D) (fun r A => aw_z X (d + 1) y_Wk_decision Q 18 [none, none, some (.int v2), none, none] (r.toList ++ []) A))
    (h2 : s0 = 0 → Q (some (.int (-1 : Int32))) (aw_s I L D)) :
    aw_z X (d + 1) y_Wk_decision Q 5 [some (.ref 11), some (.int v1), some (.int v2), none, none] [.int s0] (aw_s I L D) :=
  (z_if_ne (tgt := 10) d_Wk_decision_5 rfl (fun q1 => (s_Wk_decision_10.go [some (.ref 11), some (.int v1), some (.int v2), none, none] [.int v1, .ref 15] (aw_s I L D) rfl (z_callS (av := [.ref 15, .int v1]) (st := []) ok_AW_valueAt_aJI (Or.inr ⟨"AllWays", w_893⟩) w_894 d_Wk_decision_15 rfl rfl (Nat.le_of_ble_eq_true rfl) (Nat.le_refl _) (Nat.le_refl _) (aw_C.mono (h1 q1) (fun _ _ zz => aw_Z.weak (ls' := [none, none, some (.int v2), none, none]) zz (Nat.le_of_ble_eq_true rfl) ⟨Or.inl rfl, ⟨Or.inl rfl, ⟨Or.inr rfl, ⟨Or.inl rfl, ⟨Or.inl rfl, trivial⟩⟩⟩⟩⟩))))) (fun q2 => (s_Wk_decision_8.go [some (.ref 11), some (.int v1), some (.int v2), none, none] [.int (-1 : Int32)] (aw_s I L D) rfl (z_iret d_Wk_decision_9 rfl rfl (h2 q2)))))
theorem d_Wk_decision_18 : decode y_Wk_decision.2.1 18 = .ok (.lstore_n 3, 1) := by decide +kernel
theorem d_Wk_decision_19 : decode y_Wk_decision.2.1 19 = .ok (.iload_n 2, 1) := by decide +kernel
theorem s_Wk_decision_18 : aw_VS y_Wk_decision 18 [o_lst 3, o_ild 2] 20 := .cons (v_lstore_n d_Wk_decision_18) (.cons (v_iload_n (i := 2) d_Wk_decision_19 rfl) .nil)
theorem d_Wk_decision_20 : decode y_Wk_decision.2.1 20 = .ok (.ifCond .lt (11), 3) := by decide +kernel
theorem d_Wk_decision_31 : decode y_Wk_decision.2.1 31 = .ok (.iconst (-1), 1) := by decide +kernel
theorem s_Wk_decision_31 : aw_VS y_Wk_decision 31 [o_c (.int (-1 : Int32))] 32 := .cons (v_iconst (v := (-1 : Int32)) d_Wk_decision_31 (by decide +kernel)) .nil
theorem d_Wk_decision_32 : decode y_Wk_decision.2.1 32 = .ok (.ireturn, 1) := by decide +kernel
theorem d_Wk_decision_23 : decode y_Wk_decision.2.1 23 = .ok (.iload_n 2, 1) := by decide +kernel
theorem d_Wk_decision_24 : decode y_Wk_decision.2.1 24 = .ok (.lload_n 3, 1) := by decide +kernel
theorem s_Wk_decision_23 : aw_VS y_Wk_decision 23 [o_ild 2, o_lld 3] 25 := .cons (v_iload_n (i := 2) d_Wk_decision_23 rfl) (.cons (v_lload_n (i := 3) d_Wk_decision_24 rfl) .nil)
theorem d_Wk_decision_25 : decode y_Wk_decision.2.1 25 = .ok (.invokestatic 150, 3) := by decide +kernel
theorem b_Wk_decision_18 {X : aw_X} {d : Nat} {Q : Option Value → aw_H → Prop} {I : Nat → Nat → Int32} {L : Nat → Nat → Int64} {D : Nat → Nat} {v2 : Int32} {s0 : Int64}
    (h1 : v2 < 0 → Q (some (.int (-1 : Int32))) (aw_s I L D))
    (h2 : ¬ v2 < 0 → aw_m X d y_Wk_decisionsOf [.long s0] (aw_s I L D) (fun r A => aw_z X (d + 1) y_Wk_decision Q 28 [none, none, some (.int v2), some (.long s0), none] (r.toList ++ [.int v2]) A)) :
    aw_z X (d + 1) y_Wk_decision Q 18 [none, none, some (.int v2), none, none] [.long s0] (aw_s I L D) :=
  (s_Wk_decision_18.go [none, none, some (.int v2), some (.long s0), none] [.int v2] (aw_s I L D) rfl (z_if_lt (tgt := 31) d_Wk_decision_20 rfl (fun q1 => (s_Wk_decision_31.go [none, none, some (.int v2), some (.long s0), none] [.int (-1 : Int32)] (aw_s I L D) rfl (z_iret d_Wk_decision_32 rfl rfl (h1 q1)))) (fun q2 => (s_Wk_decision_23.go [none, none, some (.int v2), some (.long s0), none] [.long s0, .int v2] (aw_s I L D) rfl (z_callS (av := [.long s0]) (st := [.int v2]) ok_Wk_decisionsOf (Or.inl w_934) w_935 d_Wk_decision_25 rfl rfl (Nat.le_of_ble_eq_true rfl) (Nat.le_refl _) (Nat.le_refl _) (h2 q2))))))
theorem d_Wk_decision_28 : decode y_Wk_decision.2.1 28 = .ok (.if_icmp .lt (5), 3) := by decide +kernel
theorem d_Wk_decision_33 : decode y_Wk_decision.2.1 33 = .ok (.lload_n 3, 1) := by decide +kernel
theorem s_Wk_decision_33 : aw_VS y_Wk_decision 33 [o_lld 3] 34 := .cons (v_lload_n (i := 3) d_Wk_decision_33 rfl) .nil
theorem d_Wk_decision_34 : decode y_Wk_decision.2.1 34 = .ok (.invokestatic 160, 3) := by decide +kernel
theorem b_Wk_decision_28 {X : aw_X} {d : Nat} {Q : Option Value → aw_H → Prop} {I : Nat → Nat → Int32} {L : Nat → Nat → Int64} {D : Nat → Nat} {v2 : Int32} {v3 : Int64} {s1 : Int32} {s0 : Int32}
    (h1 : s0 < s1 → aw_m X d y_Wk_pathOf [.long v3] (aw_s I L D) (fun r A => aw_z X (d + 1) y_Wk_decision Q 37 [none, none, some (.int v2), none, none] (r.toList ++ []) A))
    (h2 : ¬ s0 < s1 → Q (some (.int (-1 : Int32))) (aw_s I L D)) :
    aw_z X (d + 1) y_Wk_decision Q 28 [none, none, some (.int v2), some (.long v3), none] [.int s1, .int s0] (aw_s I L D) :=
  (z_icmp_lt (tgt := 33) d_Wk_decision_28 rfl (fun q1 => (s_Wk_decision_33.go [none, none, some (.int v2), some (.long v3), none] [.long v3] (aw_s I L D) rfl (z_callS (av := [.long v3]) (st := []) ok_Wk_pathOf (Or.inl w_937) w_938 d_Wk_decision_34 rfl rfl (Nat.le_of_ble_eq_true rfl) (Nat.le_refl _) (Nat.le_refl _) (aw_C.mono (h1 q1) (fun _ _ zz => aw_Z.weak (ls' := [none, none, some (.int v2), none, none]) zz (Nat.le_of_ble_eq_true rfl) ⟨Or.inl rfl, ⟨Or.inl rfl, ⟨Or.inr rfl, ⟨Or.inl rfl, ⟨Or.inl rfl, trivial⟩⟩⟩⟩⟩))))) (fun q2 => (s_Wk_decision_31.go [none, none, some (.int v2), some (.long v3), none] [.int (-1 : Int32)] (aw_s I L D) rfl (z_iret d_Wk_decision_32 rfl rfl (h2 q2)))))
theorem d_Wk_decision_37 : decode y_Wk_decision.2.1 37 = .ok (.bipush 39, 2) := by decide +kernel
theorem d_Wk_decision_39 : decode y_Wk_decision.2.1 39 = .ok (.iload_n 2, 1) := by decide +kernel
theorem d_Wk_decision_40 : decode y_Wk_decision.2.1 40 = .ok (.isub, 1) := by decide +kernel
theorem d_Wk_decision_41 : decode y_Wk_decision.2.1 41 = .ok (.lushr, 1) := by decide +kernel
theorem d_Wk_decision_42 : decode y_Wk_decision.2.1 42 = .ok (.lconst 1, 1) := by decide +kernel
theorem d_Wk_decision_43 : decode y_Wk_decision.2.1 43 = .ok (.land, 1) := by decide +kernel
theorem d_Wk_decision_44 : decode y_Wk_decision.2.1 44 = .ok (.lconst 0, 1) := by decide +kernel
theorem d_Wk_decision_45 : decode y_Wk_decision.2.1 45 = .ok (.lcmp, 1) := by decide +kernel
theorem s_Wk_decision_37 : aw_VS y_Wk_decision 37 [o_c (.int (39 : Int32)), o_ild 2, o_i2 (fun x z => x - z), o_ls (fun x z => (x.toUInt64 >>> (z.toInt64.toUInt64 &&& Int64.toUInt64 63)).toInt64), o_c (.long (1 : Int64)), o_l2 (fun x z => x &&& z), o_c (.long (0 : Int64)), o_lc] 46 := .cons (v_bipush (v := (39 : Int32)) d_Wk_decision_37 (by decide +kernel)) (.cons (v_iload_n (i := 2) d_Wk_decision_39 rfl) (.cons (v_isub d_Wk_decision_40) (.cons (v_lushr d_Wk_decision_41) (.cons (v_lconst (v := (1 : Int64)) d_Wk_decision_42 (by decide +kernel)) (.cons (v_land d_Wk_decision_43) (.cons (v_lconst (v := (0 : Int64)) d_Wk_decision_44 (by decide +kernel)) (.cons (v_lcmp d_Wk_decision_45) .nil)))))))
theorem d_Wk_decision_46 : decode y_Wk_decision.2.1 46 = .ok (.ifCond .ne (7), 3) := by decide +kernel
theorem d_Wk_decision_53 : decode y_Wk_decision.2.1 53 = .ok (.iconst 0, 1) := by decide +kernel
theorem s_Wk_decision_53 : aw_VS y_Wk_decision 53 [o_c (.int (0 : Int32))] 54 := .cons (v_iconst (v := (0 : Int32)) d_Wk_decision_53 (by decide +kernel)) .nil
theorem d_Wk_decision_54 : decode y_Wk_decision.2.1 54 = .ok (.ireturn, 1) := by decide +kernel
theorem d_Wk_decision_49 : decode y_Wk_decision.2.1 49 = .ok (.iconst 1, 1) := by decide +kernel
theorem s_Wk_decision_49 : aw_VS y_Wk_decision 49 [o_c (.int (1 : Int32))] 50 := .cons (v_iconst (v := (1 : Int32)) d_Wk_decision_49 (by decide +kernel)) .nil
theorem d_Wk_decision_50 : decode y_Wk_decision.2.1 50 = .ok (.goto (4), 3) := by decide +kernel
theorem b_Wk_decision_37 {X : aw_X} {d : Nat} {Q : Option Value → aw_H → Prop} {I : Nat → Nat → Int32} {L : Nat → Nat → Int64} {D : Nat → Nat} {v2 : Int32} {s0 : Int64}
    (h1 : ¬ (lg_cmp (((s0.toUInt64 >>> (((39 : Int32) - v2).toInt64.toUInt64 &&& Int64.toUInt64 63)).toInt64) &&& (1 : Int64)) (0 : Int64)) = 0 → Q (some (.int (0 : Int32))) (aw_s I L D))
    (h2 : (lg_cmp (((s0.toUInt64 >>> (((39 : Int32) - v2).toInt64.toUInt64 &&& Int64.toUInt64 63)).toInt64) &&& (1 : Int64)) (0 : Int64)) = 0 → Q (some (.int (1 : Int32))) (aw_s I L D)) :
    aw_z X (d + 1) y_Wk_decision Q 37 [none, none, some (.int v2), none, none] [.long s0] (aw_s I L D) :=
  (s_Wk_decision_37.go [none, none, some (.int v2), none, none] [.int (lg_cmp (((s0.toUInt64 >>> (((39 : Int32) - v2).toInt64.toUInt64 &&& Int64.toUInt64 63)).toInt64) &&& (1 : Int64)) (0 : Int64))] (aw_s I L D) rfl (z_if_ne (tgt := 53) d_Wk_decision_46 rfl (fun q1 => (s_Wk_decision_53.go [none, none, some (.int v2), none, none] [.int (0 : Int32)] (aw_s I L D) rfl (z_iret d_Wk_decision_54 rfl rfl (h1 q1)))) (fun q2 => (s_Wk_decision_49.go [none, none, some (.int v2), none, none] [.int (1 : Int32)] (aw_s I L D) rfl (z_goto (tgt := 54) d_Wk_decision_50 rfl (z_iret d_Wk_decision_54 rfl rfl (h2 q2)))))))
/-! Wk_isWay -/
theorem d_Wk_isWay_0 : decode y_Wk_isWay.2.1 0 = .ok (.aload_n 0, 1) := by decide +kernel
theorem d_Wk_isWay_1 : decode y_Wk_isWay.2.1 1 = .ok (.getfield 46, 3) := by decide +kernel
theorem s_Wk_isWay_0 : aw_VS y_Wk_isWay 0 [o_ald 0, o_getI 4 0] 4 := .cons (v_aload_n (i := 0) d_Wk_isWay_0 rfl) (.cons (v_getI (k := 0) k_Wk (by decide) (Or.inr rfl) (Or.inl w_200) d_Wk_isWay_1) .nil)
theorem d_Wk_isWay_4 : decode y_Wk_isWay.2.1 4 = .ok (.ifCond .eq (19), 3) := by decide +kernel
theorem d_Wk_isWay_23 : decode y_Wk_isWay.2.1 23 = .ok (.iconst 0, 1) := by decide +kernel
theorem s_Wk_isWay_23 : aw_VS y_Wk_isWay 23 [o_c (.int (0 : Int32))] 24 := .cons (v_iconst (v := (0 : Int32)) d_Wk_isWay_23 (by decide +kernel)) .nil
theorem d_Wk_isWay_24 : decode y_Wk_isWay.2.1 24 = .ok (.ireturn, 1) := by decide +kernel
theorem d_Wk_isWay_7 : decode y_Wk_isWay.2.1 7 = .ok (.iload_n 1, 1) := by decide +kernel
theorem s_Wk_isWay_7 : aw_VS y_Wk_isWay 7 [o_ild 1] 8 := .cons (v_iload_n (i := 1) d_Wk_isWay_7 rfl) .nil
theorem d_Wk_isWay_8 : decode y_Wk_isWay.2.1 8 = .ok (.ifCond .lt (15), 3) := by decide +kernel
theorem d_Wk_isWay_11 : decode y_Wk_isWay.2.1 11 = .ok (.iload_n 1, 1) := by decide +kernel
theorem d_Wk_isWay_12 : decode y_Wk_isWay.2.1 12 = .ok (.aload_n 0, 1) := by decide +kernel
theorem d_Wk_isWay_13 : decode y_Wk_isWay.2.1 13 = .ok (.getfield 61, 3) := by decide +kernel
theorem s_Wk_isWay_11 : aw_VS y_Wk_isWay 11 [o_ild 1, o_ald 0, o_getI 4 6] 16 := .cons (v_iload_n (i := 1) d_Wk_isWay_11 rfl) (.cons (v_aload_n (i := 0) d_Wk_isWay_12 rfl) (.cons (v_getI (k := 6) k_Wk (by decide) (Or.inl rfl) (Or.inl w_206) d_Wk_isWay_13) .nil))
theorem d_Wk_isWay_16 : decode y_Wk_isWay.2.1 16 = .ok (.if_icmp .ge (7), 3) := by decide +kernel
theorem d_Wk_isWay_19 : decode y_Wk_isWay.2.1 19 = .ok (.iconst 1, 1) := by decide +kernel
theorem s_Wk_isWay_19 : aw_VS y_Wk_isWay 19 [o_c (.int (1 : Int32))] 20 := .cons (v_iconst (v := (1 : Int32)) d_Wk_isWay_19 (by decide +kernel)) .nil
theorem d_Wk_isWay_20 : decode y_Wk_isWay.2.1 20 = .ok (.goto (4), 3) := by decide +kernel
theorem b_Wk_isWay_0 {X : aw_X} {d : Nat} {Q : Option Value → aw_H → Prop} {I : Nat → Nat → Int32} {L : Nat → Nat → Int64} {D : Nat → Nat} {v1 : Int32}
    (h1 : (I 11 0) = 0 → Q (some (.int (0 : Int32))) (aw_s I L D))
    (h2 : ¬ (I 11 0) = 0 → v1 < 0 → Q (some (.int (0 : Int32))) (aw_s I L D))
    (h3 : ¬ (I 11 0) = 0 → ¬ v1 < 0 → (I 11 6) ≤ v1 → Q (some (.int (0 : Int32))) (aw_s I L D))
    (h4 : ¬ (I 11 0) = 0 → ¬ v1 < 0 → ¬ (I 11 6) ≤ v1 → Q (some (.int (1 : Int32))) (aw_s I L D)) :
    aw_z X d y_Wk_isWay Q 0 [some (.ref 11), some (.int v1)] [] (aw_s I L D) :=
  (s_Wk_isWay_0.go [some (.ref 11), some (.int v1)] [.int (I 11 0)] (aw_s I L D) rfl (z_if_eq (tgt := 23) d_Wk_isWay_4 rfl (fun q1 => (s_Wk_isWay_23.go [some (.ref 11), some (.int v1)] [.int (0 : Int32)] (aw_s I L D) rfl (z_iret d_Wk_isWay_24 rfl (aw_nz (by decide +kernel)) (h1 q1)))) (fun q2 => (s_Wk_isWay_7.go [some (.ref 11), some (.int v1)] [.int v1] (aw_s I L D) rfl (z_if_lt (tgt := 23) d_Wk_isWay_8 rfl (fun q3 => (s_Wk_isWay_23.go [some (.ref 11), some (.int v1)] [.int (0 : Int32)] (aw_s I L D) rfl (z_iret d_Wk_isWay_24 rfl (aw_nz (by decide +kernel)) (h2 q2 q3)))) (fun q4 => (s_Wk_isWay_11.go [some (.ref 11), some (.int v1)] [.int (I 11 6), .int v1] (aw_s I L D) rfl (z_icmp_ge (tgt := 23) d_Wk_isWay_16 rfl (fun q5 => (s_Wk_isWay_23.go [some (.ref 11), some (.int v1)] [.int (0 : Int32)] (aw_s I L D) rfl (z_iret d_Wk_isWay_24 rfl (aw_nz (by decide +kernel)) (h3 q2 q4 q5)))) (fun q6 => (s_Wk_isWay_19.go [some (.ref 11), some (.int v1)] [.int (1 : Int32)] (aw_s I L D) rfl (z_goto (tgt := 24) d_Wk_isWay_20 rfl (z_iret d_Wk_isWay_24 rfl (aw_nz (by decide +kernel)) (h4 q2 q4 q6)))))))))))))
/-! Wk_decisionsOf -/
theorem d_Wk_decisionsOf_0 : decode y_Wk_decisionsOf.2.1 0 = .ok (.lload_n 0, 1) := by decide +kernel
theorem d_Wk_decisionsOf_1 : decode y_Wk_decisionsOf.2.1 1 = .ok (.bipush 13, 2) := by decide +kernel
theorem d_Wk_decisionsOf_3 : decode y_Wk_decisionsOf.2.1 3 = .ok (.lushr, 1) := by decide +kernel
theorem d_Wk_decisionsOf_4 : decode y_Wk_decisionsOf.2.1 4 = .ok (.l2i, 1) := by decide +kernel
theorem d_Wk_decisionsOf_5 : decode y_Wk_decisionsOf.2.1 5 = .ok (.bipush 63, 2) := by decide +kernel
theorem d_Wk_decisionsOf_7 : decode y_Wk_decisionsOf.2.1 7 = .ok (.iand, 1) := by decide +kernel
theorem s_Wk_decisionsOf_0 : aw_VS y_Wk_decisionsOf 0 [o_lld 0, o_c (.int (13 : Int32)), o_ls (fun x z => (x.toUInt64 >>> (z.toInt64.toUInt64 &&& Int64.toUInt64 63)).toInt64), o_li (fun x => x.toInt32), o_c (.int (63 : Int32)), o_i2 (fun x z => x &&& z)] 8 := .cons (v_lload_n (i := 0) d_Wk_decisionsOf_0 rfl) (.cons (v_bipush (v := (13 : Int32)) d_Wk_decisionsOf_1 (by decide +kernel)) (.cons (v_lushr d_Wk_decisionsOf_3) (.cons (v_l2i d_Wk_decisionsOf_4) (.cons (v_bipush (v := (63 : Int32)) d_Wk_decisionsOf_5 (by decide +kernel)) (.cons (v_iand d_Wk_decisionsOf_7) .nil)))))
theorem d_Wk_decisionsOf_8 : decode y_Wk_decisionsOf.2.1 8 = .ok (.ireturn, 1) := by decide +kernel
theorem b_Wk_decisionsOf_0 {X : aw_X} {d : Nat} {Q : Option Value → aw_H → Prop} {I : Nat → Nat → Int32} {L : Nat → Nat → Int64} {D : Nat → Nat} {v0 : Int64}
    (h1 : Q (some (.int ((((v0.toUInt64 >>> ((13 : Int32).toInt64.toUInt64 &&& Int64.toUInt64 63)).toInt64).toInt32) &&& (63 : Int32)))) (aw_s I L D)) :
    aw_z X d y_Wk_decisionsOf Q 0 [some (.long v0), none] [] (aw_s I L D) :=
  (s_Wk_decisionsOf_0.go [some (.long v0), none] [.int ((((v0.toUInt64 >>> ((13 : Int32).toInt64.toUInt64 &&& Int64.toUInt64 63)).toInt64).toInt32) &&& (63 : Int32))] (aw_s I L D) rfl (z_iret d_Wk_decisionsOf_8 rfl rfl (h1)))
/-! Wk_pathOf -/
theorem d_Wk_pathOf_0 : decode y_Wk_pathOf.2.1 0 = .ok (.lload_n 0, 1) := by decide +kernel
theorem d_Wk_pathOf_1 : decode y_Wk_pathOf.2.1 1 = .ok (.bipush 19, 2) := by decide +kernel
theorem d_Wk_pathOf_3 : decode y_Wk_pathOf.2.1 3 = .ok (.lushr, 1) := by decide +kernel
theorem s_Wk_pathOf_0 : aw_VS y_Wk_pathOf 0 [o_lld 0, o_c (.int (19 : Int32)), o_ls (fun x z => (x.toUInt64 >>> (z.toInt64.toUInt64 &&& Int64.toUInt64 63)).toInt64)] 4 := .cons (v_lload_n (i := 0) d_Wk_pathOf_0 rfl) (.cons (v_bipush (v := (19 : Int32)) d_Wk_pathOf_1 (by decide +kernel)) (.cons (v_lushr d_Wk_pathOf_3) .nil))
theorem d_Wk_pathOf_4 : decode y_Wk_pathOf.2.1 4 = .ok (.lreturn, 1) := by decide +kernel
theorem b_Wk_pathOf_0 {X : aw_X} {d : Nat} {Q : Option Value → aw_H → Prop} {I : Nat → Nat → Int32} {L : Nat → Nat → Int64} {D : Nat → Nat} {v0 : Int64}
    (h1 : Q (some (.long ((v0.toUInt64 >>> ((19 : Int32).toInt64.toUInt64 &&& Int64.toUInt64 63)).toInt64))) (aw_s I L D)) :
    aw_z X d y_Wk_pathOf Q 0 [some (.long v0), none] [] (aw_s I L D) :=
  (s_Wk_pathOf_0.go [some (.long v0), none] [.long ((v0.toUInt64 >>> ((19 : Int32).toInt64.toUInt64 &&& Int64.toUInt64 63)).toInt64)] (aw_s I L D) rfl (z_lret d_Wk_pathOf_4 rfl (h1)))
/-! Wk_isRow -/
theorem d_Wk_isRow_0 : decode y_Wk_isRow.2.1 0 = .ok (.aload_n 0, 1) := by decide +kernel
theorem d_Wk_isRow_1 : decode y_Wk_isRow.2.1 1 = .ok (.getfield 46, 3) := by decide +kernel
theorem s_Wk_isRow_0 : aw_VS y_Wk_isRow 0 [o_ald 0, o_getI 4 0] 4 := .cons (v_aload_n (i := 0) d_Wk_isRow_0 rfl) (.cons (v_getI (k := 0) k_Wk (by decide) (Or.inr rfl) (Or.inl w_200) d_Wk_isRow_1) .nil)
theorem d_Wk_isRow_4 : decode y_Wk_isRow.2.1 4 = .ok (.ifCond .eq (19), 3) := by decide +kernel
theorem d_Wk_isRow_23 : decode y_Wk_isRow.2.1 23 = .ok (.iconst 0, 1) := by decide +kernel
theorem s_Wk_isRow_23 : aw_VS y_Wk_isRow 23 [o_c (.int (0 : Int32))] 24 := .cons (v_iconst (v := (0 : Int32)) d_Wk_isRow_23 (by decide +kernel)) .nil
theorem d_Wk_isRow_24 : decode y_Wk_isRow.2.1 24 = .ok (.ireturn, 1) := by decide +kernel
theorem d_Wk_isRow_7 : decode y_Wk_isRow.2.1 7 = .ok (.iload_n 1, 1) := by decide +kernel
theorem s_Wk_isRow_7 : aw_VS y_Wk_isRow 7 [o_ild 1] 8 := .cons (v_iload_n (i := 1) d_Wk_isRow_7 rfl) .nil
theorem d_Wk_isRow_8 : decode y_Wk_isRow.2.1 8 = .ok (.ifCond .lt (15), 3) := by decide +kernel
theorem d_Wk_isRow_11 : decode y_Wk_isRow.2.1 11 = .ok (.iload_n 1, 1) := by decide +kernel
theorem d_Wk_isRow_12 : decode y_Wk_isRow.2.1 12 = .ok (.aload_n 0, 1) := by decide +kernel
theorem d_Wk_isRow_13 : decode y_Wk_isRow.2.1 13 = .ok (.getfield 50, 3) := by decide +kernel
theorem s_Wk_isRow_11 : aw_VS y_Wk_isRow 11 [o_ild 1, o_ald 0, o_getI 4 1] 16 := .cons (v_iload_n (i := 1) d_Wk_isRow_11 rfl) (.cons (v_aload_n (i := 0) d_Wk_isRow_12 rfl) (.cons (v_getI (k := 1) k_Wk (by decide) (Or.inl rfl) (Or.inl w_201) d_Wk_isRow_13) .nil))
theorem d_Wk_isRow_16 : decode y_Wk_isRow.2.1 16 = .ok (.if_icmp .ge (7), 3) := by decide +kernel
theorem d_Wk_isRow_19 : decode y_Wk_isRow.2.1 19 = .ok (.iconst 1, 1) := by decide +kernel
theorem s_Wk_isRow_19 : aw_VS y_Wk_isRow 19 [o_c (.int (1 : Int32))] 20 := .cons (v_iconst (v := (1 : Int32)) d_Wk_isRow_19 (by decide +kernel)) .nil
theorem d_Wk_isRow_20 : decode y_Wk_isRow.2.1 20 = .ok (.goto (4), 3) := by decide +kernel
theorem b_Wk_isRow_0 {X : aw_X} {d : Nat} {Q : Option Value → aw_H → Prop} {I : Nat → Nat → Int32} {L : Nat → Nat → Int64} {D : Nat → Nat} {v1 : Int32}
    (h1 : (I 11 0) = 0 → Q (some (.int (0 : Int32))) (aw_s I L D))
    (h2 : ¬ (I 11 0) = 0 → v1 < 0 → Q (some (.int (0 : Int32))) (aw_s I L D))
    (h3 : ¬ (I 11 0) = 0 → ¬ v1 < 0 → (I 11 1) ≤ v1 → Q (some (.int (0 : Int32))) (aw_s I L D))
    (h4 : ¬ (I 11 0) = 0 → ¬ v1 < 0 → ¬ (I 11 1) ≤ v1 → Q (some (.int (1 : Int32))) (aw_s I L D)) :
    aw_z X d y_Wk_isRow Q 0 [some (.ref 11), some (.int v1)] [] (aw_s I L D) :=
  (s_Wk_isRow_0.go [some (.ref 11), some (.int v1)] [.int (I 11 0)] (aw_s I L D) rfl (z_if_eq (tgt := 23) d_Wk_isRow_4 rfl (fun q1 => (s_Wk_isRow_23.go [some (.ref 11), some (.int v1)] [.int (0 : Int32)] (aw_s I L D) rfl (z_iret d_Wk_isRow_24 rfl (aw_nz (by decide +kernel)) (h1 q1)))) (fun q2 => (s_Wk_isRow_7.go [some (.ref 11), some (.int v1)] [.int v1] (aw_s I L D) rfl (z_if_lt (tgt := 23) d_Wk_isRow_8 rfl (fun q3 => (s_Wk_isRow_23.go [some (.ref 11), some (.int v1)] [.int (0 : Int32)] (aw_s I L D) rfl (z_iret d_Wk_isRow_24 rfl (aw_nz (by decide +kernel)) (h2 q2 q3)))) (fun q4 => (s_Wk_isRow_11.go [some (.ref 11), some (.int v1)] [.int (I 11 1), .int v1] (aw_s I L D) rfl (z_icmp_ge (tgt := 23) d_Wk_isRow_16 rfl (fun q5 => (s_Wk_isRow_23.go [some (.ref 11), some (.int v1)] [.int (0 : Int32)] (aw_s I L D) rfl (z_iret d_Wk_isRow_24 rfl (aw_nz (by decide +kernel)) (h3 q2 q4 q5)))) (fun q6 => (s_Wk_isRow_19.go [some (.ref 11), some (.int v1)] [.int (1 : Int32)] (aw_s I L D) rfl (z_goto (tgt := 24) d_Wk_isRow_20 rfl (z_iret d_Wk_isRow_24 rfl (aw_nz (by decide +kernel)) (h4 q2 q4 q6)))))))))))))
/-! Wk_wayOf -/
theorem d_Wk_wayOf_0 : decode y_Wk_wayOf.2.1 0 = .ok (.aload_n 0, 1) := by decide +kernel
theorem d_Wk_wayOf_1 : decode y_Wk_wayOf.2.1 1 = .ok (.aload_n 0, 1) := by decide +kernel
theorem d_Wk_wayOf_2 : decode y_Wk_wayOf.2.1 2 = .ok (.getfield 9, 3) := by decide +kernel
theorem d_Wk_wayOf_5 : decode y_Wk_wayOf.2.1 5 = .ok (.iload_n 1, 1) := by decide +kernel
theorem s_Wk_wayOf_0 : aw_VS y_Wk_wayOf 0 [o_ald 0, o_ald 0, o_getA 4 3, o_ild 1] 6 := .cons (v_aload_n (i := 0) d_Wk_wayOf_0 rfl) (.cons (v_aload_n (i := 0) d_Wk_wayOf_1 rfl) (.cons (v_getA (k := 3) k_Wk (by decide) rfl (Or.inl w_203) d_Wk_wayOf_2) (.cons (v_iload_n (i := 1) d_Wk_wayOf_5 rfl) .nil)))
theorem d_Wk_wayOf_6 : decode y_Wk_wayOf.2.1 6 = .ok (.invokestatic 101, 3) := by decide +kernel
theorem b_Wk_wayOf_0 {X : aw_X} {d : Nat} {Q : Option Value → aw_H → Prop} {I : Nat → Nat → Int32} {L : Nat → Nat → Int64} {D : Nat → Nat} {v1 : Int32}
    (h1 : aw_m X d y_AW_valueAt_aJI [.ref 12, .int v1] (aw_s I L D) (fun r A => aw_z X (d + 1) y_Wk_wayOf Q 9 [none, none] (r.toList ++ [.ref 11]) A)) :
    aw_z X (d + 1) y_Wk_wayOf Q 0 [some (.ref 11), some (.int v1)] [] (aw_s I L D) :=
  (s_Wk_wayOf_0.go [some (.ref 11), some (.int v1)] [.int v1, .ref 12, .ref 11] (aw_s I L D) rfl (z_callS (av := [.ref 12, .int v1]) (st := [.ref 11]) ok_AW_valueAt_aJI (Or.inr ⟨"AllWays", w_893⟩) w_894 d_Wk_wayOf_6 rfl rfl (Nat.le_of_ble_eq_true rfl) (Nat.le_refl _) (Nat.le_refl _) (aw_C.mono (h1) (fun _ _ zz => aw_Z.weak (ls' := [none, none]) zz (Nat.le_of_ble_eq_true rfl) ⟨Or.inl rfl, ⟨Or.inl rfl, trivial⟩⟩))))
theorem d_Wk_wayOf_9 : decode y_Wk_wayOf.2.1 9 = .ok (.invokevirtual 105, 3) := by decide +kernel
theorem b_Wk_wayOf_9 {X : aw_X} {d : Nat} {Q : Option Value → aw_H → Prop} {I : Nat → Nat → Int32} {L : Nat → Nat → Int64} {D : Nat → Nat} {s1 : Int64}
    (h1 : aw_m X d y_Wk_find [.ref 11, .long s1] (aw_s I L D) (fun r A => aw_z X (d + 1) y_Wk_wayOf Q 12 [none, none] (r.toList ++ []) A)) :
    aw_z X (d + 1) y_Wk_wayOf Q 9 [none, none] [.long s1, .ref 11] (aw_s I L D) :=
  (z_callV (av := [.long s1]) (st := []) ok_Wk_find (Or.inl w_889) w_891 w_45 k_Wk d_Wk_wayOf_9 rfl (aw_lt (o := 11) rfl) rfl rfl (Nat.le_of_ble_eq_true rfl) (Nat.le_refl _) (Nat.le_refl _) (h1))
theorem d_Wk_wayOf_12 : decode y_Wk_wayOf.2.1 12 = .ok (.ireturn, 1) := by decide +kernel
theorem b_Wk_wayOf_12 {X : aw_X} {d : Nat} {Q : Option Value → aw_H → Prop} {I : Nat → Nat → Int32} {L : Nat → Nat → Int64} {D : Nat → Nat} {s0 : Int32}
    (h1 : Q (some (.int s0)) (aw_s I L D)) :
    aw_z X (d + 1) y_Wk_wayOf Q 12 [none, none] [.int s0] (aw_s I L D) :=
  (z_iret d_Wk_wayOf_12 rfl rfl (h1))
/-! Wk_leastRow -/
theorem d_Wk_leastRow_0 : decode y_Wk_leastRow.2.1 0 = .ok (.iconst 0, 1) := by decide +kernel
theorem d_Wk_leastRow_1 : decode y_Wk_leastRow.2.1 1 = .ok (.istore_n 3, 1) := by decide +kernel
theorem s_Wk_leastRow_0 : aw_VS y_Wk_leastRow 0 [o_c (.int (0 : Int32)), o_ist 3] 2 := .cons (v_iconst (v := (0 : Int32)) d_Wk_leastRow_0 (by decide +kernel)) (.cons (v_istore_n d_Wk_leastRow_1) .nil)
theorem b_Wk_leastRow_0 {X : aw_X} {d : Nat} {Q : Option Value → aw_H → Prop} {I : Nat → Nat → Int32} {L : Nat → Nat → Int64} {D : Nat → Nat} {v1 : Int32} {v2 : Int32}
    (h1 : aw_z X (d + 1) y_Wk_leastRow Q 2 [some (.ref 11), some (.int v1), some (.int v2), some (.int (0 : Int32))] [] (aw_s I L D)) :
    aw_z X (d + 1) y_Wk_leastRow Q 0 [some (.ref 11), some (.int v1), some (.int v2), none] [] (aw_s I L D) :=
  (s_Wk_leastRow_0.go [some (.ref 11), some (.int v1), some (.int v2), some (.int (0 : Int32))] [] (aw_s I L D) rfl (h1))
theorem d_Wk_leastRow_2 : decode y_Wk_leastRow.2.1 2 = .ok (.aload_n 0, 1) := by decide +kernel
theorem d_Wk_leastRow_3 : decode y_Wk_leastRow.2.1 3 = .ok (.getfield 46, 3) := by decide +kernel
theorem s_Wk_leastRow_2 : aw_VS y_Wk_leastRow 2 [o_ald 0, o_getI 4 0] 6 := .cons (v_aload_n (i := 0) d_Wk_leastRow_2 rfl) (.cons (v_getI (k := 0) k_Wk (by decide) (Or.inr rfl) (Or.inl w_200) d_Wk_leastRow_3) .nil)
theorem d_Wk_leastRow_6 : decode y_Wk_leastRow.2.1 6 = .ok (.ifCond .eq (54), 3) := by decide +kernel
theorem d_Wk_leastRow_60 : decode y_Wk_leastRow.2.1 60 = .ok (.iconst (-1), 1) := by decide +kernel
theorem s_Wk_leastRow_60 : aw_VS y_Wk_leastRow 60 [o_c (.int (-1 : Int32))] 61 := .cons (v_iconst (v := (-1 : Int32)) d_Wk_leastRow_60 (by decide +kernel)) .nil
theorem d_Wk_leastRow_61 : decode y_Wk_leastRow.2.1 61 = .ok (.ireturn, 1) := by decide +kernel
theorem d_Wk_leastRow_9 : decode y_Wk_leastRow.2.1 9 = .ok (.iload_n 3, 1) := by decide +kernel
theorem d_Wk_leastRow_10 : decode y_Wk_leastRow.2.1 10 = .ok (.aload_n 0, 1) := by decide +kernel
theorem d_Wk_leastRow_11 : decode y_Wk_leastRow.2.1 11 = .ok (.getfield 50, 3) := by decide +kernel
theorem s_Wk_leastRow_9 : aw_VS y_Wk_leastRow 9 [o_ild 3, o_ald 0, o_getI 4 1] 14 := .cons (v_iload_n (i := 3) d_Wk_leastRow_9 rfl) (.cons (v_aload_n (i := 0) d_Wk_leastRow_10 rfl) (.cons (v_getI (k := 1) k_Wk (by decide) (Or.inl rfl) (Or.inl w_201) d_Wk_leastRow_11) .nil))
theorem d_Wk_leastRow_14 : decode y_Wk_leastRow.2.1 14 = .ok (.if_icmp .ge (46), 3) := by decide +kernel
theorem d_Wk_leastRow_17 : decode y_Wk_leastRow.2.1 17 = .ok (.iload_n 3, 1) := by decide +kernel
theorem d_Wk_leastRow_18 : decode y_Wk_leastRow.2.1 18 = .ok (.sipush 4096, 3) := by decide +kernel
theorem s_Wk_leastRow_17 : aw_VS y_Wk_leastRow 17 [o_ild 3, o_c (.int (4096 : Int32))] 21 := .cons (v_iload_n (i := 3) d_Wk_leastRow_17 rfl) (.cons (v_sipush (v := (4096 : Int32)) d_Wk_leastRow_18 (by decide +kernel)) .nil)
theorem d_Wk_leastRow_21 : decode y_Wk_leastRow.2.1 21 = .ok (.if_icmp .ge (39), 3) := by decide +kernel
theorem d_Wk_leastRow_24 : decode y_Wk_leastRow.2.1 24 = .ok (.aload_n 0, 1) := by decide +kernel
theorem d_Wk_leastRow_25 : decode y_Wk_leastRow.2.1 25 = .ok (.getfield 9, 3) := by decide +kernel
theorem d_Wk_leastRow_28 : decode y_Wk_leastRow.2.1 28 = .ok (.iload_n 3, 1) := by decide +kernel
theorem s_Wk_leastRow_24 : aw_VS y_Wk_leastRow 24 [o_ald 0, o_getA 4 3, o_ild 3] 29 := .cons (v_aload_n (i := 0) d_Wk_leastRow_24 rfl) (.cons (v_getA (k := 3) k_Wk (by decide) rfl (Or.inl w_203) d_Wk_leastRow_25) (.cons (v_iload_n (i := 3) d_Wk_leastRow_28 rfl) .nil))
theorem d_Wk_leastRow_29 : decode y_Wk_leastRow.2.1 29 = .ok (.laload, 1) := by decide +kernel
theorem d_Wk_leastRow_30 : decode y_Wk_leastRow.2.1 30 = .ok (.invokestatic 147, 3) := by decide +kernel
theorem b_Wk_leastRow_2 {X : aw_X} {d : Nat} {Q : Option Value → aw_H → Prop} {I : Nat → Nat → Int32} {L : Nat → Nat → Int64} {D : Nat → Nat} {v1 : Int32} {v2 : Int32} {v3 : Int32}
    (h1 : (I 11 0) = 0 → Q (some (.int (-1 : Int32))) (aw_s I L D))
    (h2 : ¬ (I 11 0) = 0 → (I 11 1) ≤ v3 → Q (some (.int (-1 : Int32))) (aw_s I L D))
    (h3 : ¬ (I 11 0) = 0 → ¬ (I 11 1) ≤ v3 → (4096 : Int32) ≤ v3 → Q (some (.int (-1 : Int32))) (aw_s I L D))
    (h4 : ¬ (I 11 0) = 0 → ¬ (I 11 1) ≤ v3 → ¬ (4096 : Int32) ≤ v3 → vp_in v3 4096)
    (h5 : ¬ (I 11 0) = 0 → ¬ (I 11 1) ≤ v3 → ¬ (4096 : Int32) ≤ v3 → aw_m X d y_Wk_endOf [.long (L 12 v3.toNatClampNeg)] (aw_s I L D) (fun r A => aw_z X (d + 1) y_Wk_leastRow Q 33 [some (.ref 11), some (.int v1), some (.int v2), some (.int v3)] (r.toList ++ []) A)) :
    aw_z X (d + 1) y_Wk_leastRow Q 2 [some (.ref 11), some (.int v1), some (.int v2), some (.int v3)] [] (aw_s I L D) :=
  (s_Wk_leastRow_2.go [some (.ref 11), some (.int v1), some (.int v2), some (.int v3)] [.int (I 11 0)] (aw_s I L D) rfl (z_if_eq (tgt := 60) d_Wk_leastRow_6 rfl (fun q1 => (s_Wk_leastRow_60.go [some (.ref 11), some (.int v1), some (.int v2), some (.int v3)] [.int (-1 : Int32)] (aw_s I L D) rfl (z_iret d_Wk_leastRow_61 rfl rfl (h1 q1)))) (fun q2 => (s_Wk_leastRow_9.go [some (.ref 11), some (.int v1), some (.int v2), some (.int v3)] [.int (I 11 1), .int v3] (aw_s I L D) rfl (z_icmp_ge (tgt := 60) d_Wk_leastRow_14 rfl (fun q3 => (s_Wk_leastRow_60.go [some (.ref 11), some (.int v1), some (.int v2), some (.int v3)] [.int (-1 : Int32)] (aw_s I L D) rfl (z_iret d_Wk_leastRow_61 rfl rfl (h2 q2 q3)))) (fun q4 => (s_Wk_leastRow_17.go [some (.ref 11), some (.int v1), some (.int v2), some (.int v3)] [.int (4096 : Int32), .int v3] (aw_s I L D) rfl (z_icmp_ge (tgt := 60) d_Wk_leastRow_21 rfl (fun q5 => (s_Wk_leastRow_60.go [some (.ref 11), some (.int v1), some (.int v2), some (.int v3)] [.int (-1 : Int32)] (aw_s I L D) rfl (z_iret d_Wk_leastRow_61 rfl rfl (h3 q2 q4 q5)))) (fun q6 => (s_Wk_leastRow_24.go [some (.ref 11), some (.int v1), some (.int v2), some (.int v3)] [.int v3, .ref 12] (aw_s I L D) rfl (z_lald (n := 4096) rfl (aw_lt (o := 12) rfl) (h4 q2 q4 q6) d_Wk_leastRow_29 (z_callS (av := [.long (L 12 v3.toNatClampNeg)]) (st := []) ok_Wk_endOf (Or.inl w_960) w_961 d_Wk_leastRow_30 rfl rfl (Nat.le_of_ble_eq_true rfl) (Nat.le_refl _) (Nat.le_refl _) (h5 q2 q4 q6)))))))))))))
theorem d_Wk_leastRow_33 : decode y_Wk_leastRow.2.1 33 = .ok (.iload_n 1, 1) := by decide +kernel
theorem s_Wk_leastRow_33 : aw_VS y_Wk_leastRow 33 [o_ild 1] 34 := .cons (v_iload_n (i := 1) d_Wk_leastRow_33 rfl) .nil
theorem d_Wk_leastRow_34 : decode y_Wk_leastRow.2.1 34 = .ok (.if_icmp .ne (20), 3) := by decide +kernel
theorem d_Wk_leastRow_54 : decode y_Wk_leastRow.2.1 54 = .ok (.iinc 3 (1), 3) := by decide +kernel
theorem s_Wk_leastRow_54 : aw_VS y_Wk_leastRow 54 [o_inc 3 (1 : Int32)] 57 := .cons (v_iinc (k0 := (1 : Int32)) d_Wk_leastRow_54 (by decide +kernel)) .nil
theorem d_Wk_leastRow_57 : decode y_Wk_leastRow.2.1 57 = .ok (.goto (-55), 3) := by decide +kernel
theorem d_Wk_leastRow_37 : decode y_Wk_leastRow.2.1 37 = .ok (.iload_n 2, 1) := by decide +kernel
theorem d_Wk_leastRow_38 : decode y_Wk_leastRow.2.1 38 = .ok (.iconst (-1), 1) := by decide +kernel
theorem s_Wk_leastRow_37 : aw_VS y_Wk_leastRow 37 [o_ild 2, o_c (.int (-1 : Int32))] 39 := .cons (v_iload_n (i := 2) d_Wk_leastRow_37 rfl) (.cons (v_iconst (v := (-1 : Int32)) d_Wk_leastRow_38 (by decide +kernel)) .nil)
theorem d_Wk_leastRow_39 : decode y_Wk_leastRow.2.1 39 = .ok (.if_icmp .eq (13), 3) := by decide +kernel
theorem d_Wk_leastRow_52 : decode y_Wk_leastRow.2.1 52 = .ok (.iload_n 3, 1) := by decide +kernel
theorem s_Wk_leastRow_52 : aw_VS y_Wk_leastRow 52 [o_ild 3] 53 := .cons (v_iload_n (i := 3) d_Wk_leastRow_52 rfl) .nil
theorem d_Wk_leastRow_53 : decode y_Wk_leastRow.2.1 53 = .ok (.ireturn, 1) := by decide +kernel
theorem d_Wk_leastRow_42 : decode y_Wk_leastRow.2.1 42 = .ok (.aload_n 0, 1) := by decide +kernel
theorem d_Wk_leastRow_43 : decode y_Wk_leastRow.2.1 43 = .ok (.getfield 15, 3) := by decide +kernel
theorem d_Wk_leastRow_46 : decode y_Wk_leastRow.2.1 46 = .ok (.iload_n 3, 1) := by decide +kernel
theorem s_Wk_leastRow_42 : aw_VS y_Wk_leastRow 42 [o_ald 0, o_getA 4 4, o_ild 3] 47 := .cons (v_aload_n (i := 0) d_Wk_leastRow_42 rfl) (.cons (v_getA (k := 4) k_Wk (by decide) rfl (Or.inl w_204) d_Wk_leastRow_43) (.cons (v_iload_n (i := 3) d_Wk_leastRow_46 rfl) .nil))
theorem d_Wk_leastRow_47 : decode y_Wk_leastRow.2.1 47 = .ok (.iaload, 1) := by decide +kernel
theorem d_Wk_leastRow_48 : decode y_Wk_leastRow.2.1 48 = .ok (.iload_n 2, 1) := by decide +kernel
theorem s_Wk_leastRow_48 : aw_VS y_Wk_leastRow 48 [o_ild 2] 49 := .cons (v_iload_n (i := 2) d_Wk_leastRow_48 rfl) .nil
theorem d_Wk_leastRow_49 : decode y_Wk_leastRow.2.1 49 = .ok (.if_icmp .ne (5), 3) := by decide +kernel
theorem b_Wk_leastRow_33 {X : aw_X} {d : Nat} {Q : Option Value → aw_H → Prop} {I : Nat → Nat → Int32} {L : Nat → Nat → Int64} {D : Nat → Nat} {v1 : Int32} {v2 : Int32} {v3 : Int32} {s0 : Int32}
    (h1 : ¬ s0 = v1 → aw_z X (d + 1) y_Wk_leastRow Q 2 [some (.ref 11), some (.int v1), some (.int v2), some (.int (v3 + (1 : Int32)))] [] (aw_s I L D))
    (h2 : s0 = v1 → v2 = (-1 : Int32) → Q (some (.int v3)) (aw_s I L D))
    (h3 : s0 = v1 → ¬ v2 = (-1 : Int32) → vp_in v3 4096)
    (h4 : s0 = v1 → ¬ v2 = (-1 : Int32) → ¬ (I 13 v3.toNatClampNeg) = v2 → aw_z X (d + 1) y_Wk_leastRow Q 2 [some (.ref 11), some (.int v1), some (.int v2), some (.int (v3 + (1 : Int32)))] [] (aw_s I L D))
    (h5 : s0 = v1 → ¬ v2 = (-1 : Int32) → (I 13 v3.toNatClampNeg) = v2 → Q (some (.int v3)) (aw_s I L D)) :
    aw_z X (d + 1) y_Wk_leastRow Q 33 [some (.ref 11), some (.int v1), some (.int v2), some (.int v3)] [.int s0] (aw_s I L D) :=
  (s_Wk_leastRow_33.go [some (.ref 11), some (.int v1), some (.int v2), some (.int v3)] [.int v1, .int s0] (aw_s I L D) rfl (z_icmp_ne (tgt := 54) d_Wk_leastRow_34 rfl (fun q1 => (s_Wk_leastRow_54.go [some (.ref 11), some (.int v1), some (.int v2), some (.int (v3 + (1 : Int32)))] [] (aw_s I L D) rfl (z_goto (tgt := 2) d_Wk_leastRow_57 rfl (h1 q1)))) (fun q2 => (s_Wk_leastRow_37.go [some (.ref 11), some (.int v1), some (.int v2), some (.int v3)] [.int (-1 : Int32), .int v2] (aw_s I L D) rfl (z_icmp_eq (tgt := 52) d_Wk_leastRow_39 rfl (fun q3 => (s_Wk_leastRow_52.go [some (.ref 11), some (.int v1), some (.int v2), some (.int v3)] [.int v3] (aw_s I L D) rfl (z_iret d_Wk_leastRow_53 rfl rfl (h2 q2 q3)))) (fun q4 => (s_Wk_leastRow_42.go [some (.ref 11), some (.int v1), some (.int v2), some (.int v3)] [.int v3, .ref 13] (aw_s I L D) rfl (z_iald (n := 4096) rfl (aw_lt (o := 13) rfl) (h3 q2 q4) d_Wk_leastRow_47 (s_Wk_leastRow_48.go [some (.ref 11), some (.int v1), some (.int v2), some (.int v3)] [.int v2, .int (I 13 v3.toNatClampNeg)] (aw_s I L D) rfl (z_icmp_ne (tgt := 54) d_Wk_leastRow_49 rfl (fun q5 => (s_Wk_leastRow_54.go [some (.ref 11), some (.int v1), some (.int v2), some (.int (v3 + (1 : Int32)))] [] (aw_s I L D) rfl (z_goto (tgt := 2) d_Wk_leastRow_57 rfl (h4 q2 q4 q5)))) (fun q6 => (s_Wk_leastRow_52.go [some (.ref 11), some (.int v1), some (.int v2), some (.int v3)] [.int v3] (aw_s I L D) rfl (z_iret d_Wk_leastRow_53 rfl rfl (h5 q2 q4 q6))))))))))))))
/-! Wk_endOf -/
theorem d_Wk_endOf_0 : decode y_Wk_endOf.2.1 0 = .ok (.lload_n 0, 1) := by decide +kernel
theorem d_Wk_endOf_1 : decode y_Wk_endOf.2.1 1 = .ok (.l2i, 1) := by decide +kernel
theorem d_Wk_endOf_2 : decode y_Wk_endOf.2.1 2 = .ok (.bipush 7, 2) := by decide +kernel
theorem d_Wk_endOf_4 : decode y_Wk_endOf.2.1 4 = .ok (.iand, 1) := by decide +kernel
theorem s_Wk_endOf_0 : aw_VS y_Wk_endOf 0 [o_lld 0, o_li (fun x => x.toInt32), o_c (.int (7 : Int32)), o_i2 (fun x z => x &&& z)] 5 := .cons (v_lload_n (i := 0) d_Wk_endOf_0 rfl) (.cons (v_l2i d_Wk_endOf_1) (.cons (v_bipush (v := (7 : Int32)) d_Wk_endOf_2 (by decide +kernel)) (.cons (v_iand d_Wk_endOf_4) .nil)))
theorem d_Wk_endOf_5 : decode y_Wk_endOf.2.1 5 = .ok (.ireturn, 1) := by decide +kernel
theorem b_Wk_endOf_0 {X : aw_X} {d : Nat} {Q : Option Value → aw_H → Prop} {I : Nat → Nat → Int32} {L : Nat → Nat → Int64} {D : Nat → Nat} {v0 : Int64}
    (h1 : Q (some (.int (v0.toInt32 &&& (7 : Int32)))) (aw_s I L D)) :
    aw_z X d y_Wk_endOf Q 0 [some (.long v0), none] [] (aw_s I L D) :=
  (s_Wk_endOf_0.go [some (.long v0), none] [.int (v0.toInt32 &&& (7 : Int32))] (aw_s I L D) rfl (z_iret d_Wk_endOf_5 rfl rfl (h1)))
/-! Wk_ofWay -/
theorem d_Wk_ofWay_0 : decode y_Wk_ofWay.2.1 0 = .ok (.aload_n 0, 1) := by decide +kernel
theorem d_Wk_ofWay_1 : decode y_Wk_ofWay.2.1 1 = .ok (.getfield 22, 3) := by decide +kernel
theorem d_Wk_ofWay_4 : decode y_Wk_ofWay.2.1 4 = .ok (.iload_n 1, 1) := by decide +kernel
theorem s_Wk_ofWay_0 : aw_VS y_Wk_ofWay 0 [o_ald 0, o_getA 4 7, o_ild 1] 5 := .cons (v_aload_n (i := 0) d_Wk_ofWay_0 rfl) (.cons (v_getA (k := 7) k_Wk (by decide) rfl (Or.inl w_208) d_Wk_ofWay_1) (.cons (v_iload_n (i := 1) d_Wk_ofWay_4 rfl) .nil))
theorem d_Wk_ofWay_5 : decode y_Wk_ofWay.2.1 5 = .ok (.invokestatic 101, 3) := by decide +kernel
theorem b_Wk_ofWay_0 {X : aw_X} {d : Nat} {Q : Option Value → aw_H → Prop} {I : Nat → Nat → Int32} {L : Nat → Nat → Int64} {D : Nat → Nat} {v1 : Int32} {v2 : Int32}
    (h1 : aw_m X d y_AW_valueAt_aJI [.ref 15, .int v1] (aw_s I L D) (fun r A => aw_z X (d + 1) y_Wk_ofWay Q 8 [some (.ref 11), some (.int v1), some (.int v2), none, none, none, none] (r.toList ++ []) A)) :
    aw_z X (d + 1) y_Wk_ofWay Q 0 [some (.ref 11), some (.int v1), some (.int v2), none, none, none, none] [] (aw_s I L D) :=
  (s_Wk_ofWay_0.go [some (.ref 11), some (.int v1), some (.int v2), none, none, none, none] [.int v1, .ref 15] (aw_s I L D) rfl (z_callS (av := [.ref 15, .int v1]) (st := []) ok_AW_valueAt_aJI (Or.inr ⟨"AllWays", w_893⟩) w_894 d_Wk_ofWay_5 rfl rfl (Nat.le_of_ble_eq_true rfl) (Nat.le_refl _) (Nat.le_refl _) (h1)))
theorem d_Wk_ofWay_8 : decode y_Wk_ofWay.2.1 8 = .ok (.lstore_n 3, 1) := by decide +kernel
theorem d_Wk_ofWay_9 : decode y_Wk_ofWay.2.1 9 = .ok (.aload_n 0, 1) := by decide +kernel
theorem d_Wk_ofWay_10 : decode y_Wk_ofWay.2.1 10 = .ok (.getfield 28, 3) := by decide +kernel
theorem d_Wk_ofWay_13 : decode y_Wk_ofWay.2.1 13 = .ok (.iload_n 1, 1) := by decide +kernel
theorem s_Wk_ofWay_8 : aw_VS y_Wk_ofWay 8 [o_lst 3, o_ald 0, o_getA 4 9, o_ild 1] 14 := .cons (v_lstore_n d_Wk_ofWay_8) (.cons (v_aload_n (i := 0) d_Wk_ofWay_9 rfl) (.cons (v_getA (k := 9) k_Wk (by decide) rfl (Or.inl w_210) d_Wk_ofWay_10) (.cons (v_iload_n (i := 1) d_Wk_ofWay_13 rfl) .nil)))
theorem d_Wk_ofWay_14 : decode y_Wk_ofWay.2.1 14 = .ok (.invokestatic 135, 3) := by decide +kernel
theorem b_Wk_ofWay_8 {X : aw_X} {d : Nat} {Q : Option Value → aw_H → Prop} {I : Nat → Nat → Int32} {L : Nat → Nat → Int64} {D : Nat → Nat} {v1 : Int32} {v2 : Int32} {s0 : Int64}
    (h1 : aw_m X d y_AW_valueAt_aII [.ref 17, .int v1] (aw_s I L D) (fun r A => aw_z X (d + 1) y_Wk_ofWay Q 17 [some (.ref 11), some (.int v1), some (.int v2), some (.long s0), none, none, none] (r.toList ++ []) A)) :
    aw_z X (d + 1) y_Wk_ofWay Q 8 [some (.ref 11), some (.int v1), some (.int v2), none, none, none, none] [.long s0] (aw_s I L D) :=
  (s_Wk_ofWay_8.go [some (.ref 11), some (.int v1), some (.int v2), some (.long s0), none, none, none] [.int v1, .ref 17] (aw_s I L D) rfl (z_callS (av := [.ref 17, .int v1]) (st := []) ok_AW_valueAt_aII (Or.inr ⟨"AllWays", w_919⟩) w_814 d_Wk_ofWay_14 rfl rfl (Nat.le_of_ble_eq_true rfl) (Nat.le_refl _) (Nat.le_refl _) (h1)))
theorem d_Wk_ofWay_17 : decode y_Wk_ofWay.2.1 17 = .ok (.istore 5, 2) := by decide +kernel
theorem d_Wk_ofWay_19 : decode y_Wk_ofWay.2.1 19 = .ok (.aload_n 0, 1) := by decide +kernel
theorem d_Wk_ofWay_20 : decode y_Wk_ofWay.2.1 20 = .ok (.getfield 15, 3) := by decide +kernel
theorem d_Wk_ofWay_23 : decode y_Wk_ofWay.2.1 23 = .ok (.iload 5, 2) := by decide +kernel
theorem s_Wk_ofWay_17 : aw_VS y_Wk_ofWay 17 [o_ist 5, o_ald 0, o_getA 4 4, o_ild 5] 25 := .cons (v_istore d_Wk_ofWay_17) (.cons (v_aload_n (i := 0) d_Wk_ofWay_19 rfl) (.cons (v_getA (k := 4) k_Wk (by decide) rfl (Or.inl w_204) d_Wk_ofWay_20) (.cons (v_iload (i := 5) d_Wk_ofWay_23) .nil)))
theorem d_Wk_ofWay_25 : decode y_Wk_ofWay.2.1 25 = .ok (.invokestatic 135, 3) := by decide +kernel
theorem b_Wk_ofWay_17 {X : aw_X} {d : Nat} {Q : Option Value → aw_H → Prop} {I : Nat → Nat → Int32} {L : Nat → Nat → Int64} {D : Nat → Nat} {v1 : Int32} {v2 : Int32} {v3 : Int64} {s0 : Int32}
    (h1 : aw_m X d y_AW_valueAt_aII [.ref 13, .int s0] (aw_s I L D) (fun r A => aw_z X (d + 1) y_Wk_ofWay Q 28 [some (.ref 11), some (.int v1), some (.int v2), some (.long v3), none, some (.int s0), none] (r.toList ++ []) A)) :
    aw_z X (d + 1) y_Wk_ofWay Q 17 [some (.ref 11), some (.int v1), some (.int v2), some (.long v3), none, none, none] [.int s0] (aw_s I L D) :=
  (s_Wk_ofWay_17.go [some (.ref 11), some (.int v1), some (.int v2), some (.long v3), none, some (.int s0), none] [.int s0, .ref 13] (aw_s I L D) rfl (z_callS (av := [.ref 13, .int s0]) (st := []) ok_AW_valueAt_aII (Or.inr ⟨"AllWays", w_919⟩) w_814 d_Wk_ofWay_25 rfl rfl (Nat.le_of_ble_eq_true rfl) (Nat.le_refl _) (Nat.le_refl _) (h1)))
theorem d_Wk_ofWay_28 : decode y_Wk_ofWay.2.1 28 = .ok (.istore 6, 2) := by decide +kernel
theorem d_Wk_ofWay_30 : decode y_Wk_ofWay.2.1 30 = .ok (.iload_n 2, 1) := by decide +kernel
theorem s_Wk_ofWay_28 : aw_VS y_Wk_ofWay 28 [o_ist 6, o_ild 2] 31 := .cons (v_istore d_Wk_ofWay_28) (.cons (v_iload_n (i := 2) d_Wk_ofWay_30 rfl) .nil)
theorem d_Wk_ofWay_31 : decode y_Wk_ofWay.2.1 31 = .ok (.tableswitch (58) (0) (4) #[33, 38, 41, 46, 55], 33) := by decide +kernel
theorem d_Wk_ofWay_64 : decode y_Wk_ofWay.2.1 64 = .ok (.lload_n 3, 1) := by decide +kernel
theorem s_Wk_ofWay_64 : aw_VS y_Wk_ofWay 64 [o_lld 3] 65 := .cons (v_lload_n (i := 3) d_Wk_ofWay_64 rfl) .nil
theorem d_Wk_ofWay_65 : decode y_Wk_ofWay.2.1 65 = .ok (.invokestatic 147, 3) := by decide +kernel
theorem d_Wk_ofWay_69 : decode y_Wk_ofWay.2.1 69 = .ok (.iload 6, 2) := by decide +kernel
theorem s_Wk_ofWay_69 : aw_VS y_Wk_ofWay 69 [o_ild 6] 71 := .cons (v_iload (i := 6) d_Wk_ofWay_69) .nil
theorem d_Wk_ofWay_71 : decode y_Wk_ofWay.2.1 71 = .ok (.ireturn, 1) := by decide +kernel
theorem d_Wk_ofWay_72 : decode y_Wk_ofWay.2.1 72 = .ok (.lload_n 3, 1) := by decide +kernel
theorem s_Wk_ofWay_72 : aw_VS y_Wk_ofWay 72 [o_lld 3] 73 := .cons (v_lload_n (i := 3) d_Wk_ofWay_72 rfl) .nil
theorem d_Wk_ofWay_73 : decode y_Wk_ofWay.2.1 73 = .ok (.invokestatic 150, 3) := by decide +kernel
theorem d_Wk_ofWay_77 : decode y_Wk_ofWay.2.1 77 = .ok (.aload_n 0, 1) := by decide +kernel
theorem d_Wk_ofWay_78 : decode y_Wk_ofWay.2.1 78 = .ok (.getfield 25, 3) := by decide +kernel
theorem d_Wk_ofWay_81 : decode y_Wk_ofWay.2.1 81 = .ok (.iload_n 1, 1) := by decide +kernel
theorem s_Wk_ofWay_77 : aw_VS y_Wk_ofWay 77 [o_ald 0, o_getA 4 8, o_ild 1] 82 := .cons (v_aload_n (i := 0) d_Wk_ofWay_77 rfl) (.cons (v_getA (k := 8) k_Wk (by decide) rfl (Or.inl w_209) d_Wk_ofWay_78) (.cons (v_iload_n (i := 1) d_Wk_ofWay_81 rfl) .nil))
theorem d_Wk_ofWay_82 : decode y_Wk_ofWay.2.1 82 = .ok (.invokestatic 135, 3) := by decide +kernel
theorem d_Wk_ofWay_86 : decode y_Wk_ofWay.2.1 86 = .ok (.iload 5, 2) := by decide +kernel
theorem s_Wk_ofWay_86 : aw_VS y_Wk_ofWay 86 [o_ild 5] 88 := .cons (v_iload (i := 5) d_Wk_ofWay_86) .nil
theorem d_Wk_ofWay_88 : decode y_Wk_ofWay.2.1 88 = .ok (.ireturn, 1) := by decide +kernel
theorem d_Wk_ofWay_89 : decode y_Wk_ofWay.2.1 89 = .ok (.iload 6, 2) := by decide +kernel
theorem d_Wk_ofWay_91 : decode y_Wk_ofWay.2.1 91 = .ok (.iconst (-1), 1) := by decide +kernel
theorem s_Wk_ofWay_89 : aw_VS y_Wk_ofWay 89 [o_ild 6, o_c (.int (-1 : Int32))] 92 := .cons (v_iload (i := 6) d_Wk_ofWay_89) (.cons (v_iconst (v := (-1 : Int32)) d_Wk_ofWay_91 (by decide +kernel)) .nil)
theorem d_Wk_ofWay_92 : decode y_Wk_ofWay.2.1 92 = .ok (.if_icmp .ne (12), 3) := by decide +kernel
theorem d_Wk_ofWay_104 : decode y_Wk_ofWay.2.1 104 = .ok (.lload_n 3, 1) := by decide +kernel
theorem s_Wk_ofWay_104 : aw_VS y_Wk_ofWay 104 [o_lld 3] 105 := .cons (v_lload_n (i := 3) d_Wk_ofWay_104 rfl) .nil
theorem d_Wk_ofWay_105 : decode y_Wk_ofWay.2.1 105 = .ok (.invokestatic 153, 3) := by decide +kernel
theorem d_Wk_ofWay_95 : decode y_Wk_ofWay.2.1 95 = .ok (.lload_n 3, 1) := by decide +kernel
theorem s_Wk_ofWay_95 : aw_VS y_Wk_ofWay 95 [o_lld 3] 96 := .cons (v_lload_n (i := 3) d_Wk_ofWay_95 rfl) .nil
theorem d_Wk_ofWay_96 : decode y_Wk_ofWay.2.1 96 = .ok (.invokestatic 153, 3) := by decide +kernel
theorem b_Wk_ofWay_28 {X : aw_X} {d : Nat} {Q : Option Value → aw_H → Prop} {I : Nat → Nat → Int32} {L : Nat → Nat → Int64} {D : Nat → Nat} {v1 : Int32} {v2 : Int32} {v3 : Int64} {v5 : Int32} {s0 : Int32}
    (h1 : v2 = (0 : Int32) → aw_m X d y_Wk_endOf [.long v3] (aw_s I L D) (fun r A => aw_z X (d + 1) y_Wk_ofWay Q 68 [none, none, none, none, none, none, none] (r.toList ++ []) A))
    (h2 : ¬ v2 = (0 : Int32) → v2 = (1 : Int32) → Q (some (.int s0)) (aw_s I L D))
    (h3 : ¬ v2 = (0 : Int32) → ¬ v2 = (1 : Int32) → v2 = (2 : Int32) → aw_m X d y_Wk_decisionsOf [.long v3] (aw_s I L D) (fun r A => aw_z X (d + 1) y_Wk_ofWay Q 76 [none, none, none, none, none, none, none] (r.toList ++ []) A))
    (h4 : ¬ v2 = (0 : Int32) → ¬ v2 = (1 : Int32) → ¬ v2 = (2 : Int32) → v2 = (3 : Int32) → aw_m X d y_AW_valueAt_aII [.ref 16, .int v1] (aw_s I L D) (fun r A => aw_z X (d + 1) y_Wk_ofWay Q 85 [none, none, none, none, none, none, none] (r.toList ++ []) A))
    (h5 : ¬ v2 = (0 : Int32) → ¬ v2 = (1 : Int32) → ¬ v2 = (2 : Int32) → ¬ v2 = (3 : Int32) → v2 = (4 : Int32) → Q (some (.int v5)) (aw_s I L D))
    (h6 : ¬ v2 = (0 : Int32) → ¬ v2 = (1 : Int32) → ¬ v2 = (2 : Int32) → ¬ v2 = (3 : Int32) → ¬ v2 = (4 : Int32) → ¬ s0 = (-1 : Int32) → aw_m X d y_Wk_placeOf [.long v3] (aw_s I L D) (fun r A => aw_z X (d + 1) y_Wk_ofWay Q 108 [none, none, none, none, none, none, none] (r.toList ++ []) A))
    (h7 : ¬ v2 = (0 : Int32) → ¬ v2 = (1 : Int32) → ¬ v2 = (2 : Int32) → ¬ v2 = (3 : Int32) → ¬ v2 = (4 : Int32) → s0 = (-1 : Int32) → aw_m X d y_Wk_placeOf [.long v3] (aw_s I L D) (fun r A => aw_z X (d + 1) y_Wk_ofWay Q 99 [none, none, none, none, none, none, none] (r.toList ++ []) A)) :
    aw_z X (d + 1) y_Wk_ofWay Q 28 [some (.ref 11), some (.int v1), some (.int v2), some (.long v3), none, some (.int v5), none] [.int s0] (aw_s I L D) :=
  (s_Wk_ofWay_28.go [some (.ref 11), some (.int v1), some (.int v2), some (.long v3), none, some (.int v5), some (.int s0)] [.int v2] (aw_s I L D) rfl (Decidable.byCases (fun q1 => z_tableIn (off := 33) (tgt := 64) d_Wk_ofWay_31 (by rw [q1]; decide +kernel) (by rw [q1]; decide +kernel) (by rw [q1]; decide +kernel) rfl (s_Wk_ofWay_64.go [some (.ref 11), some (.int v1), some (.int v2), some (.long v3), none, some (.int v5), some (.int s0)] [.long v3] (aw_s I L D) rfl (z_callS (av := [.long v3]) (st := []) ok_Wk_endOf (Or.inl w_960) w_961 d_Wk_ofWay_65 rfl rfl (Nat.le_of_ble_eq_true rfl) (Nat.le_refl _) (Nat.le_refl _) (aw_C.mono (h1 q1) (fun _ _ zz => aw_Z.weak (ls' := [none, none, none, none, none, none, none]) zz (Nat.le_of_ble_eq_true rfl) ⟨Or.inl rfl, ⟨Or.inl rfl, ⟨Or.inl rfl, ⟨Or.inl rfl, ⟨Or.inl rfl, ⟨Or.inl rfl, ⟨Or.inl rfl, trivial⟩⟩⟩⟩⟩⟩⟩))))) (fun q1n => (Decidable.byCases (fun q2 => z_tableIn (off := 38) (tgt := 69) d_Wk_ofWay_31 (by rw [q2]; decide +kernel) (by rw [q2]; decide +kernel) (by rw [q2]; decide +kernel) rfl (s_Wk_ofWay_69.go [some (.ref 11), some (.int v1), some (.int v2), some (.long v3), none, some (.int v5), some (.int s0)] [.int s0] (aw_s I L D) rfl (z_iret d_Wk_ofWay_71 rfl rfl (h2 q1n q2)))) (fun q2n => (Decidable.byCases (fun q3 => z_tableIn (off := 41) (tgt := 72) d_Wk_ofWay_31 (by rw [q3]; decide +kernel) (by rw [q3]; decide +kernel) (by rw [q3]; decide +kernel) rfl (s_Wk_ofWay_72.go [some (.ref 11), some (.int v1), some (.int v2), some (.long v3), none, some (.int v5), some (.int s0)] [.long v3] (aw_s I L D) rfl (z_callS (av := [.long v3]) (st := []) ok_Wk_decisionsOf (Or.inl w_934) w_935 d_Wk_ofWay_73 rfl rfl (Nat.le_of_ble_eq_true rfl) (Nat.le_refl _) (Nat.le_refl _) (aw_C.mono (h3 q1n q2n q3) (fun _ _ zz => aw_Z.weak (ls' := [none, none, none, none, none, none, none]) zz (Nat.le_of_ble_eq_true rfl) ⟨Or.inl rfl, ⟨Or.inl rfl, ⟨Or.inl rfl, ⟨Or.inl rfl, ⟨Or.inl rfl, ⟨Or.inl rfl, ⟨Or.inl rfl, trivial⟩⟩⟩⟩⟩⟩⟩))))) (fun q3n => (Decidable.byCases (fun q4 => z_tableIn (off := 46) (tgt := 77) d_Wk_ofWay_31 (by rw [q4]; decide +kernel) (by rw [q4]; decide +kernel) (by rw [q4]; decide +kernel) rfl (s_Wk_ofWay_77.go [some (.ref 11), some (.int v1), some (.int v2), some (.long v3), none, some (.int v5), some (.int s0)] [.int v1, .ref 16] (aw_s I L D) rfl (z_callS (av := [.ref 16, .int v1]) (st := []) ok_AW_valueAt_aII (Or.inr ⟨"AllWays", w_919⟩) w_814 d_Wk_ofWay_82 rfl rfl (Nat.le_of_ble_eq_true rfl) (Nat.le_refl _) (Nat.le_refl _) (aw_C.mono (h4 q1n q2n q3n q4) (fun _ _ zz => aw_Z.weak (ls' := [none, none, none, none, none, none, none]) zz (Nat.le_of_ble_eq_true rfl) ⟨Or.inl rfl, ⟨Or.inl rfl, ⟨Or.inl rfl, ⟨Or.inl rfl, ⟨Or.inl rfl, ⟨Or.inl rfl, ⟨Or.inl rfl, trivial⟩⟩⟩⟩⟩⟩⟩))))) (fun q4n => (Decidable.byCases (fun q5 => z_tableIn (off := 55) (tgt := 86) d_Wk_ofWay_31 (by rw [q5]; decide +kernel) (by rw [q5]; decide +kernel) (by rw [q5]; decide +kernel) rfl (s_Wk_ofWay_86.go [some (.ref 11), some (.int v1), some (.int v2), some (.long v3), none, some (.int v5), some (.int s0)] [.int v5] (aw_s I L D) rfl (z_iret d_Wk_ofWay_88 rfl rfl (h5 q1n q2n q3n q4n q5)))) (fun q5n => z_tableOut (tgt := 89) d_Wk_ofWay_31 (by have := aw_swout q1n (a := 0) rfl; have := aw_swout q2n (a := 1) rfl; have := aw_swout q3n (a := 2) rfl; have := aw_swout q4n (a := 3) rfl; have := aw_swout q5n (a := 4) rfl; omega) rfl (s_Wk_ofWay_89.go [some (.ref 11), some (.int v1), some (.int v2), some (.long v3), none, some (.int v5), some (.int s0)] [.int (-1 : Int32), .int s0] (aw_s I L D) rfl (z_icmp_ne (tgt := 104) d_Wk_ofWay_92 rfl (fun q6 => (s_Wk_ofWay_104.go [some (.ref 11), some (.int v1), some (.int v2), some (.long v3), none, some (.int v5), some (.int s0)] [.long v3] (aw_s I L D) rfl (z_callS (av := [.long v3]) (st := []) ok_Wk_placeOf (Or.inl w_1074) w_1075 d_Wk_ofWay_105 rfl rfl (Nat.le_of_ble_eq_true rfl) (Nat.le_refl _) (Nat.le_refl _) (aw_C.mono (h6 q1n q2n q3n q4n q5n q6) (fun _ _ zz => aw_Z.weak (ls' := [none, none, none, none, none, none, none]) zz (Nat.le_of_ble_eq_true rfl) ⟨Or.inl rfl, ⟨Or.inl rfl, ⟨Or.inl rfl, ⟨Or.inl rfl, ⟨Or.inl rfl, ⟨Or.inl rfl, ⟨Or.inl rfl, trivial⟩⟩⟩⟩⟩⟩⟩))))) (fun q7 => (s_Wk_ofWay_95.go [some (.ref 11), some (.int v1), some (.int v2), some (.long v3), none, some (.int v5), some (.int s0)] [.long v3] (aw_s I L D) rfl (z_callS (av := [.long v3]) (st := []) ok_Wk_placeOf (Or.inl w_1074) w_1075 d_Wk_ofWay_96 rfl rfl (Nat.le_of_ble_eq_true rfl) (Nat.le_refl _) (Nat.le_refl _) (aw_C.mono (h7 q1n q2n q3n q4n q5n q7) (fun _ _ zz => aw_Z.weak (ls' := [none, none, none, none, none, none, none]) zz (Nat.le_of_ble_eq_true rfl) ⟨Or.inl rfl, ⟨Or.inl rfl, ⟨Or.inl rfl, ⟨Or.inl rfl, ⟨Or.inl rfl, ⟨Or.inl rfl, ⟨Or.inl rfl, trivial⟩⟩⟩⟩⟩⟩⟩))))))))))))))))))
theorem d_Wk_ofWay_68 : decode y_Wk_ofWay.2.1 68 = .ok (.ireturn, 1) := by decide +kernel
theorem b_Wk_ofWay_68 {X : aw_X} {d : Nat} {Q : Option Value → aw_H → Prop} {I : Nat → Nat → Int32} {L : Nat → Nat → Int64} {D : Nat → Nat} {s0 : Int32}
    (h1 : Q (some (.int s0)) (aw_s I L D)) :
    aw_z X (d + 1) y_Wk_ofWay Q 68 [none, none, none, none, none, none, none] [.int s0] (aw_s I L D) :=
  (z_iret d_Wk_ofWay_68 rfl rfl (h1))
theorem d_Wk_ofWay_76 : decode y_Wk_ofWay.2.1 76 = .ok (.ireturn, 1) := by decide +kernel
theorem b_Wk_ofWay_76 {X : aw_X} {d : Nat} {Q : Option Value → aw_H → Prop} {I : Nat → Nat → Int32} {L : Nat → Nat → Int64} {D : Nat → Nat} {s0 : Int32}
    (h1 : Q (some (.int s0)) (aw_s I L D)) :
    aw_z X (d + 1) y_Wk_ofWay Q 76 [none, none, none, none, none, none, none] [.int s0] (aw_s I L D) :=
  (z_iret d_Wk_ofWay_76 rfl rfl (h1))
theorem d_Wk_ofWay_85 : decode y_Wk_ofWay.2.1 85 = .ok (.ireturn, 1) := by decide +kernel
theorem b_Wk_ofWay_85 {X : aw_X} {d : Nat} {Q : Option Value → aw_H → Prop} {I : Nat → Nat → Int32} {L : Nat → Nat → Int64} {D : Nat → Nat} {s0 : Int32}
    (h1 : Q (some (.int s0)) (aw_s I L D)) :
    aw_z X (d + 1) y_Wk_ofWay Q 85 [none, none, none, none, none, none, none] [.int s0] (aw_s I L D) :=
  (z_iret d_Wk_ofWay_85 rfl rfl (h1))
theorem d_Wk_ofWay_108 : decode y_Wk_ofWay.2.1 108 = .ok (.ireturn, 1) := by decide +kernel
theorem b_Wk_ofWay_108 {X : aw_X} {d : Nat} {Q : Option Value → aw_H → Prop} {I : Nat → Nat → Int32} {L : Nat → Nat → Int64} {D : Nat → Nat} {s0 : Int32}
    (h1 : Q (some (.int s0)) (aw_s I L D)) :
    aw_z X (d + 1) y_Wk_ofWay Q 108 [none, none, none, none, none, none, none] [.int s0] (aw_s I L D) :=
  (z_iret d_Wk_ofWay_108 rfl rfl (h1))
theorem d_Wk_ofWay_99 : decode y_Wk_ofWay.2.1 99 = .ok (.iconst 1, 1) := by decide +kernel
theorem d_Wk_ofWay_100 : decode y_Wk_ofWay.2.1 100 = .ok (.isub, 1) := by decide +kernel
theorem s_Wk_ofWay_99 : aw_VS y_Wk_ofWay 99 [o_c (.int (1 : Int32)), o_i2 (fun x z => x - z)] 101 := .cons (v_iconst (v := (1 : Int32)) d_Wk_ofWay_99 (by decide +kernel)) (.cons (v_isub d_Wk_ofWay_100) .nil)
theorem d_Wk_ofWay_101 : decode y_Wk_ofWay.2.1 101 = .ok (.goto (7), 3) := by decide +kernel
theorem b_Wk_ofWay_99 {X : aw_X} {d : Nat} {Q : Option Value → aw_H → Prop} {I : Nat → Nat → Int32} {L : Nat → Nat → Int64} {D : Nat → Nat} {s0 : Int32}
    (h1 : aw_z X (d + 1) y_Wk_ofWay Q 108 [none, none, none, none, none, none, none] [.int (s0 - (1 : Int32))] (aw_s I L D)) :
    aw_z X (d + 1) y_Wk_ofWay Q 99 [none, none, none, none, none, none, none] [.int s0] (aw_s I L D) :=
  (s_Wk_ofWay_99.go [none, none, none, none, none, none, none] [.int (s0 - (1 : Int32))] (aw_s I L D) rfl (z_goto (tgt := 108) d_Wk_ofWay_101 rfl (h1)))
/-! Wk_placeOf -/
theorem d_Wk_placeOf_0 : decode y_Wk_placeOf.2.1 0 = .ok (.lload_n 0, 1) := by decide +kernel
theorem d_Wk_placeOf_1 : decode y_Wk_placeOf.2.1 1 = .ok (.iconst 3, 1) := by decide +kernel
theorem d_Wk_placeOf_2 : decode y_Wk_placeOf.2.1 2 = .ok (.lushr, 1) := by decide +kernel
theorem d_Wk_placeOf_3 : decode y_Wk_placeOf.2.1 3 = .ok (.l2i, 1) := by decide +kernel
theorem d_Wk_placeOf_4 : decode y_Wk_placeOf.2.1 4 = .ok (.sipush 1023, 3) := by decide +kernel
theorem d_Wk_placeOf_7 : decode y_Wk_placeOf.2.1 7 = .ok (.iand, 1) := by decide +kernel
theorem s_Wk_placeOf_0 : aw_VS y_Wk_placeOf 0 [o_lld 0, o_c (.int (3 : Int32)), o_ls (fun x z => (x.toUInt64 >>> (z.toInt64.toUInt64 &&& Int64.toUInt64 63)).toInt64), o_li (fun x => x.toInt32), o_c (.int (1023 : Int32)), o_i2 (fun x z => x &&& z)] 8 := .cons (v_lload_n (i := 0) d_Wk_placeOf_0 rfl) (.cons (v_iconst (v := (3 : Int32)) d_Wk_placeOf_1 (by decide +kernel)) (.cons (v_lushr d_Wk_placeOf_2) (.cons (v_l2i d_Wk_placeOf_3) (.cons (v_sipush (v := (1023 : Int32)) d_Wk_placeOf_4 (by decide +kernel)) (.cons (v_iand d_Wk_placeOf_7) .nil)))))
theorem d_Wk_placeOf_8 : decode y_Wk_placeOf.2.1 8 = .ok (.ireturn, 1) := by decide +kernel
theorem b_Wk_placeOf_0 {X : aw_X} {d : Nat} {Q : Option Value → aw_H → Prop} {I : Nat → Nat → Int32} {L : Nat → Nat → Int64} {D : Nat → Nat} {v0 : Int64}
    (h1 : Q (some (.int ((((v0.toUInt64 >>> ((3 : Int32).toInt64.toUInt64 &&& Int64.toUInt64 63)).toInt64).toInt32) &&& (1023 : Int32)))) (aw_s I L D)) :
    aw_z X d y_Wk_placeOf Q 0 [some (.long v0), none] [] (aw_s I L D) :=
  (s_Wk_placeOf_0.go [some (.long v0), none] [.int ((((v0.toUInt64 >>> ((3 : Int32).toInt64.toUInt64 &&& Int64.toUInt64 63)).toInt64).toInt32) &&& (1023 : Int32))] (aw_s I L D) rfl (z_iret d_Wk_placeOf_8 rfl rfl (h1)))
