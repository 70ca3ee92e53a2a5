/-! by gen_blk.py (genall.py) -/
/-! AW_feed -/
theorem d_AW_feed_0 : decode y_AW_feed.2.1 0 = .ok (.aload_n 0, 1) := by decide +kernel
theorem d_AW_feed_1 : decode y_AW_feed.2.1 1 = .ok (.getfield 19, 3) := by decide +kernel
theorem d_AW_feed_4 : decode y_AW_feed.2.1 4 = .ok (.bipush 20, 2) := by decide +kernel
theorem s_AW_feed_0 : aw_VS y_AW_feed 0 [o_ald 0, o_getA 0 1, o_c (.int (20 : Int32))] 6 := .cons (v_aload_n (i := 0) d_AW_feed_0 rfl) (.cons (v_getA (k := 1) k_AW (by decide) rfl (Or.inl w_491) d_AW_feed_1) (.cons (v_bipush (v := (20 : Int32)) d_AW_feed_4 (by decide +kernel)) .nil))
theorem d_AW_feed_6 : decode y_AW_feed.2.1 6 = .ok (.invokevirtual 88, 3) := by decide +kernel
theorem b_AW_feed_0 {X : aw_X} {d : Nat} {Q : Option Value → aw_H → Prop} {I : Nat → Nat → Int32} {L : Nat → Nat → Int64} {D : Nat → Nat} {v1 : Int32} {v2 : Int32} {v3 : Int32} {v4 : Int32} {v5 : Int32}
    (h1 : aw_m X d y_Tp_hasRoomFor [.ref 2, .int (20 : Int32)] (aw_s I L D) (fun r A => aw_z X (d + 1) y_AW_feed Q 9 [some (.ref 0), some (.int v1), some (.int v2), some (.int v3), some (.int v4), some (.int v5)] (r.toList ++ []) A)) :
    aw_z X (d + 1) y_AW_feed Q 0 [some (.ref 0), some (.int v1), some (.int v2), some (.int v3), some (.int v4), some (.int v5)] [] (aw_s I L D) :=
  (s_AW_feed_0.go [some (.ref 0), some (.int v1), some (.int v2), some (.int v3), some (.int v4), some (.int v5)] [.int (20 : Int32), .ref 2] (aw_s I L D) rfl (z_callV (av := [.int (20 : Int32)]) (st := []) ok_Tp_hasRoomFor (Or.inl w_549) w_550 w_551 k_Tp d_AW_feed_6 rfl (aw_lt (o := 2) rfl) rfl rfl (Nat.le_of_ble_eq_true rfl) (Nat.le_refl _) (Nat.le_refl _) (h1)))
theorem d_AW_feed_9 : decode y_AW_feed.2.1 9 = .ok (.ifCond .ne (5), 3) := by decide +kernel
theorem d_AW_feed_14 : decode y_AW_feed.2.1 14 = .ok (.aload_n 0, 1) := by decide +kernel
theorem d_AW_feed_15 : decode y_AW_feed.2.1 15 = .ok (.getfield 19, 3) := by decide +kernel
theorem d_AW_feed_18 : decode y_AW_feed.2.1 18 = .ok (.iload_n 1, 1) := by decide +kernel
theorem s_AW_feed_14 : aw_VS y_AW_feed 14 [o_ald 0, o_getA 0 1, o_ild 1] 19 := .cons (v_aload_n (i := 0) d_AW_feed_14 rfl) (.cons (v_getA (k := 1) k_AW (by decide) rfl (Or.inl w_491) d_AW_feed_15) (.cons (v_iload_n (i := 1) d_AW_feed_18 rfl) .nil))
theorem d_AW_feed_19 : decode y_AW_feed.2.1 19 = .ok (.invokevirtual 92, 3) := by decide +kernel
theorem d_AW_feed_12 : decode y_AW_feed.2.1 12 = .ok (.iconst (-1), 1) := by decide +kernel
theorem s_AW_feed_12 : aw_VS y_AW_feed 12 [o_c (.int (-1 : Int32))] 13 := .cons (v_iconst (v := (-1 : Int32)) d_AW_feed_12 (by decide +kernel)) .nil
theorem d_AW_feed_13 : decode y_AW_feed.2.1 13 = .ok (.ireturn, 1) := by decide +kernel
theorem b_AW_feed_9 {X : aw_X} {d : Nat} {Q : Option Value → aw_H → Prop} {I : Nat → Nat → Int32} {L : Nat → Nat → Int64} {D : Nat → Nat} {v1 : Int32} {v2 : Int32} {v3 : Int32} {v4 : Int32} {v5 : Int32} {s0 : Int32}
    (h1 : ¬ s0 = 0 → aw_m X d y_Tp_append [.ref 2, .int v1] (aw_s I L D) (fun r A => aw_z X (d + 1) y_AW_feed Q 22 [some (.ref 0), none, some (.int v2), some (.int v3), some (.int v4), some (.int v5)] (r.toList ++ []) A))
    (h2 : s0 = 0 → Q (some (.int (-1 : Int32))) (aw_s I L D)) :
    aw_z X (d + 1) y_AW_feed Q 9 [some (.ref 0), some (.int v1), some (.int v2), some (.int v3), some (.int v4), some (.int v5)] [.int s0] (aw_s I L D) :=
  (z_if_ne (tgt := 14) d_AW_feed_9 rfl (fun q1 => (s_AW_feed_14.go [some (.ref 0), some (.int v1), some (.int v2), some (.int v3), some (.int v4), some (.int v5)] [.int v1, .ref 2] (aw_s I L D) rfl (z_callV (av := [.int v1]) (st := []) ok_Tp_append (Or.inl w_553) w_554 w_555 k_Tp d_AW_feed_19 rfl (aw_lt (o := 2) rfl) rfl rfl (Nat.le_of_ble_eq_true rfl) (Nat.le_refl _) (Nat.le_refl _) (aw_C.mono (h1 q1) (fun _ _ zz => aw_Z.weak (ls' := [some (.ref 0), none, some (.int v2), some (.int v3), some (.int v4), some (.int v5)]) zz (Nat.le_of_ble_eq_true rfl) ⟨Or.inr rfl, ⟨Or.inl rfl, ⟨Or.inr rfl, ⟨Or.inr rfl, ⟨Or.inr rfl, ⟨Or.inr rfl, trivial⟩⟩⟩⟩⟩⟩))))) (fun q2 => (s_AW_feed_12.go [some (.ref 0), some (.int v1), some (.int v2), some (.int v3), some (.int v4), some (.int v5)] [.int (-1 : Int32)] (aw_s I L D) rfl (z_iret d_AW_feed_13 rfl rfl (h2 q2)))))
theorem d_AW_feed_22 : decode y_AW_feed.2.1 22 = .ok (.aload_n 0, 1) := by decide +kernel
theorem d_AW_feed_23 : decode y_AW_feed.2.1 23 = .ok (.getfield 19, 3) := by decide +kernel
theorem d_AW_feed_26 : decode y_AW_feed.2.1 26 = .ok (.iload_n 2, 1) := by decide +kernel
theorem s_AW_feed_22 : aw_VS y_AW_feed 22 [o_ald 0, o_getA 0 1, o_ild 2] 27 := .cons (v_aload_n (i := 0) d_AW_feed_22 rfl) (.cons (v_getA (k := 1) k_AW (by decide) rfl (Or.inl w_491) d_AW_feed_23) (.cons (v_iload_n (i := 2) d_AW_feed_26 rfl) .nil))
theorem d_AW_feed_27 : decode y_AW_feed.2.1 27 = .ok (.invokevirtual 92, 3) := by decide +kernel
theorem b_AW_feed_22 {X : aw_X} {d : Nat} {Q : Option Value → aw_H → Prop} {I : Nat → Nat → Int32} {L : Nat → Nat → Int64} {D : Nat → Nat} {v2 : Int32} {v3 : Int32} {v4 : Int32} {v5 : Int32}
    (h1 : aw_m X d y_Tp_append [.ref 2, .int v2] (aw_s I L D) (fun r A => aw_z X (d + 1) y_AW_feed Q 30 [some (.ref 0), none, none, some (.int v3), some (.int v4), some (.int v5)] (r.toList ++ []) A)) :
    aw_z X (d + 1) y_AW_feed Q 22 [some (.ref 0), none, some (.int v2), some (.int v3), some (.int v4), some (.int v5)] [] (aw_s I L D) :=
  (s_AW_feed_22.go [some (.ref 0), none, some (.int v2), some (.int v3), some (.int v4), some (.int v5)] [.int v2, .ref 2] (aw_s I L D) rfl (z_callV (av := [.int v2]) (st := []) ok_Tp_append (Or.inl w_553) w_554 w_555 k_Tp d_AW_feed_27 rfl (aw_lt (o := 2) rfl) rfl rfl (Nat.le_of_ble_eq_true rfl) (Nat.le_refl _) (Nat.le_refl _) (aw_C.mono (h1) (fun _ _ zz => aw_Z.weak (ls' := [some (.ref 0), none, none, some (.int v3), some (.int v4), some (.int v5)]) zz (Nat.le_of_ble_eq_true rfl) ⟨Or.inr rfl, ⟨Or.inl rfl, ⟨Or.inl rfl, ⟨Or.inr rfl, ⟨Or.inr rfl, ⟨Or.inr rfl, trivial⟩⟩⟩⟩⟩⟩))))
theorem d_AW_feed_30 : decode y_AW_feed.2.1 30 = .ok (.aload_n 0, 1) := by decide +kernel
theorem d_AW_feed_31 : decode y_AW_feed.2.1 31 = .ok (.getfield 19, 3) := by decide +kernel
theorem d_AW_feed_34 : decode y_AW_feed.2.1 34 = .ok (.iload_n 3, 1) := by decide +kernel
theorem s_AW_feed_30 : aw_VS y_AW_feed 30 [o_ald 0, o_getA 0 1, o_ild 3] 35 := .cons (v_aload_n (i := 0) d_AW_feed_30 rfl) (.cons (v_getA (k := 1) k_AW (by decide) rfl (Or.inl w_491) d_AW_feed_31) (.cons (v_iload_n (i := 3) d_AW_feed_34 rfl) .nil))
theorem d_AW_feed_35 : decode y_AW_feed.2.1 35 = .ok (.invokevirtual 92, 3) := by decide +kernel
theorem b_AW_feed_30 {X : aw_X} {d : Nat} {Q : Option Value → aw_H → Prop} {I : Nat → Nat → Int32} {L : Nat → Nat → Int64} {D : Nat → Nat} {v3 : Int32} {v4 : Int32} {v5 : Int32}
    (h1 : aw_m X d y_Tp_append [.ref 2, .int v3] (aw_s I L D) (fun r A => aw_z X (d + 1) y_AW_feed Q 38 [some (.ref 0), none, none, none, some (.int v4), some (.int v5)] (r.toList ++ []) A)) :
    aw_z X (d + 1) y_AW_feed Q 30 [some (.ref 0), none, none, some (.int v3), some (.int v4), some (.int v5)] [] (aw_s I L D) :=
  (s_AW_feed_30.go [some (.ref 0), none, none, some (.int v3), some (.int v4), some (.int v5)] [.int v3, .ref 2] (aw_s I L D) rfl (z_callV (av := [.int v3]) (st := []) ok_Tp_append (Or.inl w_553) w_554 w_555 k_Tp d_AW_feed_35 rfl (aw_lt (o := 2) rfl) rfl rfl (Nat.le_of_ble_eq_true rfl) (Nat.le_refl _) (Nat.le_refl _) (aw_C.mono (h1) (fun _ _ zz => aw_Z.weak (ls' := [some (.ref 0), none, none, none, some (.int v4), some (.int v5)]) zz (Nat.le_of_ble_eq_true rfl) ⟨Or.inr rfl, ⟨Or.inl rfl, ⟨Or.inl rfl, ⟨Or.inl rfl, ⟨Or.inr rfl, ⟨Or.inr rfl, trivial⟩⟩⟩⟩⟩⟩))))
theorem d_AW_feed_38 : decode y_AW_feed.2.1 38 = .ok (.aload_n 0, 1) := by decide +kernel
theorem d_AW_feed_39 : decode y_AW_feed.2.1 39 = .ok (.getfield 19, 3) := by decide +kernel
theorem d_AW_feed_42 : decode y_AW_feed.2.1 42 = .ok (.iload 4, 2) := by decide +kernel
theorem s_AW_feed_38 : aw_VS y_AW_feed 38 [o_ald 0, o_getA 0 1, o_ild 4] 44 := .cons (v_aload_n (i := 0) d_AW_feed_38 rfl) (.cons (v_getA (k := 1) k_AW (by decide) rfl (Or.inl w_491) d_AW_feed_39) (.cons (v_iload (i := 4) d_AW_feed_42) .nil))
theorem d_AW_feed_44 : decode y_AW_feed.2.1 44 = .ok (.invokevirtual 92, 3) := by decide +kernel
theorem b_AW_feed_38 {X : aw_X} {d : Nat} {Q : Option Value → aw_H → Prop} {I : Nat → Nat → Int32} {L : Nat → Nat → Int64} {D : Nat → Nat} {v4 : Int32} {v5 : Int32}
    (h1 : aw_m X d y_Tp_append [.ref 2, .int v4] (aw_s I L D) (fun r A => aw_z X (d + 1) y_AW_feed Q 47 [some (.ref 0), none, none, none, none, some (.int v5)] (r.toList ++ []) A)) :
    aw_z X (d + 1) y_AW_feed Q 38 [some (.ref 0), none, none, none, some (.int v4), some (.int v5)] [] (aw_s I L D) :=
  (s_AW_feed_38.go [some (.ref 0), none, none, none, some (.int v4), some (.int v5)] [.int v4, .ref 2] (aw_s I L D) rfl (z_callV (av := [.int v4]) (st := []) ok_Tp_append (Or.inl w_553) w_554 w_555 k_Tp d_AW_feed_44 rfl (aw_lt (o := 2) rfl) rfl rfl (Nat.le_of_ble_eq_true rfl) (Nat.le_refl _) (Nat.le_refl _) (aw_C.mono (h1) (fun _ _ zz => aw_Z.weak (ls' := [some (.ref 0), none, none, none, none, some (.int v5)]) zz (Nat.le_of_ble_eq_true rfl) ⟨Or.inr rfl, ⟨Or.inl rfl, ⟨Or.inl rfl, ⟨Or.inl rfl, ⟨Or.inl rfl, ⟨Or.inr rfl, trivial⟩⟩⟩⟩⟩⟩))))
theorem d_AW_feed_47 : decode y_AW_feed.2.1 47 = .ok (.aload_n 0, 1) := by decide +kernel
theorem d_AW_feed_48 : decode y_AW_feed.2.1 48 = .ok (.getfield 19, 3) := by decide +kernel
theorem d_AW_feed_51 : decode y_AW_feed.2.1 51 = .ok (.iload 5, 2) := by decide +kernel
theorem s_AW_feed_47 : aw_VS y_AW_feed 47 [o_ald 0, o_getA 0 1, o_ild 5] 53 := .cons (v_aload_n (i := 0) d_AW_feed_47 rfl) (.cons (v_getA (k := 1) k_AW (by decide) rfl (Or.inl w_491) d_AW_feed_48) (.cons (v_iload (i := 5) d_AW_feed_51) .nil))
theorem d_AW_feed_53 : decode y_AW_feed.2.1 53 = .ok (.invokevirtual 92, 3) := by decide +kernel
theorem b_AW_feed_47 {X : aw_X} {d : Nat} {Q : Option Value → aw_H → Prop} {I : Nat → Nat → Int32} {L : Nat → Nat → Int64} {D : Nat → Nat} {v5 : Int32}
    (h1 : aw_m X d y_Tp_append [.ref 2, .int v5] (aw_s I L D) (fun r A => aw_z X (d + 1) y_AW_feed Q 56 [some (.ref 0), none, none, none, none, none] (r.toList ++ []) A)) :
    aw_z X (d + 1) y_AW_feed Q 47 [some (.ref 0), none, none, none, none, some (.int v5)] [] (aw_s I L D) :=
  (s_AW_feed_47.go [some (.ref 0), none, none, none, none, some (.int v5)] [.int v5, .ref 2] (aw_s I L D) rfl (z_callV (av := [.int v5]) (st := []) ok_Tp_append (Or.inl w_553) w_554 w_555 k_Tp d_AW_feed_53 rfl (aw_lt (o := 2) rfl) rfl rfl (Nat.le_of_ble_eq_true rfl) (Nat.le_refl _) (Nat.le_refl _) (aw_C.mono (h1) (fun _ _ zz => aw_Z.weak (ls' := [some (.ref 0), none, none, none, none, none]) zz (Nat.le_of_ble_eq_true rfl) ⟨Or.inr rfl, ⟨Or.inl rfl, ⟨Or.inl rfl, ⟨Or.inl rfl, ⟨Or.inl rfl, ⟨Or.inl rfl, trivial⟩⟩⟩⟩⟩⟩))))
theorem d_AW_feed_56 : decode y_AW_feed.2.1 56 = .ok (.aload_n 0, 1) := by decide +kernel
theorem d_AW_feed_57 : decode y_AW_feed.2.1 57 = .ok (.getfield 19, 3) := by decide +kernel
theorem d_AW_feed_60 : decode y_AW_feed.2.1 60 = .ok (.getfield 96, 3) := by decide +kernel
theorem s_AW_feed_56 : aw_VS y_AW_feed 56 [o_ald 0, o_getA 0 1, o_getI 2 1] 63 := .cons (v_aload_n (i := 0) d_AW_feed_56 rfl) (.cons (v_getA (k := 1) k_AW (by decide) rfl (Or.inl w_491) d_AW_feed_57) (.cons (v_getI (k := 1) k_Tp (by decide) (Or.inl rfl) (Or.inr ⟨"AllWays", w_193⟩) d_AW_feed_60) .nil))
theorem d_AW_feed_63 : decode y_AW_feed.2.1 63 = .ok (.ireturn, 1) := by decide +kernel
theorem b_AW_feed_56 {X : aw_X} {d : Nat} {Q : Option Value → aw_H → Prop} {I : Nat → Nat → Int32} {L : Nat → Nat → Int64} {D : Nat → Nat} 
    (h1 : Q (some (.int (I 2 1))) (aw_s I L D)) :
    aw_z X (d + 1) y_AW_feed Q 56 [some (.ref 0), none, none, none, none, none] [] (aw_s I L D) :=
  (s_AW_feed_56.go [some (.ref 0), none, none, none, none, none] [.int (I 2 1)] (aw_s I L D) rfl (z_iret d_AW_feed_63 rfl rfl (h1)))
/-! AW_end -/
theorem d_AW_end_0 : decode y_AW_end.2.1 0 = .ok (.aload_n 0, 1) := by decide +kernel
theorem d_AW_end_1 : decode y_AW_end.2.1 1 = .ok (.getfield 19, 3) := by decide +kernel
theorem d_AW_end_4 : decode y_AW_end.2.1 4 = .ok (.iload_n 1, 1) := by decide +kernel
theorem s_AW_end_0 : aw_VS y_AW_end 0 [o_ald 0, o_getA 0 1, o_ild 1] 5 := .cons (v_aload_n (i := 0) d_AW_end_0 rfl) (.cons (v_getA (k := 1) k_AW (by decide) rfl (Or.inl w_491) d_AW_end_1) (.cons (v_iload_n (i := 1) d_AW_end_4 rfl) .nil))
theorem d_AW_end_5 : decode y_AW_end.2.1 5 = .ok (.invokevirtual 99, 3) := by decide +kernel
theorem b_AW_end_0 {X : aw_X} {d : Nat} {Q : Option Value → aw_H → Prop} {I : Nat → Nat → Int32} {L : Nat → Nat → Int64} {D : Nat → Nat} {v1 : Int32}
    (h1 : aw_m X d y_Tp_cut [.ref 2, .int v1] (aw_s I L D) (fun r A => aw_z X (d + 1) y_AW_end Q 8 [none, none] (r.toList ++ []) A)) :
    aw_z X (d + 1) y_AW_end Q 0 [some (.ref 0), some (.int v1)] [] (aw_s I L D) :=
  (s_AW_end_0.go [some (.ref 0), some (.int v1)] [.int v1, .ref 2] (aw_s I L D) rfl (z_callV (av := [.int v1]) (st := []) ok_Tp_cut (Or.inl w_561) w_562 w_563 k_Tp d_AW_end_5 rfl (aw_lt (o := 2) rfl) rfl rfl (Nat.le_of_ble_eq_true rfl) (Nat.le_refl _) (Nat.le_refl _) (aw_C.mono (h1) (fun _ _ zz => aw_Z.weak (ls' := [none, none]) zz (Nat.le_of_ble_eq_true rfl) ⟨Or.inl rfl, ⟨Or.inl rfl, trivial⟩⟩))))
theorem d_AW_end_8 : decode y_AW_end.2.1 8 = .ok (.ireturn, 1) := by decide +kernel
theorem b_AW_end_8 {X : aw_X} {d : Nat} {Q : Option Value → aw_H → Prop} {I : Nat → Nat → Int32} {L : Nat → Nat → Int64} {D : Nat → Nat} {s0 : Int32}
    (h1 : (s0 = 0 ∨ s0 = 1))
    (h2 : Q (some (.int s0)) (aw_s I L D)) :
    aw_z X (d + 1) y_AW_end Q 8 [none, none] [.int s0] (aw_s I L D) :=
  (z_iret d_AW_end_8 rfl (aw_nz (h1)) (h2))
/-! AW_program -/
theorem d_AW_program_0 : decode y_AW_program.2.1 0 = .ok (.aload_n 0, 1) := by decide +kernel
theorem d_AW_program_1 : decode y_AW_program.2.1 1 = .ok (.iload_n 1, 1) := by decide +kernel
theorem s_AW_program_0 : aw_VS y_AW_program 0 [o_ald 0, o_ild 1] 2 := .cons (v_aload_n (i := 0) d_AW_program_0 rfl) (.cons (v_iload_n (i := 1) d_AW_program_1 rfl) .nil)
theorem d_AW_program_2 : decode y_AW_program.2.1 2 = .ok (.invokevirtual 102, 3) := by decide +kernel
theorem b_AW_program_0 {X : aw_X} {d : Nat} {Q : Option Value → aw_H → Prop} {I : Nat → Nat → Int32} {L : Nat → Nat → Int64} {D : Nat → Nat} {v1 : Int32}
    (h1 : aw_m X d y_AW_programAt [.ref 0, .int v1] (aw_s I L D) (fun r A => aw_z X (d + 1) y_AW_program Q 5 [some (.ref 0), some (.int v1), none, none, none] (r.toList ++ []) A)) :
    aw_z X (d + 1) y_AW_program Q 0 [some (.ref 0), some (.int v1), none, none, none] [] (aw_s I L D) :=
  (s_AW_program_0.go [some (.ref 0), some (.int v1), none, none, none] [.int v1, .ref 0] (aw_s I L D) rfl (z_callV (av := [.int v1]) (st := []) ok_AW_programAt (Or.inl w_569) w_571 w_0 k_AW d_AW_program_2 rfl (aw_lt (o := 0) rfl) rfl rfl (Nat.le_of_ble_eq_true rfl) (Nat.le_refl _) (Nat.le_refl _) (h1)))
theorem d_AW_program_5 : decode y_AW_program.2.1 5 = .ok (.astore_n 2, 1) := by decide +kernel
theorem d_AW_program_6 : decode y_AW_program.2.1 6 = .ok (.aload_n 2, 1) := by decide +kernel
theorem s_AW_program_5 : aw_VS y_AW_program 5 [o_ast 2, o_ald 2] 7 := .cons (v_astore_n d_AW_program_5) (.cons (v_aload_n (i := 2) d_AW_program_6 rfl) .nil)
theorem d_AW_program_7 : decode y_AW_program.2.1 7 = .ok (.ifnonnull (16), 3) := by decide +kernel
theorem d_AW_program_23 : decode y_AW_program.2.1 23 = .ok (.aload_n 0, 1) := by decide +kernel
theorem s_AW_program_23 : aw_VS y_AW_program 23 [o_ald 0] 24 := .cons (v_aload_n (i := 0) d_AW_program_23 rfl) .nil
theorem d_AW_program_24 : decode y_AW_program.2.1 24 = .ok (.getfield 59, 3) := by decide +kernel
theorem d_AW_program_27 : decode y_AW_program.2.1 27 = .ok (.astore_n 3, 1) := by decide +kernel
theorem d_AW_program_28 : decode y_AW_program.2.1 28 = .ok (.aload_n 0, 1) := by decide +kernel
theorem d_AW_program_29 : decode y_AW_program.2.1 29 = .ok (.getfield 67, 3) := by decide +kernel
theorem d_AW_program_32 : decode y_AW_program.2.1 32 = .ok (.aload_n 3, 1) := by decide +kernel
theorem s_AW_program_27 : aw_VS y_AW_program 27 [o_ast 3, o_ald 0, o_getA 0 8, o_ald 3] 33 := .cons (v_astore_n d_AW_program_27) (.cons (v_aload_n (i := 0) d_AW_program_28 rfl) (.cons (v_getA (k := 8) k_AW (by decide) rfl (Or.inl w_498) d_AW_program_29) (.cons (v_aload_n (i := 3) d_AW_program_32 rfl) .nil)))
theorem d_AW_program_33 : decode y_AW_program.2.1 33 = .ok (.invokevirtual 106, 3) := by decide +kernel
theorem b_AW_program_5 {X : aw_X} {d : Nat} {Q : Option Value → aw_H → Prop} {I : Nat → Nat → Int32} {L : Nat → Nat → Int64} {D : Nat → Nat} {v1 : Int32} {t0 : Nat} {e5 : Nat} (hD5 : D 5 = e5)
    (h1 : aw_m X d y_Ps_restart [.ref 60, .ref e5] (aw_s I L D) (fun r A => aw_z X (d + 1) y_AW_program Q 36 [some (.ref 0), some (.int v1), some (.ref t0), some (.ref e5), none] (r.toList ++ []) A)) :
    aw_z X (d + 1) y_AW_program Q 5 [some (.ref 0), some (.int v1), none, none, none] [.ref t0] (aw_s I L D) :=
  (s_AW_program_5.go [some (.ref 0), some (.int v1), some (.ref t0), none, none] [.ref t0] (aw_s I L D) rfl (z_ifnonnull (tgt := 23) d_AW_program_7 rfl (s_AW_program_23.go [some (.ref 0), some (.int v1), some (.ref t0), none, none] [.ref 0] (aw_s I L D) rfl (z_gD5 hD5 (Or.inl w_497) d_AW_program_24 (s_AW_program_27.go [some (.ref 0), some (.int v1), some (.ref t0), some (.ref e5), none] [.ref e5, .ref 60] (aw_s I L D) rfl (z_callV (av := [.ref e5]) (st := []) ok_Ps_restart (Or.inl w_573) w_574 w_575 k_Ps d_AW_program_33 rfl (aw_lt (o := 60) rfl) rfl rfl (Nat.le_of_ble_eq_true rfl) (Nat.le_refl _) (Nat.le_refl _) (h1)))))))
theorem d_AW_program_10 : decode y_AW_program.2.1 10 = .ok (.aload_n 0, 1) := by decide +kernel
theorem d_AW_program_11 : decode y_AW_program.2.1 11 = .ok (.getfield 19, 3) := by decide +kernel
theorem d_AW_program_14 : decode y_AW_program.2.1 14 = .ok (.iconst 0, 1) := by decide +kernel
theorem s_AW_program_10 : aw_VS y_AW_program 10 [o_ald 0, o_getA 0 1, o_c (.int (0 : Int32))] 15 := .cons (v_aload_n (i := 0) d_AW_program_10 rfl) (.cons (v_getA (k := 1) k_AW (by decide) rfl (Or.inl w_491) d_AW_program_11) (.cons (v_iconst (v := (0 : Int32)) d_AW_program_14 (by decide +kernel)) .nil))
theorem d_AW_program_15 : decode y_AW_program.2.1 15 = .ok (.invokevirtual 99, 3) := by decide +kernel
theorem b_AW_program_5a {X : aw_X} {d : Nat} {Q : Option Value → aw_H → Prop} {I : Nat → Nat → Int32} {L : Nat → Nat → Int64} {D : Nat → Nat} {v1 : Int32}
    (h1 : aw_m X d y_Tp_cut [.ref 2, .int (0 : Int32)] (aw_s I L D) (fun r A => aw_z X (d + 1) y_AW_program Q 18 [none, none, none, none, none] (r.toList ++ []) A)) :
    aw_z X (d + 1) y_AW_program Q 5 [some (.ref 0), some (.int v1), none, none, none] [.null] (aw_s I L D) :=
  (s_AW_program_5.go [some (.ref 0), some (.int v1), some .null, none, none] [.null] (aw_s I L D) rfl (z_ifnonnullN d_AW_program_7 (s_AW_program_10.go [some (.ref 0), some (.int v1), some .null, none, none] [.int (0 : Int32), .ref 2] (aw_s I L D) rfl (z_callV (av := [.int (0 : Int32)]) (st := []) ok_Tp_cut (Or.inl w_561) w_562 w_563 k_Tp d_AW_program_15 rfl (aw_lt (o := 2) rfl) rfl rfl (Nat.le_of_ble_eq_true rfl) (Nat.le_refl _) (Nat.le_refl _) (aw_C.mono (h1) (fun _ _ zz => aw_Z.weak (ls' := [none, none, none, none, none]) zz (Nat.le_of_ble_eq_true rfl) ⟨Or.inl rfl, ⟨Or.inl rfl, ⟨Or.inl rfl, ⟨Or.inl rfl, ⟨Or.inl rfl, trivial⟩⟩⟩⟩⟩))))))
theorem d_AW_program_36 : decode y_AW_program.2.1 36 = .ok (.aload_n 0, 1) := by decide +kernel
theorem d_AW_program_37 : decode y_AW_program.2.1 37 = .ok (.getfield 67, 3) := by decide +kernel
theorem s_AW_program_36 : aw_VS y_AW_program 36 [o_ald 0, o_getA 0 8] 40 := .cons (v_aload_n (i := 0) d_AW_program_36 rfl) (.cons (v_getA (k := 8) k_AW (by decide) rfl (Or.inl w_498) d_AW_program_37) .nil)
theorem d_AW_program_40 : decode y_AW_program.2.1 40 = .ok (.invokevirtual 110, 3) := by decide +kernel
theorem b_AW_program_36 {X : aw_X} {d : Nat} {Q : Option Value → aw_H → Prop} {I : Nat → Nat → Int32} {L : Nat → Nat → Int64} {D : Nat → Nat} {v1 : Int32} {c2 : Nat} {c3 : Nat}
    (h1 : aw_m X d y_Ps_readProcs [.ref 60] (aw_s I L D) (fun r A => aw_z X (d + 1) y_AW_program Q 43 [some (.ref 0), some (.int v1), some (.ref c2), some (.ref c3), none] (r.toList ++ []) A)) :
    aw_z X (d + 1) y_AW_program Q 36 [some (.ref 0), some (.int v1), some (.ref c2), some (.ref c3), none] [] (aw_s I L D) :=
  (s_AW_program_36.go [some (.ref 0), some (.int v1), some (.ref c2), some (.ref c3), none] [.ref 60] (aw_s I L D) rfl (z_callV (av := []) (st := []) ok_Ps_readProcs (Or.inl w_746) w_747 w_748 k_Ps d_AW_program_40 rfl (aw_lt (o := 60) rfl) rfl rfl (Nat.le_of_ble_eq_true rfl) (Nat.le_refl _) (Nat.le_refl _) (h1)))
theorem d_AW_program_18 : decode y_AW_program.2.1 18 = .ok (.pop, 1) := by decide +kernel
theorem d_AW_program_19 : decode y_AW_program.2.1 19 = .ok (.sipush (-1000), 3) := by decide +kernel
theorem s_AW_program_18 : aw_VS y_AW_program 18 [o_pop, o_c (.int (-1000 : Int32))] 22 := .cons (v_pop d_AW_program_18) (.cons (v_sipush (v := (-1000 : Int32)) d_AW_program_19 (by decide +kernel)) .nil)
theorem d_AW_program_22 : decode y_AW_program.2.1 22 = .ok (.ireturn, 1) := by decide +kernel
theorem b_AW_program_18 {X : aw_X} {d : Nat} {Q : Option Value → aw_H → Prop} {I : Nat → Nat → Int32} {L : Nat → Nat → Int64} {D : Nat → Nat} {s0 : Int32}
    (h1 : Q (some (.int (-1000 : Int32))) (aw_s I L D)) :
    aw_z X (d + 1) y_AW_program Q 18 [none, none, none, none, none] [.int s0] (aw_s I L D) :=
  (s_AW_program_18.go [none, none, none, none, none] [.int (-1000 : Int32)] (aw_s I L D) rfl (z_iret d_AW_program_22 rfl rfl (h1)))
theorem d_AW_program_43 : decode y_AW_program.2.1 43 = .ok (.ifCond .eq (17), 3) := by decide +kernel
theorem d_AW_program_46 : decode y_AW_program.2.1 46 = .ok (.aload_n 0, 1) := by decide +kernel
theorem d_AW_program_47 : decode y_AW_program.2.1 47 = .ok (.getfield 67, 3) := by decide +kernel
theorem s_AW_program_46 : aw_VS y_AW_program 46 [o_ald 0, o_getA 0 8] 50 := .cons (v_aload_n (i := 0) d_AW_program_46 rfl) (.cons (v_getA (k := 8) k_AW (by decide) rfl (Or.inl w_498) d_AW_program_47) .nil)
theorem d_AW_program_50 : decode y_AW_program.2.1 50 = .ok (.invokevirtual 114, 3) := by decide +kernel
theorem b_AW_program_43 {X : aw_X} {d : Nat} {Q : Option Value → aw_H → Prop} {I : Nat → Nat → Int32} {L : Nat → Nat → Int64} {D : Nat → Nat} {v1 : Int32} {c2 : Nat} {c3 : Nat} {s0 : Int32}
    (h1 : s0 = 0 → aw_z X (d + 1) y_AW_program Q 60 [some (.ref 0), some (.int v1), some (.ref c2), some (.ref c3), none] [] (aw_s I L D))
    (h2 : ¬ s0 = 0 → aw_m X d y_Ps_readSteps [.ref 60] (aw_s I L D) (fun r A => aw_z X (d + 1) y_AW_program Q 53 [some (.ref 0), some (.int v1), some (.ref c2), some (.ref c3), none] (r.toList ++ []) A)) :
    aw_z X (d + 1) y_AW_program Q 43 [some (.ref 0), some (.int v1), some (.ref c2), some (.ref c3), none] [.int s0] (aw_s I L D) :=
  (z_if_eq (tgt := 60) d_AW_program_43 rfl (fun q1 => (h1 q1)) (fun q2 => (s_AW_program_46.go [some (.ref 0), some (.int v1), some (.ref c2), some (.ref c3), none] [.ref 60] (aw_s I L D) rfl (z_callV (av := []) (st := []) ok_Ps_readSteps (Or.inl w_845) w_846 w_847 k_Ps d_AW_program_50 rfl (aw_lt (o := 60) rfl) rfl rfl (Nat.le_of_ble_eq_true rfl) (Nat.le_refl _) (Nat.le_refl _) (h2 q2)))))
theorem d_AW_program_60 : decode y_AW_program.2.1 60 = .ok (.iconst 0, 1) := by decide +kernel
theorem s_AW_program_60 : aw_VS y_AW_program 60 [o_c (.int (0 : Int32))] 61 := .cons (v_iconst (v := (0 : Int32)) d_AW_program_60 (by decide +kernel)) .nil
theorem b_AW_program_60 {X : aw_X} {d : Nat} {Q : Option Value → aw_H → Prop} {I : Nat → Nat → Int32} {L : Nat → Nat → Int64} {D : Nat → Nat} {v1 : Int32} {c2 : Nat} {c3 : Nat}
    (h1 : aw_z X (d + 1) y_AW_program Q 61 [some (.ref 0), some (.int v1), some (.ref c2), some (.ref c3), none] [.int (0 : Int32)] (aw_s I L D)) :
    aw_z X (d + 1) y_AW_program Q 60 [some (.ref 0), some (.int v1), some (.ref c2), some (.ref c3), none] [] (aw_s I L D) :=
  (s_AW_program_60.go [some (.ref 0), some (.int v1), some (.ref c2), some (.ref c3), none] [.int (0 : Int32)] (aw_s I L D) rfl (h1))
theorem d_AW_program_53 : decode y_AW_program.2.1 53 = .ok (.ifCond .eq (7), 3) := by decide +kernel
theorem d_AW_program_56 : decode y_AW_program.2.1 56 = .ok (.iconst 1, 1) := by decide +kernel
theorem s_AW_program_56 : aw_VS y_AW_program 56 [o_c (.int (1 : Int32))] 57 := .cons (v_iconst (v := (1 : Int32)) d_AW_program_56 (by decide +kernel)) .nil
theorem d_AW_program_57 : decode y_AW_program.2.1 57 = .ok (.goto (4), 3) := by decide +kernel
theorem b_AW_program_53 {X : aw_X} {d : Nat} {Q : Option Value → aw_H → Prop} {I : Nat → Nat → Int32} {L : Nat → Nat → Int64} {D : Nat → Nat} {v1 : Int32} {c2 : Nat} {c3 : Nat} {s0 : Int32}
    (h1 : s0 = 0 → aw_z X (d + 1) y_AW_program Q 60 [some (.ref 0), some (.int v1), some (.ref c2), some (.ref c3), none] [] (aw_s I L D))
    (h2 : ¬ s0 = 0 → aw_z X (d + 1) y_AW_program Q 61 [some (.ref 0), some (.int v1), some (.ref c2), some (.ref c3), none] [.int (1 : Int32)] (aw_s I L D)) :
    aw_z X (d + 1) y_AW_program Q 53 [some (.ref 0), some (.int v1), some (.ref c2), some (.ref c3), none] [.int s0] (aw_s I L D) :=
  (z_if_eq (tgt := 60) d_AW_program_53 rfl (fun q1 => (h1 q1)) (fun q2 => (s_AW_program_56.go [some (.ref 0), some (.int v1), some (.ref c2), some (.ref c3), none] [.int (1 : Int32)] (aw_s I L D) rfl (z_goto (tgt := 61) d_AW_program_57 rfl (h2 q2)))))
theorem d_AW_program_61 : decode y_AW_program.2.1 61 = .ok (.istore 4, 2) := by decide +kernel
theorem d_AW_program_63 : decode y_AW_program.2.1 63 = .ok (.aload_n 0, 1) := by decide +kernel
theorem s_AW_program_61 : aw_VS y_AW_program 61 [o_ist 4, o_ald 0] 64 := .cons (v_istore d_AW_program_61) (.cons (v_aload_n (i := 0) d_AW_program_63 rfl) .nil)
theorem d_AW_program_64 : decode y_AW_program.2.1 64 = .ok (.invokevirtual 117, 3) := by decide +kernel
theorem b_AW_program_61 {X : aw_X} {d : Nat} {Q : Option Value → aw_H → Prop} {I : Nat → Nat → Int32} {L : Nat → Nat → Int64} {D : Nat → Nat} {v1 : Int32} {c2 : Nat} {c3 : Nat} {s0 : Int32}
    (h1 : aw_m X d y_AW_noteReading [.ref 0] (aw_s I L D) (fun r A => aw_z X (d + 1) y_AW_program Q 67 [some (.ref 0), some (.int v1), some (.ref c2), some (.ref c3), some (.int s0)] (r.toList ++ []) A)) :
    aw_z X (d + 1) y_AW_program Q 61 [some (.ref 0), some (.int v1), some (.ref c2), some (.ref c3), none] [.int s0] (aw_s I L D) :=
  (s_AW_program_61.go [some (.ref 0), some (.int v1), some (.ref c2), some (.ref c3), some (.int s0)] [.ref 0] (aw_s I L D) rfl (z_callV (av := []) (st := []) ok_AW_noteReading (Or.inl w_849) w_851 w_26 k_AW d_AW_program_64 rfl (aw_lt (o := 0) rfl) rfl rfl (Nat.le_of_ble_eq_true rfl) (Nat.le_refl _) (Nat.le_refl _) (h1)))
theorem d_AW_program_67 : decode y_AW_program.2.1 67 = .ok (.iload 4, 2) := by decide +kernel
theorem s_AW_program_67 : aw_VS y_AW_program 67 [o_ild 4] 69 := .cons (v_iload (i := 4) d_AW_program_67) .nil
theorem d_AW_program_69 : decode y_AW_program.2.1 69 = .ok (.ifCond .ne (13), 3) := by decide +kernel
theorem d_AW_program_82 : decode y_AW_program.2.1 82 = .ok (.iload_n 1, 1) := by decide +kernel
theorem s_AW_program_82 : aw_VS y_AW_program 82 [o_ild 1] 83 := .cons (v_iload_n (i := 1) d_AW_program_82 rfl) .nil
theorem d_AW_program_83 : decode y_AW_program.2.1 83 = .ok (.ifCond .lt (24), 3) := by decide +kernel
theorem d_AW_program_107 : decode y_AW_program.2.1 107 = .ok (.aload_n 3, 1) := by decide +kernel
theorem d_AW_program_108 : decode y_AW_program.2.1 108 = .ok (.getfield 123, 3) := by decide +kernel
theorem s_AW_program_107 : aw_VS y_AW_program 107 [o_ald 3, o_getI 6 6] 111 := .cons (v_aload_n (i := 3) d_AW_program_107 rfl) (.cons (v_getI (k := 6) k_Cd (by decide) (Or.inl rfl) (Or.inr ⟨"AllWays", w_393⟩) d_AW_program_108) .nil)
theorem d_AW_program_111 : decode y_AW_program.2.1 111 = .ok (.ireturn, 1) := by decide +kernel
theorem d_AW_program_86 : decode y_AW_program.2.1 86 = .ok (.iload_n 1, 1) := by decide +kernel
theorem d_AW_program_87 : decode y_AW_program.2.1 87 = .ok (.aload_n 0, 1) := by decide +kernel
theorem d_AW_program_88 : decode y_AW_program.2.1 88 = .ok (.getfield 51, 3) := by decide +kernel
theorem d_AW_program_91 : decode y_AW_program.2.1 91 = .ok (.arraylength, 1) := by decide +kernel
theorem s_AW_program_86 : aw_VS y_AW_program 86 [o_ild 1, o_ald 0, o_getA 0 5, o_alen] 92 := .cons (v_iload_n (i := 1) d_AW_program_86 rfl) (.cons (v_aload_n (i := 0) d_AW_program_87 rfl) (.cons (v_getA (k := 5) k_AW (by decide) rfl (Or.inl w_495) d_AW_program_88) (.cons (v_alen d_AW_program_91) .nil)))
theorem d_AW_program_92 : decode y_AW_program.2.1 92 = .ok (.if_icmp .ge (15), 3) := by decide +kernel
theorem d_AW_program_95 : decode y_AW_program.2.1 95 = .ok (.aload_n 0, 1) := by decide +kernel
theorem d_AW_program_96 : decode y_AW_program.2.1 96 = .ok (.getfield 51, 3) := by decide +kernel
theorem d_AW_program_99 : decode y_AW_program.2.1 99 = .ok (.iload_n 1, 1) := by decide +kernel
theorem d_AW_program_100 : decode y_AW_program.2.1 100 = .ok (.aload_n 3, 1) := by decide +kernel
theorem s_AW_program_95 : aw_VS y_AW_program 95 [o_ald 0, o_getA 0 5, o_ild 1, o_ald 3] 101 := .cons (v_aload_n (i := 0) d_AW_program_95 rfl) (.cons (v_getA (k := 5) k_AW (by decide) rfl (Or.inl w_495) d_AW_program_96) (.cons (v_iload_n (i := 1) d_AW_program_99 rfl) (.cons (v_aload_n (i := 3) d_AW_program_100 rfl) .nil)))
theorem d_AW_program_101 : decode y_AW_program.2.1 101 = .ok (.aastore, 1) := by decide +kernel
theorem d_AW_program_102 : decode y_AW_program.2.1 102 = .ok (.aload_n 0, 1) := by decide +kernel
theorem d_AW_program_103 : decode y_AW_program.2.1 103 = .ok (.aload_n 2, 1) := by decide +kernel
theorem s_AW_program_102 : aw_VS y_AW_program 102 [o_ald 0, o_ald 2] 104 := .cons (v_aload_n (i := 0) d_AW_program_102 rfl) (.cons (v_aload_n (i := 2) d_AW_program_103 rfl) .nil)
theorem d_AW_program_104 : decode y_AW_program.2.1 104 = .ok (.putfield 59, 3) := by decide +kernel
theorem d_AW_program_72 : decode y_AW_program.2.1 72 = .ok (.iconst (-1), 1) := by decide +kernel
theorem d_AW_program_73 : decode y_AW_program.2.1 73 = .ok (.aload_n 0, 1) := by decide +kernel
theorem d_AW_program_74 : decode y_AW_program.2.1 74 = .ok (.getfield 67, 3) := by decide +kernel
theorem d_AW_program_77 : decode y_AW_program.2.1 77 = .ok (.getfield 120, 3) := by decide +kernel
theorem d_AW_program_80 : decode y_AW_program.2.1 80 = .ok (.isub, 1) := by decide +kernel
theorem s_AW_program_72 : aw_VS y_AW_program 72 [o_c (.int (-1 : Int32)), o_ald 0, o_getA 0 8, o_getI 7 4, o_i2 (fun x z => x - z)] 81 := .cons (v_iconst (v := (-1 : Int32)) d_AW_program_72 (by decide +kernel)) (.cons (v_aload_n (i := 0) d_AW_program_73 rfl) (.cons (v_getA (k := 8) k_AW (by decide) rfl (Or.inl w_498) d_AW_program_74) (.cons (v_getI (k := 4) k_Ps (by decide) (Or.inl rfl) (Or.inr ⟨"AllWays", w_478⟩) d_AW_program_77) (.cons (v_isub d_AW_program_80) .nil))))
theorem d_AW_program_81 : decode y_AW_program.2.1 81 = .ok (.ireturn, 1) := by decide +kernel
theorem b_AW_program_67 {X : aw_X} {d : Nat} {Q : Option Value → aw_H → Prop} {I : Nat → Nat → Int32} {L : Nat → Nat → Int64} {D : Nat → Nat} {v1 : Int32} {c2 : Nat} {c3 : Nat} {v4 : Int32} (hc3 : c3 ∈ aw_codes)
    (h1 : ¬ v4 = 0 → v1 < 0 → Q (some (.int (I c3 6))) (aw_s I L D))
    (h2 : ¬ v4 = 0 → ¬ v1 < 0 → (4 : Int32) ≤ v1 → Q (some (.int (I c3 6))) (aw_s I L D))
    (h3 : ¬ v4 = 0 → ¬ v1 < 0 → ¬ (4 : Int32) ≤ v1 → vp_in v1 4)
    (h4 : ¬ v4 = 0 → ¬ v1 < 0 → ¬ (4 : Int32) ≤ v1 → c3 ∈ aw_codes)
    (h5 : ¬ v4 = 0 → ¬ v1 < 0 → ¬ (4 : Int32) ≤ v1 → Q (some (.int (I c3 6))) (aw_s I L (va_up (va_up D v1.toNatClampNeg c3) 5 c2)))
    (h6 : v4 = 0 → Q (some (.int ((-1 : Int32) - (I 60 4)))) (aw_s I L D)) :
    aw_z X (d + 1) y_AW_program Q 67 [some (.ref 0), some (.int v1), some (.ref c2), some (.ref c3), some (.int v4)] [] (aw_s I L D) := by
  simp only [aw_codes, List.mem_cons, List.not_mem_nil, or_false] at hc3
  rcases hc3 with rfl | rfl | rfl | rfl | rfl | rfl
  · exact (s_AW_program_67.go [some (.ref 0), some (.int v1), some (.ref c2), some (.ref 30), some (.int v4)] [.int v4] (aw_s I L D) rfl (z_if_ne (tgt := 82) d_AW_program_69 rfl (fun q1 => (s_AW_program_82.go [some (.ref 0), some (.int v1), some (.ref c2), some (.ref 30), some (.int v4)] [.int v1] (aw_s I L D) rfl (z_if_lt (tgt := 107) d_AW_program_83 rfl (fun q3 => (s_AW_program_107.go [some (.ref 0), some (.int v1), some (.ref c2), some (.ref 30), some (.int v4)] [.int (I 30 6)] (aw_s I L D) rfl (z_iret d_AW_program_111 rfl rfl (h1 q1 q3)))) (fun q4 => (s_AW_program_86.go [some (.ref 0), some (.int v1), some (.ref c2), some (.ref 30), some (.int v4)] [.int (4 : Int32), .int v1] (aw_s I L D) rfl (z_icmp_ge (tgt := 107) d_AW_program_92 rfl (fun q5 => (s_AW_program_107.go [some (.ref 0), some (.int v1), some (.ref c2), some (.ref 30), some (.int v4)] [.int (I 30 6)] (aw_s I L D) rfl (z_iret d_AW_program_111 rfl rfl (h2 q1 q4 q5)))) (fun q6 => (s_AW_program_95.go [some (.ref 0), some (.int v1), some (.ref c2), some (.ref 30), some (.int v4)] [.ref 30, .int v1, .ref 29] (aw_s I L D) rfl (z_pDP (h4 q1 q4 q6) (h3 q1 q4 q6) d_AW_program_101 (s_AW_program_102.go [some (.ref 0), some (.int v1), some (.ref c2), some (.ref 30), some (.int v4)] [.ref c2, .ref 0] (aw_s I L (va_up D v1.toNatClampNeg 30)) rfl (z_pD5 (Or.inl ⟨rfl, Or.inl w_497⟩) d_AW_program_104 (s_AW_program_107.go [some (.ref 0), some (.int v1), some (.ref c2), some (.ref 30), some (.int v4)] [.int (I 30 6)] (aw_s I L (va_up (va_up D v1.toNatClampNeg 30) 5 c2)) rfl (z_iret d_AW_program_111 rfl rfl (h5 q1 q4 q6)))))))))))))) (fun q2 => (s_AW_program_72.go [some (.ref 0), some (.int v1), some (.ref c2), some (.ref 30), some (.int v4)] [.int ((-1 : Int32) - (I 60 4))] (aw_s I L D) rfl (z_iret d_AW_program_81 rfl rfl (h6 q2))))))
  · exact (s_AW_program_67.go [some (.ref 0), some (.int v1), some (.ref c2), some (.ref 35), some (.int v4)] [.int v4] (aw_s I L D) rfl (z_if_ne (tgt := 82) d_AW_program_69 rfl (fun q1 => (s_AW_program_82.go [some (.ref 0), some (.int v1), some (.ref c2), some (.ref 35), some (.int v4)] [.int v1] (aw_s I L D) rfl (z_if_lt (tgt := 107) d_AW_program_83 rfl (fun q3 => (s_AW_program_107.go [some (.ref 0), some (.int v1), some (.ref c2), some (.ref 35), some (.int v4)] [.int (I 35 6)] (aw_s I L D) rfl (z_iret d_AW_program_111 rfl rfl (h1 q1 q3)))) (fun q4 => (s_AW_program_86.go [some (.ref 0), some (.int v1), some (.ref c2), some (.ref 35), some (.int v4)] [.int (4 : Int32), .int v1] (aw_s I L D) rfl (z_icmp_ge (tgt := 107) d_AW_program_92 rfl (fun q5 => (s_AW_program_107.go [some (.ref 0), some (.int v1), some (.ref c2), some (.ref 35), some (.int v4)] [.int (I 35 6)] (aw_s I L D) rfl (z_iret d_AW_program_111 rfl rfl (h2 q1 q4 q5)))) (fun q6 => (s_AW_program_95.go [some (.ref 0), some (.int v1), some (.ref c2), some (.ref 35), some (.int v4)] [.ref 35, .int v1, .ref 29] (aw_s I L D) rfl (z_pDP (h4 q1 q4 q6) (h3 q1 q4 q6) d_AW_program_101 (s_AW_program_102.go [some (.ref 0), some (.int v1), some (.ref c2), some (.ref 35), some (.int v4)] [.ref c2, .ref 0] (aw_s I L (va_up D v1.toNatClampNeg 35)) rfl (z_pD5 (Or.inl ⟨rfl, Or.inl w_497⟩) d_AW_program_104 (s_AW_program_107.go [some (.ref 0), some (.int v1), some (.ref c2), some (.ref 35), some (.int v4)] [.int (I 35 6)] (aw_s I L (va_up (va_up D v1.toNatClampNeg 35) 5 c2)) rfl (z_iret d_AW_program_111 rfl rfl (h5 q1 q4 q6)))))))))))))) (fun q2 => (s_AW_program_72.go [some (.ref 0), some (.int v1), some (.ref c2), some (.ref 35), some (.int v4)] [.int ((-1 : Int32) - (I 60 4))] (aw_s I L D) rfl (z_iret d_AW_program_81 rfl rfl (h6 q2))))))
  · exact (s_AW_program_67.go [some (.ref 0), some (.int v1), some (.ref c2), some (.ref 40), some (.int v4)] [.int v4] (aw_s I L D) rfl (z_if_ne (tgt := 82) d_AW_program_69 rfl (fun q1 => (s_AW_program_82.go [some (.ref 0), some (.int v1), some (.ref c2), some (.ref 40), some (.int v4)] [.int v1] (aw_s I L D) rfl (z_if_lt (tgt := 107) d_AW_program_83 rfl (fun q3 => (s_AW_program_107.go [some (.ref 0), some (.int v1), some (.ref c2), some (.ref 40), some (.int v4)] [.int (I 40 6)] (aw_s I L D) rfl (z_iret d_AW_program_111 rfl rfl (h1 q1 q3)))) (fun q4 => (s_AW_program_86.go [some (.ref 0), some (.int v1), some (.ref c2), some (.ref 40), some (.int v4)] [.int (4 : Int32), .int v1] (aw_s I L D) rfl (z_icmp_ge (tgt := 107) d_AW_program_92 rfl (fun q5 => (s_AW_program_107.go [some (.ref 0), some (.int v1), some (.ref c2), some (.ref 40), some (.int v4)] [.int (I 40 6)] (aw_s I L D) rfl (z_iret d_AW_program_111 rfl rfl (h2 q1 q4 q5)))) (fun q6 => (s_AW_program_95.go [some (.ref 0), some (.int v1), some (.ref c2), some (.ref 40), some (.int v4)] [.ref 40, .int v1, .ref 29] (aw_s I L D) rfl (z_pDP (h4 q1 q4 q6) (h3 q1 q4 q6) d_AW_program_101 (s_AW_program_102.go [some (.ref 0), some (.int v1), some (.ref c2), some (.ref 40), some (.int v4)] [.ref c2, .ref 0] (aw_s I L (va_up D v1.toNatClampNeg 40)) rfl (z_pD5 (Or.inl ⟨rfl, Or.inl w_497⟩) d_AW_program_104 (s_AW_program_107.go [some (.ref 0), some (.int v1), some (.ref c2), some (.ref 40), some (.int v4)] [.int (I 40 6)] (aw_s I L (va_up (va_up D v1.toNatClampNeg 40) 5 c2)) rfl (z_iret d_AW_program_111 rfl rfl (h5 q1 q4 q6)))))))))))))) (fun q2 => (s_AW_program_72.go [some (.ref 0), some (.int v1), some (.ref c2), some (.ref 40), some (.int v4)] [.int ((-1 : Int32) - (I 60 4))] (aw_s I L D) rfl (z_iret d_AW_program_81 rfl rfl (h6 q2))))))
  · exact (s_AW_program_67.go [some (.ref 0), some (.int v1), some (.ref c2), some (.ref 45), some (.int v4)] [.int v4] (aw_s I L D) rfl (z_if_ne (tgt := 82) d_AW_program_69 rfl (fun q1 => (s_AW_program_82.go [some (.ref 0), some (.int v1), some (.ref c2), some (.ref 45), some (.int v4)] [.int v1] (aw_s I L D) rfl (z_if_lt (tgt := 107) d_AW_program_83 rfl (fun q3 => (s_AW_program_107.go [some (.ref 0), some (.int v1), some (.ref c2), some (.ref 45), some (.int v4)] [.int (I 45 6)] (aw_s I L D) rfl (z_iret d_AW_program_111 rfl rfl (h1 q1 q3)))) (fun q4 => (s_AW_program_86.go [some (.ref 0), some (.int v1), some (.ref c2), some (.ref 45), some (.int v4)] [.int (4 : Int32), .int v1] (aw_s I L D) rfl (z_icmp_ge (tgt := 107) d_AW_program_92 rfl (fun q5 => (s_AW_program_107.go [some (.ref 0), some (.int v1), some (.ref c2), some (.ref 45), some (.int v4)] [.int (I 45 6)] (aw_s I L D) rfl (z_iret d_AW_program_111 rfl rfl (h2 q1 q4 q5)))) (fun q6 => (s_AW_program_95.go [some (.ref 0), some (.int v1), some (.ref c2), some (.ref 45), some (.int v4)] [.ref 45, .int v1, .ref 29] (aw_s I L D) rfl (z_pDP (h4 q1 q4 q6) (h3 q1 q4 q6) d_AW_program_101 (s_AW_program_102.go [some (.ref 0), some (.int v1), some (.ref c2), some (.ref 45), some (.int v4)] [.ref c2, .ref 0] (aw_s I L (va_up D v1.toNatClampNeg 45)) rfl (z_pD5 (Or.inl ⟨rfl, Or.inl w_497⟩) d_AW_program_104 (s_AW_program_107.go [some (.ref 0), some (.int v1), some (.ref c2), some (.ref 45), some (.int v4)] [.int (I 45 6)] (aw_s I L (va_up (va_up D v1.toNatClampNeg 45) 5 c2)) rfl (z_iret d_AW_program_111 rfl rfl (h5 q1 q4 q6)))))))))))))) (fun q2 => (s_AW_program_72.go [some (.ref 0), some (.int v1), some (.ref c2), some (.ref 45), some (.int v4)] [.int ((-1 : Int32) - (I 60 4))] (aw_s I L D) rfl (z_iret d_AW_program_81 rfl rfl (h6 q2))))))
  · exact (s_AW_program_67.go [some (.ref 0), some (.int v1), some (.ref c2), some (.ref 50), some (.int v4)] [.int v4] (aw_s I L D) rfl (z_if_ne (tgt := 82) d_AW_program_69 rfl (fun q1 => (s_AW_program_82.go [some (.ref 0), some (.int v1), some (.ref c2), some (.ref 50), some (.int v4)] [.int v1] (aw_s I L D) rfl (z_if_lt (tgt := 107) d_AW_program_83 rfl (fun q3 => (s_AW_program_107.go [some (.ref 0), some (.int v1), some (.ref c2), some (.ref 50), some (.int v4)] [.int (I 50 6)] (aw_s I L D) rfl (z_iret d_AW_program_111 rfl rfl (h1 q1 q3)))) (fun q4 => (s_AW_program_86.go [some (.ref 0), some (.int v1), some (.ref c2), some (.ref 50), some (.int v4)] [.int (4 : Int32), .int v1] (aw_s I L D) rfl (z_icmp_ge (tgt := 107) d_AW_program_92 rfl (fun q5 => (s_AW_program_107.go [some (.ref 0), some (.int v1), some (.ref c2), some (.ref 50), some (.int v4)] [.int (I 50 6)] (aw_s I L D) rfl (z_iret d_AW_program_111 rfl rfl (h2 q1 q4 q5)))) (fun q6 => (s_AW_program_95.go [some (.ref 0), some (.int v1), some (.ref c2), some (.ref 50), some (.int v4)] [.ref 50, .int v1, .ref 29] (aw_s I L D) rfl (z_pDP (h4 q1 q4 q6) (h3 q1 q4 q6) d_AW_program_101 (s_AW_program_102.go [some (.ref 0), some (.int v1), some (.ref c2), some (.ref 50), some (.int v4)] [.ref c2, .ref 0] (aw_s I L (va_up D v1.toNatClampNeg 50)) rfl (z_pD5 (Or.inl ⟨rfl, Or.inl w_497⟩) d_AW_program_104 (s_AW_program_107.go [some (.ref 0), some (.int v1), some (.ref c2), some (.ref 50), some (.int v4)] [.int (I 50 6)] (aw_s I L (va_up (va_up D v1.toNatClampNeg 50) 5 c2)) rfl (z_iret d_AW_program_111 rfl rfl (h5 q1 q4 q6)))))))))))))) (fun q2 => (s_AW_program_72.go [some (.ref 0), some (.int v1), some (.ref c2), some (.ref 50), some (.int v4)] [.int ((-1 : Int32) - (I 60 4))] (aw_s I L D) rfl (z_iret d_AW_program_81 rfl rfl (h6 q2))))))
  · exact (s_AW_program_67.go [some (.ref 0), some (.int v1), some (.ref c2), some (.ref 55), some (.int v4)] [.int v4] (aw_s I L D) rfl (z_if_ne (tgt := 82) d_AW_program_69 rfl (fun q1 => (s_AW_program_82.go [some (.ref 0), some (.int v1), some (.ref c2), some (.ref 55), some (.int v4)] [.int v1] (aw_s I L D) rfl (z_if_lt (tgt := 107) d_AW_program_83 rfl (fun q3 => (s_AW_program_107.go [some (.ref 0), some (.int v1), some (.ref c2), some (.ref 55), some (.int v4)] [.int (I 55 6)] (aw_s I L D) rfl (z_iret d_AW_program_111 rfl rfl (h1 q1 q3)))) (fun q4 => (s_AW_program_86.go [some (.ref 0), some (.int v1), some (.ref c2), some (.ref 55), some (.int v4)] [.int (4 : Int32), .int v1] (aw_s I L D) rfl (z_icmp_ge (tgt := 107) d_AW_program_92 rfl (fun q5 => (s_AW_program_107.go [some (.ref 0), some (.int v1), some (.ref c2), some (.ref 55), some (.int v4)] [.int (I 55 6)] (aw_s I L D) rfl (z_iret d_AW_program_111 rfl rfl (h2 q1 q4 q5)))) (fun q6 => (s_AW_program_95.go [some (.ref 0), some (.int v1), some (.ref c2), some (.ref 55), some (.int v4)] [.ref 55, .int v1, .ref 29] (aw_s I L D) rfl (z_pDP (h4 q1 q4 q6) (h3 q1 q4 q6) d_AW_program_101 (s_AW_program_102.go [some (.ref 0), some (.int v1), some (.ref c2), some (.ref 55), some (.int v4)] [.ref c2, .ref 0] (aw_s I L (va_up D v1.toNatClampNeg 55)) rfl (z_pD5 (Or.inl ⟨rfl, Or.inl w_497⟩) d_AW_program_104 (s_AW_program_107.go [some (.ref 0), some (.int v1), some (.ref c2), some (.ref 55), some (.int v4)] [.int (I 55 6)] (aw_s I L (va_up (va_up D v1.toNatClampNeg 55) 5 c2)) rfl (z_iret d_AW_program_111 rfl rfl (h5 q1 q4 q6)))))))))))))) (fun q2 => (s_AW_program_72.go [some (.ref 0), some (.int v1), some (.ref c2), some (.ref 55), some (.int v4)] [.int ((-1 : Int32) - (I 60 4))] (aw_s I L D) rfl (z_iret d_AW_program_81 rfl rfl (h6 q2))))))
/-! AW_programAt -/
theorem d_AW_programAt_0 : decode y_AW_programAt.2.1 0 = .ok (.iload_n 1, 1) := by decide +kernel
theorem s_AW_programAt_0 : aw_VS y_AW_programAt 0 [o_ild 1] 1 := .cons (v_iload_n (i := 1) d_AW_programAt_0 rfl) .nil
theorem d_AW_programAt_1 : decode y_AW_programAt.2.1 1 = .ok (.ifCond .lt (21), 3) := by decide +kernel
theorem d_AW_programAt_22 : decode y_AW_programAt.2.1 22 = .ok (.aconst_null, 1) := by decide +kernel
theorem s_AW_programAt_22 : aw_VS y_AW_programAt 22 [o_c .null] 23 := .cons (v_null d_AW_programAt_22) .nil
theorem d_AW_programAt_23 : decode y_AW_programAt.2.1 23 = .ok (.areturn, 1) := by decide +kernel
theorem d_AW_programAt_4 : decode y_AW_programAt.2.1 4 = .ok (.iload_n 1, 1) := by decide +kernel
theorem d_AW_programAt_5 : decode y_AW_programAt.2.1 5 = .ok (.aload_n 0, 1) := by decide +kernel
theorem d_AW_programAt_6 : decode y_AW_programAt.2.1 6 = .ok (.getfield 51, 3) := by decide +kernel
theorem d_AW_programAt_9 : decode y_AW_programAt.2.1 9 = .ok (.arraylength, 1) := by decide +kernel
theorem s_AW_programAt_4 : aw_VS y_AW_programAt 4 [o_ild 1, o_ald 0, o_getA 0 5, o_alen] 10 := .cons (v_iload_n (i := 1) d_AW_programAt_4 rfl) (.cons (v_aload_n (i := 0) d_AW_programAt_5 rfl) (.cons (v_getA (k := 5) k_AW (by decide) rfl (Or.inl w_495) d_AW_programAt_6) (.cons (v_alen d_AW_programAt_9) .nil)))
theorem d_AW_programAt_10 : decode y_AW_programAt.2.1 10 = .ok (.if_icmp .ge (12), 3) := by decide +kernel
theorem d_AW_programAt_13 : decode y_AW_programAt.2.1 13 = .ok (.aload_n 0, 1) := by decide +kernel
theorem d_AW_programAt_14 : decode y_AW_programAt.2.1 14 = .ok (.getfield 51, 3) := by decide +kernel
theorem d_AW_programAt_17 : decode y_AW_programAt.2.1 17 = .ok (.iload_n 1, 1) := by decide +kernel
theorem s_AW_programAt_13 : aw_VS y_AW_programAt 13 [o_ald 0, o_getA 0 5, o_ild 1] 18 := .cons (v_aload_n (i := 0) d_AW_programAt_13 rfl) (.cons (v_getA (k := 5) k_AW (by decide) rfl (Or.inl w_495) d_AW_programAt_14) (.cons (v_iload_n (i := 1) d_AW_programAt_17 rfl) .nil))
theorem d_AW_programAt_18 : decode y_AW_programAt.2.1 18 = .ok (.aaload, 1) := by decide +kernel
theorem d_AW_programAt_19 : decode y_AW_programAt.2.1 19 = .ok (.goto (4), 3) := by decide +kernel
theorem b_AW_programAt_0 {X : aw_X} {d : Nat} {Q : Option Value → aw_H → Prop} {I : Nat → Nat → Int32} {L : Nat → Nat → Int64} {D : Nat → Nat} {v1 : Int32}
    (h1 : v1 < 0 → Q (some .null) (aw_s I L D))
    (h2 : ¬ v1 < 0 → (4 : Int32) ≤ v1 → Q (some .null) (aw_s I L D))
    (h3 : ¬ v1 < 0 → ¬ (4 : Int32) ≤ v1 → vp_in v1 4)
    (h4 : ¬ v1 < 0 → ¬ (4 : Int32) ≤ v1 → Q (some (aw_rv (aw_R D 29 v1.toNatClampNeg))) (aw_s I L D)) :
    aw_z X d y_AW_programAt Q 0 [some (.ref 0), some (.int v1)] [] (aw_s I L D) :=
  (s_AW_programAt_0.go [some (.ref 0), some (.int v1)] [.int v1] (aw_s I L D) rfl (z_if_lt (tgt := 22) d_AW_programAt_1 rfl (fun q1 => (s_AW_programAt_22.go [some (.ref 0), some (.int v1)] [.null] (aw_s I L D) rfl (z_aret (v := none) d_AW_programAt_23 rfl (Or.inl ⟨_, rfl⟩) (h1 q1)))) (fun q2 => (s_AW_programAt_4.go [some (.ref 0), some (.int v1)] [.int (4 : Int32), .int v1] (aw_s I L D) rfl (z_icmp_ge (tgt := 22) d_AW_programAt_10 rfl (fun q3 => (s_AW_programAt_22.go [some (.ref 0), some (.int v1)] [.null] (aw_s I L D) rfl (z_aret (v := none) d_AW_programAt_23 rfl (Or.inl ⟨_, rfl⟩) (h2 q2 q3)))) (fun q4 => (s_AW_programAt_13.go [some (.ref 0), some (.int v1)] [.int v1, .ref 29] (aw_s I L D) rfl (z_aald (n := 4) rfl (aw_lt (o := 29) rfl) (h3 q2 q4) d_AW_programAt_18 (z_goto (tgt := 23) d_AW_programAt_19 rfl (z_aret (v := aw_R D 29 v1.toNatClampNeg) d_AW_programAt_23 rfl (Or.inl ⟨_, rfl⟩) (h4 q2 q4)))))))))))
/-! AW_noteReading -/
theorem d_AW_noteReading_0 : decode y_AW_noteReading.2.1 0 = .ok (.aload_n 0, 1) := by decide +kernel
theorem d_AW_noteReading_1 : decode y_AW_noteReading.2.1 1 = .ok (.aload_n 0, 1) := by decide +kernel
theorem d_AW_noteReading_2 : decode y_AW_noteReading.2.1 2 = .ok (.getfield 67, 3) := by decide +kernel
theorem d_AW_noteReading_5 : decode y_AW_noteReading.2.1 5 = .ok (.getfield 320, 3) := by decide +kernel
theorem d_AW_noteReading_8 : decode y_AW_noteReading.2.1 8 = .ok (.putfield 126, 3) := by decide +kernel
theorem d_AW_noteReading_11 : decode y_AW_noteReading.2.1 11 = .ok (.aload_n 0, 1) := by decide +kernel
theorem d_AW_noteReading_12 : decode y_AW_noteReading.2.1 12 = .ok (.getfield 19, 3) := by decide +kernel
theorem d_AW_noteReading_15 : decode y_AW_noteReading.2.1 15 = .ok (.iconst 0, 1) := by decide +kernel
theorem s_AW_noteReading_0 : aw_VS y_AW_noteReading 0 [o_ald 0, o_ald 0, o_getA 0 8, o_getI 7 3, o_putI 0 9, o_ald 0, o_getA 0 1, o_c (.int (0 : Int32))] 16 := .cons (v_aload_n (i := 0) d_AW_noteReading_0 rfl) (.cons (v_aload_n (i := 0) d_AW_noteReading_1 rfl) (.cons (v_getA (k := 8) k_AW (by decide) rfl (Or.inl w_498) d_AW_noteReading_2) (.cons (v_getI (k := 3) k_Ps (by decide) (Or.inl rfl) (Or.inr ⟨"AllWays", w_476⟩) d_AW_noteReading_5) (.cons (v_putI (k := 9) k_AW (by decide) rfl (Or.inl ⟨rfl, Or.inl w_499⟩) d_AW_noteReading_8) (.cons (v_aload_n (i := 0) d_AW_noteReading_11 rfl) (.cons (v_getA (k := 1) k_AW (by decide) rfl (Or.inl w_491) d_AW_noteReading_12) (.cons (v_iconst (v := (0 : Int32)) d_AW_noteReading_15 (by decide +kernel)) .nil)))))))
theorem d_AW_noteReading_16 : decode y_AW_noteReading.2.1 16 = .ok (.invokevirtual 99, 3) := by decide +kernel
theorem b_AW_noteReading_0 {X : aw_X} {d : Nat} {Q : Option Value → aw_H → Prop} {I : Nat → Nat → Int32} {L : Nat → Nat → Int64} {D : Nat → Nat} 
    (h1 : aw_m X d y_Tp_cut [.ref 2, .int (0 : Int32)] (aw_s (aw_u I 0 9 (I 60 3)) L D) (fun r A => aw_z X (d + 1) y_AW_noteReading Q 19 [none] (r.toList ++ []) A)) :
    aw_z X (d + 1) y_AW_noteReading Q 0 [some (.ref 0)] [] (aw_s I L D) :=
  (s_AW_noteReading_0.go [some (.ref 0)] [.int (0 : Int32), .ref 2] (aw_s (aw_u I 0 9 (I 60 3)) L D) rfl (z_callV (av := [.int (0 : Int32)]) (st := []) ok_Tp_cut (Or.inl w_561) w_562 w_563 k_Tp d_AW_noteReading_16 rfl (aw_lt (o := 2) rfl) rfl rfl (Nat.le_of_ble_eq_true rfl) (Nat.le_refl _) (Nat.le_refl _) (aw_C.mono (h1) (fun _ _ zz => aw_Z.weak (ls' := [none]) zz (Nat.le_of_ble_eq_true rfl) ⟨Or.inl rfl, trivial⟩))))
theorem d_AW_noteReading_19 : decode y_AW_noteReading.2.1 19 = .ok (.pop, 1) := by decide +kernel
theorem s_AW_noteReading_19 : aw_VS y_AW_noteReading 19 [o_pop] 20 := .cons (v_pop d_AW_noteReading_19) .nil
theorem d_AW_noteReading_20 : decode y_AW_noteReading.2.1 20 = .ok (.return_, 1) := by decide +kernel
theorem b_AW_noteReading_19 {X : aw_X} {d : Nat} {Q : Option Value → aw_H → Prop} {I : Nat → Nat → Int32} {L : Nat → Nat → Int64} {D : Nat → Nat} {s0 : Int32}
    (h1 : Q none (aw_s I L D)) :
    aw_z X (d + 1) y_AW_noteReading Q 19 [none] [.int s0] (aw_s I L D) :=
  (s_AW_noteReading_19.go [none] [] (aw_s I L D) rfl (z_vret d_AW_noteReading_20 rfl (h1)))
/-! AW_fault -/
theorem d_AW_fault_0 : decode y_AW_fault.2.1 0 = .ok (.aload_n 0, 1) := by decide +kernel
theorem d_AW_fault_1 : decode y_AW_fault.2.1 1 = .ok (.getfield 126, 3) := by decide +kernel
theorem s_AW_fault_0 : aw_VS y_AW_fault 0 [o_ald 0, o_getI 0 9] 4 := .cons (v_aload_n (i := 0) d_AW_fault_0 rfl) (.cons (v_getI (k := 9) k_AW (by decide) (Or.inl rfl) (Or.inl w_499) d_AW_fault_1) .nil)
theorem d_AW_fault_4 : decode y_AW_fault.2.1 4 = .ok (.ireturn, 1) := by decide +kernel
theorem b_AW_fault_0 {X : aw_X} {d : Nat} {Q : Option Value → aw_H → Prop} {I : Nat → Nat → Int32} {L : Nat → Nat → Int64} {D : Nat → Nat} 
    (h1 : Q (some (.int (I 0 9))) (aw_s I L D)) :
    aw_z X d y_AW_fault Q 0 [some (.ref 0)] [] (aw_s I L D) :=
  (s_AW_fault_0.go [some (.ref 0)] [.int (I 0 9)] (aw_s I L D) rfl (z_iret d_AW_fault_4 rfl rfl (h1)))
/-! AW_sizes -/
theorem d_AW_sizes_0 : decode y_AW_sizes.2.1 0 = .ok (.aload_n 0, 1) := by decide +kernel
theorem d_AW_sizes_1 : decode y_AW_sizes.2.1 1 = .ok (.getfield 12, 3) := by decide +kernel
theorem d_AW_sizes_4 : decode y_AW_sizes.2.1 4 = .ok (.iload_n 1, 1) := by decide +kernel
theorem d_AW_sizes_5 : decode y_AW_sizes.2.1 5 = .ok (.iload_n 2, 1) := by decide +kernel
theorem d_AW_sizes_6 : decode y_AW_sizes.2.1 6 = .ok (.iload_n 3, 1) := by decide +kernel
theorem s_AW_sizes_0 : aw_VS y_AW_sizes 0 [o_ald 0, o_getA 0 0, o_ild 1, o_ild 2, o_ild 3] 7 := .cons (v_aload_n (i := 0) d_AW_sizes_0 rfl) (.cons (v_getA (k := 0) k_AW (by decide) rfl (Or.inl w_490) d_AW_sizes_1) (.cons (v_iload_n (i := 1) d_AW_sizes_4 rfl) (.cons (v_iload_n (i := 2) d_AW_sizes_5 rfl) (.cons (v_iload_n (i := 3) d_AW_sizes_6 rfl) .nil))))
theorem d_AW_sizes_7 : decode y_AW_sizes.2.1 7 = .ok (.invokevirtual 129, 3) := by decide +kernel
theorem b_AW_sizes_0 {X : aw_X} {d : Nat} {Q : Option Value → aw_H → Prop} {I : Nat → Nat → Int32} {L : Nat → Nat → Int64} {D : Nat → Nat} {v1 : Int32} {v2 : Int32} {v3 : Int32}
    (h1 : aw_m X d y_Sz_change [.ref 1, .int v1, .int v2, .int v3] (aw_s I L D) (fun r A => aw_z X (d + 1) y_AW_sizes Q 10 [some (.ref 0), none, none, none] (r.toList ++ []) A)) :
    aw_z X (d + 1) y_AW_sizes Q 0 [some (.ref 0), some (.int v1), some (.int v2), some (.int v3)] [] (aw_s I L D) :=
  (s_AW_sizes_0.go [some (.ref 0), some (.int v1), some (.int v2), some (.int v3)] [.int v3, .int v2, .int v1, .ref 1] (aw_s I L D) rfl (z_callV (av := [.int v1, .int v2, .int v3]) (st := []) ok_Sz_change (Or.inl w_862) w_863 w_864 k_Sz d_AW_sizes_7 rfl (aw_lt (o := 1) rfl) rfl rfl (Nat.le_of_ble_eq_true rfl) (Nat.le_refl _) (Nat.le_refl _) (aw_C.mono (h1) (fun _ _ zz => aw_Z.weak (ls' := [some (.ref 0), none, none, none]) zz (Nat.le_of_ble_eq_true rfl) ⟨Or.inr rfl, ⟨Or.inl rfl, ⟨Or.inl rfl, ⟨Or.inl rfl, trivial⟩⟩⟩⟩))))
theorem d_AW_sizes_10 : decode y_AW_sizes.2.1 10 = .ok (.ifCond .ne (5), 3) := by decide +kernel
theorem d_AW_sizes_15 : decode y_AW_sizes.2.1 15 = .ok (.aload_n 0, 1) := by decide +kernel
theorem d_AW_sizes_16 : decode y_AW_sizes.2.1 16 = .ok (.getfield 35, 3) := by decide +kernel
theorem s_AW_sizes_15 : aw_VS y_AW_sizes 15 [o_ald 0, o_getA 0 3] 19 := .cons (v_aload_n (i := 0) d_AW_sizes_15 rfl) (.cons (v_getA (k := 3) k_AW (by decide) rfl (Or.inl w_493) d_AW_sizes_16) .nil)
theorem d_AW_sizes_19 : decode y_AW_sizes.2.1 19 = .ok (.invokevirtual 133, 3) := by decide +kernel
theorem d_AW_sizes_13 : decode y_AW_sizes.2.1 13 = .ok (.iconst 0, 1) := by decide +kernel
theorem s_AW_sizes_13 : aw_VS y_AW_sizes 13 [o_c (.int (0 : Int32))] 14 := .cons (v_iconst (v := (0 : Int32)) d_AW_sizes_13 (by decide +kernel)) .nil
theorem d_AW_sizes_14 : decode y_AW_sizes.2.1 14 = .ok (.ireturn, 1) := by decide +kernel
theorem b_AW_sizes_10 {X : aw_X} {d : Nat} {Q : Option Value → aw_H → Prop} {I : Nat → Nat → Int32} {L : Nat → Nat → Int64} {D : Nat → Nat} {s0 : Int32}
    (h1 : ¬ s0 = 0 → aw_m X d y_Wk_forget [.ref 11] (aw_s I L D) (fun r A => aw_z X (d + 1) y_AW_sizes Q 22 [none, none, none, none] (r.toList ++ []) A))
    (h2 : s0 = 0 → Q (some (.int (0 : Int32))) (aw_s I L D)) :
    aw_z X (d + 1) y_AW_sizes Q 10 [some (.ref 0), none, none, none] [.int s0] (aw_s I L D) :=
  (z_if_ne (tgt := 15) d_AW_sizes_10 rfl (fun q1 => (s_AW_sizes_15.go [some (.ref 0), none, none, none] [.ref 11] (aw_s I L D) rfl (z_callV (av := []) (st := []) ok_Wk_forget (Or.inl w_866) w_867 w_868 k_Wk d_AW_sizes_19 rfl (aw_lt (o := 11) rfl) rfl rfl (Nat.le_of_ble_eq_true rfl) (Nat.le_refl _) (Nat.le_refl _) (aw_C.mono (h1 q1) (fun _ _ zz => aw_Z.weak (ls' := [none, none, none, none]) zz (Nat.le_of_ble_eq_true rfl) ⟨Or.inl rfl, ⟨Or.inl rfl, ⟨Or.inl rfl, ⟨Or.inl rfl, trivial⟩⟩⟩⟩))))) (fun q2 => (s_AW_sizes_13.go [some (.ref 0), none, none, none] [.int (0 : Int32)] (aw_s I L D) rfl (z_iret d_AW_sizes_14 rfl (aw_nz (by decide +kernel)) (h2 q2)))))
theorem d_AW_sizes_22 : decode y_AW_sizes.2.1 22 = .ok (.iconst 1, 1) := by decide +kernel
theorem s_AW_sizes_22 : aw_VS y_AW_sizes 22 [o_c (.int (1 : Int32))] 23 := .cons (v_iconst (v := (1 : Int32)) d_AW_sizes_22 (by decide +kernel)) .nil
theorem d_AW_sizes_23 : decode y_AW_sizes.2.1 23 = .ok (.ireturn, 1) := by decide +kernel
theorem b_AW_sizes_22 {X : aw_X} {d : Nat} {Q : Option Value → aw_H → Prop} {I : Nat → Nat → Int32} {L : Nat → Nat → Int64} {D : Nat → Nat} 
    (h1 : Q (some (.int (1 : Int32))) (aw_s I L D)) :
    aw_z X (d + 1) y_AW_sizes Q 22 [none, none, none, none] [] (aw_s I L D) :=
  (s_AW_sizes_22.go [none, none, none, none] [.int (1 : Int32)] (aw_s I L D) rfl (z_iret d_AW_sizes_23 rfl (aw_nz (by decide +kernel)) (h1)))
/-! AW_walk -/
theorem d_AW_walk_0 : decode y_AW_walk.2.1 0 = .ok (.aload_n 0, 1) := by decide +kernel
theorem d_AW_walk_1 : decode y_AW_walk.2.1 1 = .ok (.iload_n 1, 1) := by decide +kernel
theorem s_AW_walk_0 : aw_VS y_AW_walk 0 [o_ald 0, o_ild 1] 2 := .cons (v_aload_n (i := 0) d_AW_walk_0 rfl) (.cons (v_iload_n (i := 1) d_AW_walk_1 rfl) .nil)
theorem d_AW_walk_2 : decode y_AW_walk.2.1 2 = .ok (.invokevirtual 102, 3) := by decide +kernel
theorem b_AW_walk_0 {X : aw_X} {d : Nat} {Q : Option Value → aw_H → Prop} {I : Nat → Nat → Int32} {L : Nat → Nat → Int64} {D : Nat → Nat} {v1 : Int32} {v2 : Int32}
    (h1 : aw_m X d y_AW_programAt [.ref 0, .int v1] (aw_s I L D) (fun r A => aw_z X (d + 1) y_AW_walk Q 5 [some (.ref 0), none, some (.int v2), none, none] (r.toList ++ []) A)) :
    aw_z X (d + 1) y_AW_walk Q 0 [some (.ref 0), some (.int v1), some (.int v2), none, none] [] (aw_s I L D) :=
  (s_AW_walk_0.go [some (.ref 0), some (.int v1), some (.int v2), none, none] [.int v1, .ref 0] (aw_s I L D) rfl (z_callV (av := [.int v1]) (st := []) ok_AW_programAt (Or.inl w_569) w_571 w_0 k_AW d_AW_walk_2 rfl (aw_lt (o := 0) rfl) rfl rfl (Nat.le_of_ble_eq_true rfl) (Nat.le_refl _) (Nat.le_refl _) (aw_C.mono (h1) (fun _ _ zz => aw_Z.weak (ls' := [some (.ref 0), none, some (.int v2), none, none]) zz (Nat.le_of_ble_eq_true rfl) ⟨Or.inr rfl, ⟨Or.inl rfl, ⟨Or.inr rfl, ⟨Or.inl rfl, ⟨Or.inl rfl, trivial⟩⟩⟩⟩⟩))))
theorem d_AW_walk_5 : decode y_AW_walk.2.1 5 = .ok (.astore_n 3, 1) := by decide +kernel
theorem d_AW_walk_6 : decode y_AW_walk.2.1 6 = .ok (.aload_n 3, 1) := by decide +kernel
theorem s_AW_walk_5 : aw_VS y_AW_walk 5 [o_ast 3, o_ald 3] 7 := .cons (v_astore_n d_AW_walk_5) (.cons (v_aload_n (i := 3) d_AW_walk_6 rfl) .nil)
theorem d_AW_walk_7 : decode y_AW_walk.2.1 7 = .ok (.ifnull (10), 3) := by decide +kernel
theorem d_AW_walk_10 : decode y_AW_walk.2.1 10 = .ok (.iload_n 2, 1) := by decide +kernel
theorem s_AW_walk_10 : aw_VS y_AW_walk 10 [o_ild 2] 11 := .cons (v_iload_n (i := 2) d_AW_walk_10 rfl) .nil
theorem d_AW_walk_11 : decode y_AW_walk.2.1 11 = .ok (.invokestatic 136, 3) := by decide +kernel
theorem b_AW_walk_5 {X : aw_X} {d : Nat} {Q : Option Value → aw_H → Prop} {I : Nat → Nat → Int32} {L : Nat → Nat → Int64} {D : Nat → Nat} {v2 : Int32} {t0 : Nat}
    (h1 : aw_m X d y_AW_isFuel [.int v2] (aw_s I L D) (fun r A => aw_z X (d + 1) y_AW_walk Q 14 [some (.ref 0), none, some (.int v2), some (.ref t0), none] (r.toList ++ []) A)) :
    aw_z X (d + 1) y_AW_walk Q 5 [some (.ref 0), none, some (.int v2), none, none] [.ref t0] (aw_s I L D) :=
  (s_AW_walk_5.go [some (.ref 0), none, some (.int v2), some (.ref t0), none] [.ref t0] (aw_s I L D) rfl (z_ifnull d_AW_walk_7 (s_AW_walk_10.go [some (.ref 0), none, some (.int v2), some (.ref t0), none] [.int v2] (aw_s I L D) rfl (z_callS (av := [.int v2]) (st := []) ok_AW_isFuel (Or.inl w_874) w_875 d_AW_walk_11 rfl rfl (Nat.le_of_ble_eq_true rfl) (Nat.le_refl _) (Nat.le_refl _) (h1)))))
theorem d_AW_walk_17 : decode y_AW_walk.2.1 17 = .ok (.iconst (-1), 1) := by decide +kernel
theorem s_AW_walk_17 : aw_VS y_AW_walk 17 [o_c (.int (-1 : Int32))] 18 := .cons (v_iconst (v := (-1 : Int32)) d_AW_walk_17 (by decide +kernel)) .nil
theorem d_AW_walk_18 : decode y_AW_walk.2.1 18 = .ok (.ireturn, 1) := by decide +kernel
theorem b_AW_walk_5a {X : aw_X} {d : Nat} {Q : Option Value → aw_H → Prop} {I : Nat → Nat → Int32} {L : Nat → Nat → Int64} {D : Nat → Nat} {v2 : Int32}
    (h1 : Q (some (.int (-1 : Int32))) (aw_s I L D)) :
    aw_z X (d + 1) y_AW_walk Q 5 [some (.ref 0), none, some (.int v2), none, none] [.null] (aw_s I L D) :=
  (s_AW_walk_5.go [some (.ref 0), none, some (.int v2), some .null, none] [.null] (aw_s I L D) rfl (z_ifnullN (tgt := 17) d_AW_walk_7 rfl (s_AW_walk_17.go [some (.ref 0), none, some (.int v2), some .null, none] [.int (-1 : Int32)] (aw_s I L D) rfl (z_iret d_AW_walk_18 rfl rfl (h1)))))
theorem d_AW_walk_14 : decode y_AW_walk.2.1 14 = .ok (.ifCond .ne (5), 3) := by decide +kernel
theorem d_AW_walk_19 : decode y_AW_walk.2.1 19 = .ok (.aload_n 0, 1) := by decide +kernel
theorem d_AW_walk_20 : decode y_AW_walk.2.1 20 = .ok (.getfield 35, 3) := by decide +kernel
theorem d_AW_walk_23 : decode y_AW_walk.2.1 23 = .ok (.aload_n 3, 1) := by decide +kernel
theorem d_AW_walk_24 : decode y_AW_walk.2.1 24 = .ok (.aload_n 0, 1) := by decide +kernel
theorem d_AW_walk_25 : decode y_AW_walk.2.1 25 = .ok (.getfield 12, 3) := by decide +kernel
theorem s_AW_walk_19 : aw_VS y_AW_walk 19 [o_ald 0, o_getA 0 3, o_ald 3, o_ald 0, o_getA 0 0] 28 := .cons (v_aload_n (i := 0) d_AW_walk_19 rfl) (.cons (v_getA (k := 3) k_AW (by decide) rfl (Or.inl w_493) d_AW_walk_20) (.cons (v_aload_n (i := 3) d_AW_walk_23 rfl) (.cons (v_aload_n (i := 0) d_AW_walk_24 rfl) (.cons (v_getA (k := 0) k_AW (by decide) rfl (Or.inl w_490) d_AW_walk_25) .nil))))
theorem d_AW_walk_28 : decode y_AW_walk.2.1 28 = .ok (.invokevirtual 139, 3) := by decide +kernel
theorem b_AW_walk_14 {X : aw_X} {d : Nat} {Q : Option Value → aw_H → Prop} {I : Nat → Nat → Int32} {L : Nat → Nat → Int64} {D : Nat → Nat} {v2 : Int32} {c3 : Nat} {s0 : Int32}
    (h1 : ¬ s0 = 0 → aw_m X d y_Sz_rows [.ref 1] (aw_s I L D) (fun r A => aw_z X (d + 1) y_AW_walk Q 31 [some (.ref 0), none, some (.int v2), some (.ref c3), none] (r.toList ++ [.ref c3, .ref 11]) A))
    (h2 : s0 = 0 → Q (some (.int (-1 : Int32))) (aw_s I L D)) :
    aw_z X (d + 1) y_AW_walk Q 14 [some (.ref 0), none, some (.int v2), some (.ref c3), none] [.int s0] (aw_s I L D) :=
  (z_if_ne (tgt := 19) d_AW_walk_14 rfl (fun q1 => (s_AW_walk_19.go [some (.ref 0), none, some (.int v2), some (.ref c3), none] [.ref 1, .ref c3, .ref 11] (aw_s I L D) rfl (z_callV (av := []) (st := [.ref c3, .ref 11]) ok_Sz_rows (Or.inl w_877) w_878 w_879 k_Sz d_AW_walk_28 rfl (aw_lt (o := 1) rfl) rfl rfl (Nat.le_of_ble_eq_true rfl) (Nat.le_refl _) (Nat.le_refl _) (h1 q1)))) (fun q2 => (s_AW_walk_17.go [some (.ref 0), none, some (.int v2), some (.ref c3), none] [.int (-1 : Int32)] (aw_s I L D) rfl (z_iret d_AW_walk_18 rfl rfl (h2 q2)))))
theorem d_AW_walk_31 : decode y_AW_walk.2.1 31 = .ok (.invokevirtual 143, 3) := by decide +kernel
theorem b_AW_walk_31 {X : aw_X} {d : Nat} {Q : Option Value → aw_H → Prop} {I : Nat → Nat → Int32} {L : Nat → Nat → Int64} {D : Nat → Nat} {v2 : Int32} {c3 : Nat} {s2 : Int32} {t1 : Nat}
    (h1 : aw_m X d y_Wk_begin [.ref 11, .ref t1, .int s2] (aw_s I L D) (fun r A => aw_z X (d + 1) y_AW_walk Q 34 [some (.ref 0), none, some (.int v2), some (.ref c3), none] (r.toList ++ []) A)) :
    aw_z X (d + 1) y_AW_walk Q 31 [some (.ref 0), none, some (.int v2), some (.ref c3), none] [.int s2, .ref t1, .ref 11] (aw_s I L D) :=
  (z_callV (av := [.ref t1, .int s2]) (st := []) ok_Wk_begin (Or.inl w_885) w_886 w_887 k_Wk d_AW_walk_31 rfl (aw_lt (o := 11) rfl) rfl rfl (Nat.le_of_ble_eq_true rfl) (Nat.le_refl _) (Nat.le_refl _) (h1))
theorem d_AW_walk_34 : decode y_AW_walk.2.1 34 = .ok (.iconst 0, 1) := by decide +kernel
theorem d_AW_walk_35 : decode y_AW_walk.2.1 35 = .ok (.istore 4, 2) := by decide +kernel
theorem s_AW_walk_34 : aw_VS y_AW_walk 34 [o_c (.int (0 : Int32)), o_ist 4] 37 := .cons (v_iconst (v := (0 : Int32)) d_AW_walk_34 (by decide +kernel)) (.cons (v_istore d_AW_walk_35) .nil)
theorem b_AW_walk_34 {X : aw_X} {d : Nat} {Q : Option Value → aw_H → Prop} {I : Nat → Nat → Int32} {L : Nat → Nat → Int64} {D : Nat → Nat} {v2 : Int32} {c3 : Nat}
    (h1 : aw_z X (d + 1) y_AW_walk Q 37 [some (.ref 0), none, some (.int v2), some (.ref c3), some (.int (0 : Int32))] [] (aw_s I L D)) :
    aw_z X (d + 1) y_AW_walk Q 34 [some (.ref 0), none, some (.int v2), some (.ref c3), none] [] (aw_s I L D) :=
  (s_AW_walk_34.go [some (.ref 0), none, some (.int v2), some (.ref c3), some (.int (0 : Int32))] [] (aw_s I L D) rfl (h1))
theorem d_AW_walk_37 : decode y_AW_walk.2.1 37 = .ok (.iload 4, 2) := by decide +kernel
theorem d_AW_walk_39 : decode y_AW_walk.2.1 39 = .ok (.aload_n 0, 1) := by decide +kernel
theorem d_AW_walk_40 : decode y_AW_walk.2.1 40 = .ok (.getfield 12, 3) := by decide +kernel
theorem s_AW_walk_37 : aw_VS y_AW_walk 37 [o_ild 4, o_ald 0, o_getA 0 0] 43 := .cons (v_iload (i := 4) d_AW_walk_37) (.cons (v_aload_n (i := 0) d_AW_walk_39 rfl) (.cons (v_getA (k := 0) k_AW (by decide) rfl (Or.inl w_490) d_AW_walk_40) .nil))
theorem d_AW_walk_43 : decode y_AW_walk.2.1 43 = .ok (.invokevirtual 139, 3) := by decide +kernel
theorem b_AW_walk_37 {X : aw_X} {d : Nat} {Q : Option Value → aw_H → Prop} {I : Nat → Nat → Int32} {L : Nat → Nat → Int64} {D : Nat → Nat} {v2 : Int32} {c3 : Nat} {v4 : Int32}
    (h1 : aw_m X d y_Sz_rows [.ref 1] (aw_s I L D) (fun r A => aw_z X (d + 1) y_AW_walk Q 46 [some (.ref 0), none, some (.int v2), some (.ref c3), some (.int v4)] (r.toList ++ [.int v4]) A)) :
    aw_z X (d + 1) y_AW_walk Q 37 [some (.ref 0), none, some (.int v2), some (.ref c3), some (.int v4)] [] (aw_s I L D) :=
  (s_AW_walk_37.go [some (.ref 0), none, some (.int v2), some (.ref c3), some (.int v4)] [.ref 1, .int v4] (aw_s I L D) rfl (z_callV (av := []) (st := [.int v4]) ok_Sz_rows (Or.inl w_877) w_878 w_879 k_Sz d_AW_walk_43 rfl (aw_lt (o := 1) rfl) rfl rfl (Nat.le_of_ble_eq_true rfl) (Nat.le_refl _) (Nat.le_refl _) (h1)))
theorem d_AW_walk_46 : decode y_AW_walk.2.1 46 = .ok (.if_icmp .ge (33), 3) := by decide +kernel
theorem d_AW_walk_79 : decode y_AW_walk.2.1 79 = .ok (.aload_n 0, 1) := by decide +kernel
theorem d_AW_walk_80 : decode y_AW_walk.2.1 80 = .ok (.getfield 35, 3) := by decide +kernel
theorem d_AW_walk_83 : decode y_AW_walk.2.1 83 = .ok (.getfield 155, 3) := by decide +kernel
theorem s_AW_walk_79 : aw_VS y_AW_walk 79 [o_ald 0, o_getA 0 3, o_getI 4 6] 86 := .cons (v_aload_n (i := 0) d_AW_walk_79 rfl) (.cons (v_getA (k := 3) k_AW (by decide) rfl (Or.inl w_493) d_AW_walk_80) (.cons (v_getI (k := 6) k_Wk (by decide) (Or.inl rfl) (Or.inr ⟨"AllWays", w_295⟩) d_AW_walk_83) .nil))
theorem d_AW_walk_86 : decode y_AW_walk.2.1 86 = .ok (.ireturn, 1) := by decide +kernel
theorem d_AW_walk_49 : decode y_AW_walk.2.1 49 = .ok (.aload_n 0, 1) := by decide +kernel
theorem d_AW_walk_50 : decode y_AW_walk.2.1 50 = .ok (.getfield 28, 3) := by decide +kernel
theorem d_AW_walk_53 : decode y_AW_walk.2.1 53 = .ok (.aload_n 3, 1) := by decide +kernel
theorem d_AW_walk_54 : decode y_AW_walk.2.1 54 = .ok (.iload 4, 2) := by decide +kernel
theorem d_AW_walk_56 : decode y_AW_walk.2.1 56 = .ok (.iload_n 2, 1) := by decide +kernel
theorem s_AW_walk_49 : aw_VS y_AW_walk 49 [o_ald 0, o_getA 0 2, o_ald 3, o_ild 4, o_ild 2] 57 := .cons (v_aload_n (i := 0) d_AW_walk_49 rfl) (.cons (v_getA (k := 2) k_AW (by decide) rfl (Or.inl w_492) d_AW_walk_50) (.cons (v_aload_n (i := 3) d_AW_walk_53 rfl) (.cons (v_iload (i := 4) d_AW_walk_54) (.cons (v_iload_n (i := 2) d_AW_walk_56 rfl) .nil))))
theorem d_AW_walk_57 : decode y_AW_walk.2.1 57 = .ok (.invokevirtual 147, 3) := by decide +kernel
theorem b_AW_walk_46 {X : aw_X} {d : Nat} {Q : Option Value → aw_H → Prop} {I : Nat → Nat → Int32} {L : Nat → Nat → Int64} {D : Nat → Nat} {v2 : Int32} {c3 : Nat} {v4 : Int32} {s1 : Int32} {s0 : Int32}
    (h1 : s1 ≤ s0 → Q (some (.int (I 11 6))) (aw_s I L D))
    (h2 : ¬ s1 ≤ s0 → aw_m X d y_Mc_launchTraced [.ref 4, .ref c3, .int v4, .int v2] (aw_s I L D) (fun r A => aw_z X (d + 1) y_AW_walk Q 60 [some (.ref 0), none, some (.int v2), some (.ref c3), some (.int v4)] (r.toList ++ []) A)) :
    aw_z X (d + 1) y_AW_walk Q 46 [some (.ref 0), none, some (.int v2), some (.ref c3), some (.int v4)] [.int s1, .int s0] (aw_s I L D) :=
  (z_icmp_ge (tgt := 79) d_AW_walk_46 rfl (fun q1 => (s_AW_walk_79.go [some (.ref 0), none, some (.int v2), some (.ref c3), some (.int v4)] [.int (I 11 6)] (aw_s I L D) rfl (z_iret d_AW_walk_86 rfl rfl (h1 q1)))) (fun q2 => (s_AW_walk_49.go [some (.ref 0), none, some (.int v2), some (.ref c3), some (.int v4)] [.int v2, .int v4, .ref c3, .ref 4] (aw_s I L D) rfl (z_callV (av := [.ref c3, .int v4, .int v2]) (st := []) ok_Mc_launchTraced (Or.inl w_889) w_890 w_891 k_Mc d_AW_walk_57 rfl (aw_lt (o := 4) rfl) rfl rfl (Nat.le_of_ble_eq_true rfl) (Nat.le_refl _) (Nat.le_refl _) (h2 q2)))))
theorem d_AW_walk_60 : decode y_AW_walk.2.1 60 = .ok (.aload_n 0, 1) := by decide +kernel
theorem d_AW_walk_61 : decode y_AW_walk.2.1 61 = .ok (.getfield 35, 3) := by decide +kernel
theorem d_AW_walk_64 : decode y_AW_walk.2.1 64 = .ok (.iload 4, 2) := by decide +kernel
theorem d_AW_walk_66 : decode y_AW_walk.2.1 66 = .ok (.aload_n 0, 1) := by decide +kernel
theorem d_AW_walk_67 : decode y_AW_walk.2.1 67 = .ok (.getfield 28, 3) := by decide +kernel
theorem s_AW_walk_60 : aw_VS y_AW_walk 60 [o_ald 0, o_getA 0 3, o_ild 4, o_ald 0, o_getA 0 2] 70 := .cons (v_aload_n (i := 0) d_AW_walk_60 rfl) (.cons (v_getA (k := 3) k_AW (by decide) rfl (Or.inl w_493) d_AW_walk_61) (.cons (v_iload (i := 4) d_AW_walk_64) (.cons (v_aload_n (i := 0) d_AW_walk_66 rfl) (.cons (v_getA (k := 2) k_AW (by decide) rfl (Or.inl w_492) d_AW_walk_67) .nil))))
theorem d_AW_walk_70 : decode y_AW_walk.2.1 70 = .ok (.invokevirtual 151, 3) := by decide +kernel
theorem b_AW_walk_60 {X : aw_X} {d : Nat} {Q : Option Value → aw_H → Prop} {I : Nat → Nat → Int32} {L : Nat → Nat → Int64} {D : Nat → Nat} {v2 : Int32} {c3 : Nat} {v4 : Int32}
    (h1 : aw_m X d y_Wk_note [.ref 11, .int v4, .ref 4] (aw_s I L D) (fun r A => aw_z X (d + 1) y_AW_walk Q 73 [some (.ref 0), none, some (.int v2), some (.ref c3), some (.int v4)] (r.toList ++ []) A)) :
    aw_z X (d + 1) y_AW_walk Q 60 [some (.ref 0), none, some (.int v2), some (.ref c3), some (.int v4)] [] (aw_s I L D) :=
  (s_AW_walk_60.go [some (.ref 0), none, some (.int v2), some (.ref c3), some (.int v4)] [.ref 4, .int v4, .ref 11] (aw_s I L D) rfl (z_callV (av := [.int v4, .ref 4]) (st := []) ok_Wk_note (Or.inl w_991) w_992 w_993 k_Wk d_AW_walk_70 rfl (aw_lt (o := 11) rfl) rfl rfl (Nat.le_of_ble_eq_true rfl) (Nat.le_refl _) (Nat.le_refl _) (h1)))
theorem d_AW_walk_73 : decode y_AW_walk.2.1 73 = .ok (.iinc 4 (1), 3) := by decide +kernel
theorem s_AW_walk_73 : aw_VS y_AW_walk 73 [o_inc 4 (1 : Int32)] 76 := .cons (v_iinc (k0 := (1 : Int32)) d_AW_walk_73 (by decide +kernel)) .nil
theorem d_AW_walk_76 : decode y_AW_walk.2.1 76 = .ok (.goto (-39), 3) := by decide +kernel
theorem b_AW_walk_73 {X : aw_X} {d : Nat} {Q : Option Value → aw_H → Prop} {I : Nat → Nat → Int32} {L : Nat → Nat → Int64} {D : Nat → Nat} {v2 : Int32} {c3 : Nat} {v4 : Int32}
    (h1 : aw_z X (d + 1) y_AW_walk Q 37 [some (.ref 0), none, some (.int v2), some (.ref c3), some (.int (v4 + (1 : Int32)))] [] (aw_s I L D)) :
    aw_z X (d + 1) y_AW_walk Q 73 [some (.ref 0), none, some (.int v2), some (.ref c3), some (.int v4)] [] (aw_s I L D) :=
  (s_AW_walk_73.go [some (.ref 0), none, some (.int v2), some (.ref c3), some (.int (v4 + (1 : Int32)))] [] (aw_s I L D) rfl (z_goto (tgt := 37) d_AW_walk_76 rfl (h1)))
/-! AW_isFuel -/
theorem d_AW_isFuel_0 : decode y_AW_isFuel.2.1 0 = .ok (.iload_n 0, 1) := by decide +kernel
theorem d_AW_isFuel_1 : decode y_AW_isFuel.2.1 1 = .ok (.iconst 1, 1) := by decide +kernel
theorem s_AW_isFuel_0 : aw_VS y_AW_isFuel 0 [o_ild 0, o_c (.int (1 : Int32))] 2 := .cons (v_iload_n (i := 0) d_AW_isFuel_0 rfl) (.cons (v_iconst (v := (1 : Int32)) d_AW_isFuel_1 (by decide +kernel)) .nil)
theorem d_AW_isFuel_2 : decode y_AW_isFuel.2.1 2 = .ok (.if_icmp .lt (13), 3) := by decide +kernel
theorem d_AW_isFuel_15 : decode y_AW_isFuel.2.1 15 = .ok (.iconst 0, 1) := by decide +kernel
theorem s_AW_isFuel_15 : aw_VS y_AW_isFuel 15 [o_c (.int (0 : Int32))] 16 := .cons (v_iconst (v := (0 : Int32)) d_AW_isFuel_15 (by decide +kernel)) .nil
theorem d_AW_isFuel_16 : decode y_AW_isFuel.2.1 16 = .ok (.ireturn, 1) := by decide +kernel
theorem d_AW_isFuel_5 : decode y_AW_isFuel.2.1 5 = .ok (.iload_n 0, 1) := by decide +kernel
theorem d_AW_isFuel_6 : decode y_AW_isFuel.2.1 6 = .ok (.bipush 40, 2) := by decide +kernel
theorem s_AW_isFuel_5 : aw_VS y_AW_isFuel 5 [o_ild 0, o_c (.int (40 : Int32))] 8 := .cons (v_iload_n (i := 0) d_AW_isFuel_5 rfl) (.cons (v_bipush (v := (40 : Int32)) d_AW_isFuel_6 (by decide +kernel)) .nil)
theorem d_AW_isFuel_8 : decode y_AW_isFuel.2.1 8 = .ok (.if_icmp .gt (7), 3) := by decide +kernel
theorem d_AW_isFuel_11 : decode y_AW_isFuel.2.1 11 = .ok (.iconst 1, 1) := by decide +kernel
theorem s_AW_isFuel_11 : aw_VS y_AW_isFuel 11 [o_c (.int (1 : Int32))] 12 := .cons (v_iconst (v := (1 : Int32)) d_AW_isFuel_11 (by decide +kernel)) .nil
theorem d_AW_isFuel_12 : decode y_AW_isFuel.2.1 12 = .ok (.goto (4), 3) := by decide +kernel
theorem b_AW_isFuel_0 {X : aw_X} {d : Nat} {Q : Option Value → aw_H → Prop} {I : Nat → Nat → Int32} {L : Nat → Nat → Int64} {D : Nat → Nat} {v0 : Int32}
    (h1 : v0 < (1 : Int32) → Q (some (.int (0 : Int32))) (aw_s I L D))
    (h2 : ¬ v0 < (1 : Int32) → (40 : Int32) < v0 → Q (some (.int (0 : Int32))) (aw_s I L D))
    (h3 : ¬ v0 < (1 : Int32) → ¬ (40 : Int32) < v0 → Q (some (.int (1 : Int32))) (aw_s I L D)) :
    aw_z X d y_AW_isFuel Q 0 [some (.int v0)] [] (aw_s I L D) :=
  (s_AW_isFuel_0.go [some (.int v0)] [.int (1 : Int32), .int v0] (aw_s I L D) rfl (z_icmp_lt (tgt := 15) d_AW_isFuel_2 rfl (fun q1 => (s_AW_isFuel_15.go [some (.int v0)] [.int (0 : Int32)] (aw_s I L D) rfl (z_iret d_AW_isFuel_16 rfl (aw_nz (by decide +kernel)) (h1 q1)))) (fun q2 => (s_AW_isFuel_5.go [some (.int v0)] [.int (40 : Int32), .int v0] (aw_s I L D) rfl (z_icmp_gt (tgt := 15) d_AW_isFuel_8 rfl (fun q3 => (s_AW_isFuel_15.go [some (.int v0)] [.int (0 : Int32)] (aw_s I L D) rfl (z_iret d_AW_isFuel_16 rfl (aw_nz (by decide +kernel)) (h2 q2 q3)))) (fun q4 => (s_AW_isFuel_11.go [some (.int v0)] [.int (1 : Int32)] (aw_s I L D) rfl (z_goto (tgt := 16) d_AW_isFuel_12 rfl (z_iret d_AW_isFuel_16 rfl (aw_nz (by decide +kernel)) (h3 q2 q4))))))))))
/-! AW_valueAt_aII -/
theorem d_AW_valueAt_aII_0 : decode y_AW_valueAt_aII.2.1 0 = .ok (.iload_n 1, 1) := by decide +kernel
theorem s_AW_valueAt_aII_0 : aw_VS y_AW_valueAt_aII 0 [o_ild 1] 1 := .cons (v_iload_n (i := 1) d_AW_valueAt_aII_0 rfl) .nil
theorem d_AW_valueAt_aII_1 : decode y_AW_valueAt_aII.2.1 1 = .ok (.ifCond .lt (15), 3) := by decide +kernel
theorem d_AW_valueAt_aII_16 : decode y_AW_valueAt_aII.2.1 16 = .ok (.iconst 0, 1) := by decide +kernel
theorem s_AW_valueAt_aII_16 : aw_VS y_AW_valueAt_aII 16 [o_c (.int (0 : Int32))] 17 := .cons (v_iconst (v := (0 : Int32)) d_AW_valueAt_aII_16 (by decide +kernel)) .nil
theorem d_AW_valueAt_aII_17 : decode y_AW_valueAt_aII.2.1 17 = .ok (.ireturn, 1) := by decide +kernel
theorem d_AW_valueAt_aII_4 : decode y_AW_valueAt_aII.2.1 4 = .ok (.iload_n 1, 1) := by decide +kernel
theorem d_AW_valueAt_aII_5 : decode y_AW_valueAt_aII.2.1 5 = .ok (.aload_n 0, 1) := by decide +kernel
theorem d_AW_valueAt_aII_6 : decode y_AW_valueAt_aII.2.1 6 = .ok (.arraylength, 1) := by decide +kernel
theorem s_AW_valueAt_aII_4 : aw_VS y_AW_valueAt_aII 4 [o_ild 1, o_ald 0, o_alen] 7 := .cons (v_iload_n (i := 1) d_AW_valueAt_aII_4 rfl) (.cons (v_aload_n (i := 0) d_AW_valueAt_aII_5 rfl) (.cons (v_alen d_AW_valueAt_aII_6) .nil))
theorem d_AW_valueAt_aII_7 : decode y_AW_valueAt_aII.2.1 7 = .ok (.if_icmp .ge (9), 3) := by decide +kernel
theorem d_AW_valueAt_aII_10 : decode y_AW_valueAt_aII.2.1 10 = .ok (.aload_n 0, 1) := by decide +kernel
theorem d_AW_valueAt_aII_11 : decode y_AW_valueAt_aII.2.1 11 = .ok (.iload_n 1, 1) := by decide +kernel
theorem s_AW_valueAt_aII_10 : aw_VS y_AW_valueAt_aII 10 [o_ald 0, o_ild 1] 12 := .cons (v_aload_n (i := 0) d_AW_valueAt_aII_10 rfl) (.cons (v_iload_n (i := 1) d_AW_valueAt_aII_11 rfl) .nil)
theorem d_AW_valueAt_aII_12 : decode y_AW_valueAt_aII.2.1 12 = .ok (.iaload, 1) := by decide +kernel
theorem d_AW_valueAt_aII_13 : decode y_AW_valueAt_aII.2.1 13 = .ok (.goto (4), 3) := by decide +kernel
theorem b_AW_valueAt_aII_0 {X : aw_X} {d : Nat} {Q : Option Value → aw_H → Prop} {I : Nat → Nat → Int32} {L : Nat → Nat → Int64} {D : Nat → Nat} {o0 : Nat} {v1 : Int32} (ho0 : o0 ∈ aw_ta20)
    (h1 : v1 < 0 → Q (some (.int (0 : Int32))) (aw_s I L D))
    (h2 : ¬ v1 < 0 → (Int32.ofNat (aw_sh o0).2) ≤ v1 → Q (some (.int (0 : Int32))) (aw_s I L D))
    (h3 : ¬ v1 < 0 → ¬ (Int32.ofNat (aw_sh o0).2) ≤ v1 → vp_in v1 ((aw_sh o0).2))
    (h4 : ¬ v1 < 0 → ¬ (Int32.ofNat (aw_sh o0).2) ≤ v1 → Q (some (.int (I o0 v1.toNatClampNeg))) (aw_s I L D)) :
    aw_z X d y_AW_valueAt_aII Q 0 [some (.ref o0), some (.int v1)] [] (aw_s I L D) := by
  simp only [aw_ta20, List.mem_cons, List.not_mem_nil, or_false] at ho0
  rcases ho0 with rfl | rfl | rfl | rfl | rfl | rfl | rfl | rfl | rfl | rfl | rfl | rfl | rfl | rfl | rfl | rfl | rfl | rfl | rfl | rfl | rfl | rfl | rfl | rfl | rfl | rfl | rfl | rfl | rfl | rfl | rfl | rfl | rfl | rfl | rfl | rfl | rfl | rfl | rfl | rfl | rfl | rfl | rfl | rfl | rfl | rfl | rfl | rfl | rfl
  · exact (s_AW_valueAt_aII_0.go [some (.ref 3), some (.int v1)] [.int v1] (aw_s I L D) rfl (z_if_lt (tgt := 16) d_AW_valueAt_aII_1 rfl (fun q1 => (s_AW_valueAt_aII_16.go [some (.ref 3), some (.int v1)] [.int (0 : Int32)] (aw_s I L D) rfl (z_iret d_AW_valueAt_aII_17 rfl rfl (h1 q1)))) (fun q2 => (s_AW_valueAt_aII_4.go [some (.ref 3), some (.int v1)] [.int (Int32.ofNat (aw_sh 3).2), .int v1] (aw_s I L D) rfl (z_icmp_ge (tgt := 16) d_AW_valueAt_aII_7 rfl (fun q3 => (s_AW_valueAt_aII_16.go [some (.ref 3), some (.int v1)] [.int (0 : Int32)] (aw_s I L D) rfl (z_iret d_AW_valueAt_aII_17 rfl rfl (h2 q2 q3)))) (fun q4 => (s_AW_valueAt_aII_10.go [some (.ref 3), some (.int v1)] [.int v1, .ref 3] (aw_s I L D) rfl (z_iald (n := (aw_sh 3).2) rfl (aw_lt (o := 3) rfl) (h3 q2 q4) d_AW_valueAt_aII_12 (z_goto (tgt := 17) d_AW_valueAt_aII_13 rfl (z_iret d_AW_valueAt_aII_17 rfl rfl (h4 q2 q4)))))))))))
  · exact (s_AW_valueAt_aII_0.go [some (.ref 5), some (.int v1)] [.int v1] (aw_s I L D) rfl (z_if_lt (tgt := 16) d_AW_valueAt_aII_1 rfl (fun q1 => (s_AW_valueAt_aII_16.go [some (.ref 5), some (.int v1)] [.int (0 : Int32)] (aw_s I L D) rfl (z_iret d_AW_valueAt_aII_17 rfl rfl (h1 q1)))) (fun q2 => (s_AW_valueAt_aII_4.go [some (.ref 5), some (.int v1)] [.int (Int32.ofNat (aw_sh 5).2), .int v1] (aw_s I L D) rfl (z_icmp_ge (tgt := 16) d_AW_valueAt_aII_7 rfl (fun q3 => (s_AW_valueAt_aII_16.go [some (.ref 5), some (.int v1)] [.int (0 : Int32)] (aw_s I L D) rfl (z_iret d_AW_valueAt_aII_17 rfl rfl (h2 q2 q3)))) (fun q4 => (s_AW_valueAt_aII_10.go [some (.ref 5), some (.int v1)] [.int v1, .ref 5] (aw_s I L D) rfl (z_iald (n := (aw_sh 5).2) rfl (aw_lt (o := 5) rfl) (h3 q2 q4) d_AW_valueAt_aII_12 (z_goto (tgt := 17) d_AW_valueAt_aII_13 rfl (z_iret d_AW_valueAt_aII_17 rfl rfl (h4 q2 q4)))))))))))
  · exact (s_AW_valueAt_aII_0.go [some (.ref 6), some (.int v1)] [.int v1] (aw_s I L D) rfl (z_if_lt (tgt := 16) d_AW_valueAt_aII_1 rfl (fun q1 => (s_AW_valueAt_aII_16.go [some (.ref 6), some (.int v1)] [.int (0 : Int32)] (aw_s I L D) rfl (z_iret d_AW_valueAt_aII_17 rfl rfl (h1 q1)))) (fun q2 => (s_AW_valueAt_aII_4.go [some (.ref 6), some (.int v1)] [.int (Int32.ofNat (aw_sh 6).2), .int v1] (aw_s I L D) rfl (z_icmp_ge (tgt := 16) d_AW_valueAt_aII_7 rfl (fun q3 => (s_AW_valueAt_aII_16.go [some (.ref 6), some (.int v1)] [.int (0 : Int32)] (aw_s I L D) rfl (z_iret d_AW_valueAt_aII_17 rfl rfl (h2 q2 q3)))) (fun q4 => (s_AW_valueAt_aII_10.go [some (.ref 6), some (.int v1)] [.int v1, .ref 6] (aw_s I L D) rfl (z_iald (n := (aw_sh 6).2) rfl (aw_lt (o := 6) rfl) (h3 q2 q4) d_AW_valueAt_aII_12 (z_goto (tgt := 17) d_AW_valueAt_aII_13 rfl (z_iret d_AW_valueAt_aII_17 rfl rfl (h4 q2 q4)))))))))))
  · exact (s_AW_valueAt_aII_0.go [some (.ref 7), some (.int v1)] [.int v1] (aw_s I L D) rfl (z_if_lt (tgt := 16) d_AW_valueAt_aII_1 rfl (fun q1 => (s_AW_valueAt_aII_16.go [some (.ref 7), some (.int v1)] [.int (0 : Int32)] (aw_s I L D) rfl (z_iret d_AW_valueAt_aII_17 rfl rfl (h1 q1)))) (fun q2 => (s_AW_valueAt_aII_4.go [some (.ref 7), some (.int v1)] [.int (Int32.ofNat (aw_sh 7).2), .int v1] (aw_s I L D) rfl (z_icmp_ge (tgt := 16) d_AW_valueAt_aII_7 rfl (fun q3 => (s_AW_valueAt_aII_16.go [some (.ref 7), some (.int v1)] [.int (0 : Int32)] (aw_s I L D) rfl (z_iret d_AW_valueAt_aII_17 rfl rfl (h2 q2 q3)))) (fun q4 => (s_AW_valueAt_aII_10.go [some (.ref 7), some (.int v1)] [.int v1, .ref 7] (aw_s I L D) rfl (z_iald (n := (aw_sh 7).2) rfl (aw_lt (o := 7) rfl) (h3 q2 q4) d_AW_valueAt_aII_12 (z_goto (tgt := 17) d_AW_valueAt_aII_13 rfl (z_iret d_AW_valueAt_aII_17 rfl rfl (h4 q2 q4)))))))))))
  · exact (s_AW_valueAt_aII_0.go [some (.ref 8), some (.int v1)] [.int v1] (aw_s I L D) rfl (z_if_lt (tgt := 16) d_AW_valueAt_aII_1 rfl (fun q1 => (s_AW_valueAt_aII_16.go [some (.ref 8), some (.int v1)] [.int (0 : Int32)] (aw_s I L D) rfl (z_iret d_AW_valueAt_aII_17 rfl rfl (h1 q1)))) (fun q2 => (s_AW_valueAt_aII_4.go [some (.ref 8), some (.int v1)] [.int (Int32.ofNat (aw_sh 8).2), .int v1] (aw_s I L D) rfl (z_icmp_ge (tgt := 16) d_AW_valueAt_aII_7 rfl (fun q3 => (s_AW_valueAt_aII_16.go [some (.ref 8), some (.int v1)] [.int (0 : Int32)] (aw_s I L D) rfl (z_iret d_AW_valueAt_aII_17 rfl rfl (h2 q2 q3)))) (fun q4 => (s_AW_valueAt_aII_10.go [some (.ref 8), some (.int v1)] [.int v1, .ref 8] (aw_s I L D) rfl (z_iald (n := (aw_sh 8).2) rfl (aw_lt (o := 8) rfl) (h3 q2 q4) d_AW_valueAt_aII_12 (z_goto (tgt := 17) d_AW_valueAt_aII_13 rfl (z_iret d_AW_valueAt_aII_17 rfl rfl (h4 q2 q4)))))))))))
  · exact (s_AW_valueAt_aII_0.go [some (.ref 10), some (.int v1)] [.int v1] (aw_s I L D) rfl (z_if_lt (tgt := 16) d_AW_valueAt_aII_1 rfl (fun q1 => (s_AW_valueAt_aII_16.go [some (.ref 10), some (.int v1)] [.int (0 : Int32)] (aw_s I L D) rfl (z_iret d_AW_valueAt_aII_17 rfl rfl (h1 q1)))) (fun q2 => (s_AW_valueAt_aII_4.go [some (.ref 10), some (.int v1)] [.int (Int32.ofNat (aw_sh 10).2), .int v1] (aw_s I L D) rfl (z_icmp_ge (tgt := 16) d_AW_valueAt_aII_7 rfl (fun q3 => (s_AW_valueAt_aII_16.go [some (.ref 10), some (.int v1)] [.int (0 : Int32)] (aw_s I L D) rfl (z_iret d_AW_valueAt_aII_17 rfl rfl (h2 q2 q3)))) (fun q4 => (s_AW_valueAt_aII_10.go [some (.ref 10), some (.int v1)] [.int v1, .ref 10] (aw_s I L D) rfl (z_iald (n := (aw_sh 10).2) rfl (aw_lt (o := 10) rfl) (h3 q2 q4) d_AW_valueAt_aII_12 (z_goto (tgt := 17) d_AW_valueAt_aII_13 rfl (z_iret d_AW_valueAt_aII_17 rfl rfl (h4 q2 q4)))))))))))
  · exact (s_AW_valueAt_aII_0.go [some (.ref 13), some (.int v1)] [.int v1] (aw_s I L D) rfl (z_if_lt (tgt := 16) d_AW_valueAt_aII_1 rfl (fun q1 => (s_AW_valueAt_aII_16.go [some (.ref 13), some (.int v1)] [.int (0 : Int32)] (aw_s I L D) rfl (z_iret d_AW_valueAt_aII_17 rfl rfl (h1 q1)))) (fun q2 => (s_AW_valueAt_aII_4.go [some (.ref 13), some (.int v1)] [.int (Int32.ofNat (aw_sh 13).2), .int v1] (aw_s I L D) rfl (z_icmp_ge (tgt := 16) d_AW_valueAt_aII_7 rfl (fun q3 => (s_AW_valueAt_aII_16.go [some (.ref 13), some (.int v1)] [.int (0 : Int32)] (aw_s I L D) rfl (z_iret d_AW_valueAt_aII_17 rfl rfl (h2 q2 q3)))) (fun q4 => (s_AW_valueAt_aII_10.go [some (.ref 13), some (.int v1)] [.int v1, .ref 13] (aw_s I L D) rfl (z_iald (n := (aw_sh 13).2) rfl (aw_lt (o := 13) rfl) (h3 q2 q4) d_AW_valueAt_aII_12 (z_goto (tgt := 17) d_AW_valueAt_aII_13 rfl (z_iret d_AW_valueAt_aII_17 rfl rfl (h4 q2 q4)))))))))))
  · exact (s_AW_valueAt_aII_0.go [some (.ref 16), some (.int v1)] [.int v1] (aw_s I L D) rfl (z_if_lt (tgt := 16) d_AW_valueAt_aII_1 rfl (fun q1 => (s_AW_valueAt_aII_16.go [some (.ref 16), some (.int v1)] [.int (0 : Int32)] (aw_s I L D) rfl (z_iret d_AW_valueAt_aII_17 rfl rfl (h1 q1)))) (fun q2 => (s_AW_valueAt_aII_4.go [some (.ref 16), some (.int v1)] [.int (Int32.ofNat (aw_sh 16).2), .int v1] (aw_s I L D) rfl (z_icmp_ge (tgt := 16) d_AW_valueAt_aII_7 rfl (fun q3 => (s_AW_valueAt_aII_16.go [some (.ref 16), some (.int v1)] [.int (0 : Int32)] (aw_s I L D) rfl (z_iret d_AW_valueAt_aII_17 rfl rfl (h2 q2 q3)))) (fun q4 => (s_AW_valueAt_aII_10.go [some (.ref 16), some (.int v1)] [.int v1, .ref 16] (aw_s I L D) rfl (z_iald (n := (aw_sh 16).2) rfl (aw_lt (o := 16) rfl) (h3 q2 q4) d_AW_valueAt_aII_12 (z_goto (tgt := 17) d_AW_valueAt_aII_13 rfl (z_iret d_AW_valueAt_aII_17 rfl rfl (h4 q2 q4)))))))))))
  · exact (s_AW_valueAt_aII_0.go [some (.ref 17), some (.int v1)] [.int v1] (aw_s I L D) rfl (z_if_lt (tgt := 16) d_AW_valueAt_aII_1 rfl (fun q1 => (s_AW_valueAt_aII_16.go [some (.ref 17), some (.int v1)] [.int (0 : Int32)] (aw_s I L D) rfl (z_iret d_AW_valueAt_aII_17 rfl rfl (h1 q1)))) (fun q2 => (s_AW_valueAt_aII_4.go [some (.ref 17), some (.int v1)] [.int (Int32.ofNat (aw_sh 17).2), .int v1] (aw_s I L D) rfl (z_icmp_ge (tgt := 16) d_AW_valueAt_aII_7 rfl (fun q3 => (s_AW_valueAt_aII_16.go [some (.ref 17), some (.int v1)] [.int (0 : Int32)] (aw_s I L D) rfl (z_iret d_AW_valueAt_aII_17 rfl rfl (h2 q2 q3)))) (fun q4 => (s_AW_valueAt_aII_10.go [some (.ref 17), some (.int v1)] [.int v1, .ref 17] (aw_s I L D) rfl (z_iald (n := (aw_sh 17).2) rfl (aw_lt (o := 17) rfl) (h3 q2 q4) d_AW_valueAt_aII_12 (z_goto (tgt := 17) d_AW_valueAt_aII_13 rfl (z_iret d_AW_valueAt_aII_17 rfl rfl (h4 q2 q4)))))))))))
  · exact (s_AW_valueAt_aII_0.go [some (.ref 19), some (.int v1)] [.int v1] (aw_s I L D) rfl (z_if_lt (tgt := 16) d_AW_valueAt_aII_1 rfl (fun q1 => (s_AW_valueAt_aII_16.go [some (.ref 19), some (.int v1)] [.int (0 : Int32)] (aw_s I L D) rfl (z_iret d_AW_valueAt_aII_17 rfl rfl (h1 q1)))) (fun q2 => (s_AW_valueAt_aII_4.go [some (.ref 19), some (.int v1)] [.int (Int32.ofNat (aw_sh 19).2), .int v1] (aw_s I L D) rfl (z_icmp_ge (tgt := 16) d_AW_valueAt_aII_7 rfl (fun q3 => (s_AW_valueAt_aII_16.go [some (.ref 19), some (.int v1)] [.int (0 : Int32)] (aw_s I L D) rfl (z_iret d_AW_valueAt_aII_17 rfl rfl (h2 q2 q3)))) (fun q4 => (s_AW_valueAt_aII_10.go [some (.ref 19), some (.int v1)] [.int v1, .ref 19] (aw_s I L D) rfl (z_iald (n := (aw_sh 19).2) rfl (aw_lt (o := 19) rfl) (h3 q2 q4) d_AW_valueAt_aII_12 (z_goto (tgt := 17) d_AW_valueAt_aII_13 rfl (z_iret d_AW_valueAt_aII_17 rfl rfl (h4 q2 q4)))))))))))
  · exact (s_AW_valueAt_aII_0.go [some (.ref 20), some (.int v1)] [.int v1] (aw_s I L D) rfl (z_if_lt (tgt := 16) d_AW_valueAt_aII_1 rfl (fun q1 => (s_AW_valueAt_aII_16.go [some (.ref 20), some (.int v1)] [.int (0 : Int32)] (aw_s I L D) rfl (z_iret d_AW_valueAt_aII_17 rfl rfl (h1 q1)))) (fun q2 => (s_AW_valueAt_aII_4.go [some (.ref 20), some (.int v1)] [.int (Int32.ofNat (aw_sh 20).2), .int v1] (aw_s I L D) rfl (z_icmp_ge (tgt := 16) d_AW_valueAt_aII_7 rfl (fun q3 => (s_AW_valueAt_aII_16.go [some (.ref 20), some (.int v1)] [.int (0 : Int32)] (aw_s I L D) rfl (z_iret d_AW_valueAt_aII_17 rfl rfl (h2 q2 q3)))) (fun q4 => (s_AW_valueAt_aII_10.go [some (.ref 20), some (.int v1)] [.int v1, .ref 20] (aw_s I L D) rfl (z_iald (n := (aw_sh 20).2) rfl (aw_lt (o := 20) rfl) (h3 q2 q4) d_AW_valueAt_aII_12 (z_goto (tgt := 17) d_AW_valueAt_aII_13 rfl (z_iret d_AW_valueAt_aII_17 rfl rfl (h4 q2 q4)))))))))))
  · exact (s_AW_valueAt_aII_0.go [some (.ref 21), some (.int v1)] [.int v1] (aw_s I L D) rfl (z_if_lt (tgt := 16) d_AW_valueAt_aII_1 rfl (fun q1 => (s_AW_valueAt_aII_16.go [some (.ref 21), some (.int v1)] [.int (0 : Int32)] (aw_s I L D) rfl (z_iret d_AW_valueAt_aII_17 rfl rfl (h1 q1)))) (fun q2 => (s_AW_valueAt_aII_4.go [some (.ref 21), some (.int v1)] [.int (Int32.ofNat (aw_sh 21).2), .int v1] (aw_s I L D) rfl (z_icmp_ge (tgt := 16) d_AW_valueAt_aII_7 rfl (fun q3 => (s_AW_valueAt_aII_16.go [some (.ref 21), some (.int v1)] [.int (0 : Int32)] (aw_s I L D) rfl (z_iret d_AW_valueAt_aII_17 rfl rfl (h2 q2 q3)))) (fun q4 => (s_AW_valueAt_aII_10.go [some (.ref 21), some (.int v1)] [.int v1, .ref 21] (aw_s I L D) rfl (z_iald (n := (aw_sh 21).2) rfl (aw_lt (o := 21) rfl) (h3 q2 q4) d_AW_valueAt_aII_12 (z_goto (tgt := 17) d_AW_valueAt_aII_13 rfl (z_iret d_AW_valueAt_aII_17 rfl rfl (h4 q2 q4)))))))))))
  · exact (s_AW_valueAt_aII_0.go [some (.ref 22), some (.int v1)] [.int v1] (aw_s I L D) rfl (z_if_lt (tgt := 16) d_AW_valueAt_aII_1 rfl (fun q1 => (s_AW_valueAt_aII_16.go [some (.ref 22), some (.int v1)] [.int (0 : Int32)] (aw_s I L D) rfl (z_iret d_AW_valueAt_aII_17 rfl rfl (h1 q1)))) (fun q2 => (s_AW_valueAt_aII_4.go [some (.ref 22), some (.int v1)] [.int (Int32.ofNat (aw_sh 22).2), .int v1] (aw_s I L D) rfl (z_icmp_ge (tgt := 16) d_AW_valueAt_aII_7 rfl (fun q3 => (s_AW_valueAt_aII_16.go [some (.ref 22), some (.int v1)] [.int (0 : Int32)] (aw_s I L D) rfl (z_iret d_AW_valueAt_aII_17 rfl rfl (h2 q2 q3)))) (fun q4 => (s_AW_valueAt_aII_10.go [some (.ref 22), some (.int v1)] [.int v1, .ref 22] (aw_s I L D) rfl (z_iald (n := (aw_sh 22).2) rfl (aw_lt (o := 22) rfl) (h3 q2 q4) d_AW_valueAt_aII_12 (z_goto (tgt := 17) d_AW_valueAt_aII_13 rfl (z_iret d_AW_valueAt_aII_17 rfl rfl (h4 q2 q4)))))))))))
  · exact (s_AW_valueAt_aII_0.go [some (.ref 24), some (.int v1)] [.int v1] (aw_s I L D) rfl (z_if_lt (tgt := 16) d_AW_valueAt_aII_1 rfl (fun q1 => (s_AW_valueAt_aII_16.go [some (.ref 24), some (.int v1)] [.int (0 : Int32)] (aw_s I L D) rfl (z_iret d_AW_valueAt_aII_17 rfl rfl (h1 q1)))) (fun q2 => (s_AW_valueAt_aII_4.go [some (.ref 24), some (.int v1)] [.int (Int32.ofNat (aw_sh 24).2), .int v1] (aw_s I L D) rfl (z_icmp_ge (tgt := 16) d_AW_valueAt_aII_7 rfl (fun q3 => (s_AW_valueAt_aII_16.go [some (.ref 24), some (.int v1)] [.int (0 : Int32)] (aw_s I L D) rfl (z_iret d_AW_valueAt_aII_17 rfl rfl (h2 q2 q3)))) (fun q4 => (s_AW_valueAt_aII_10.go [some (.ref 24), some (.int v1)] [.int v1, .ref 24] (aw_s I L D) rfl (z_iald (n := (aw_sh 24).2) rfl (aw_lt (o := 24) rfl) (h3 q2 q4) d_AW_valueAt_aII_12 (z_goto (tgt := 17) d_AW_valueAt_aII_13 rfl (z_iret d_AW_valueAt_aII_17 rfl rfl (h4 q2 q4)))))))))))
  · exact (s_AW_valueAt_aII_0.go [some (.ref 25), some (.int v1)] [.int v1] (aw_s I L D) rfl (z_if_lt (tgt := 16) d_AW_valueAt_aII_1 rfl (fun q1 => (s_AW_valueAt_aII_16.go [some (.ref 25), some (.int v1)] [.int (0 : Int32)] (aw_s I L D) rfl (z_iret d_AW_valueAt_aII_17 rfl rfl (h1 q1)))) (fun q2 => (s_AW_valueAt_aII_4.go [some (.ref 25), some (.int v1)] [.int (Int32.ofNat (aw_sh 25).2), .int v1] (aw_s I L D) rfl (z_icmp_ge (tgt := 16) d_AW_valueAt_aII_7 rfl (fun q3 => (s_AW_valueAt_aII_16.go [some (.ref 25), some (.int v1)] [.int (0 : Int32)] (aw_s I L D) rfl (z_iret d_AW_valueAt_aII_17 rfl rfl (h2 q2 q3)))) (fun q4 => (s_AW_valueAt_aII_10.go [some (.ref 25), some (.int v1)] [.int v1, .ref 25] (aw_s I L D) rfl (z_iald (n := (aw_sh 25).2) rfl (aw_lt (o := 25) rfl) (h3 q2 q4) d_AW_valueAt_aII_12 (z_goto (tgt := 17) d_AW_valueAt_aII_13 rfl (z_iret d_AW_valueAt_aII_17 rfl rfl (h4 q2 q4)))))))))))
  · exact (s_AW_valueAt_aII_0.go [some (.ref 26), some (.int v1)] [.int v1] (aw_s I L D) rfl (z_if_lt (tgt := 16) d_AW_valueAt_aII_1 rfl (fun q1 => (s_AW_valueAt_aII_16.go [some (.ref 26), some (.int v1)] [.int (0 : Int32)] (aw_s I L D) rfl (z_iret d_AW_valueAt_aII_17 rfl rfl (h1 q1)))) (fun q2 => (s_AW_valueAt_aII_4.go [some (.ref 26), some (.int v1)] [.int (Int32.ofNat (aw_sh 26).2), .int v1] (aw_s I L D) rfl (z_icmp_ge (tgt := 16) d_AW_valueAt_aII_7 rfl (fun q3 => (s_AW_valueAt_aII_16.go [some (.ref 26), some (.int v1)] [.int (0 : Int32)] (aw_s I L D) rfl (z_iret d_AW_valueAt_aII_17 rfl rfl (h2 q2 q3)))) (fun q4 => (s_AW_valueAt_aII_10.go [some (.ref 26), some (.int v1)] [.int v1, .ref 26] (aw_s I L D) rfl (z_iald (n := (aw_sh 26).2) rfl (aw_lt (o := 26) rfl) (h3 q2 q4) d_AW_valueAt_aII_12 (z_goto (tgt := 17) d_AW_valueAt_aII_13 rfl (z_iret d_AW_valueAt_aII_17 rfl rfl (h4 q2 q4)))))))))))
  · exact (s_AW_valueAt_aII_0.go [some (.ref 27), some (.int v1)] [.int v1] (aw_s I L D) rfl (z_if_lt (tgt := 16) d_AW_valueAt_aII_1 rfl (fun q1 => (s_AW_valueAt_aII_16.go [some (.ref 27), some (.int v1)] [.int (0 : Int32)] (aw_s I L D) rfl (z_iret d_AW_valueAt_aII_17 rfl rfl (h1 q1)))) (fun q2 => (s_AW_valueAt_aII_4.go [some (.ref 27), some (.int v1)] [.int (Int32.ofNat (aw_sh 27).2), .int v1] (aw_s I L D) rfl (z_icmp_ge (tgt := 16) d_AW_valueAt_aII_7 rfl (fun q3 => (s_AW_valueAt_aII_16.go [some (.ref 27), some (.int v1)] [.int (0 : Int32)] (aw_s I L D) rfl (z_iret d_AW_valueAt_aII_17 rfl rfl (h2 q2 q3)))) (fun q4 => (s_AW_valueAt_aII_10.go [some (.ref 27), some (.int v1)] [.int v1, .ref 27] (aw_s I L D) rfl (z_iald (n := (aw_sh 27).2) rfl (aw_lt (o := 27) rfl) (h3 q2 q4) d_AW_valueAt_aII_12 (z_goto (tgt := 17) d_AW_valueAt_aII_13 rfl (z_iret d_AW_valueAt_aII_17 rfl rfl (h4 q2 q4)))))))))))
  · exact (s_AW_valueAt_aII_0.go [some (.ref 28), some (.int v1)] [.int v1] (aw_s I L D) rfl (z_if_lt (tgt := 16) d_AW_valueAt_aII_1 rfl (fun q1 => (s_AW_valueAt_aII_16.go [some (.ref 28), some (.int v1)] [.int (0 : Int32)] (aw_s I L D) rfl (z_iret d_AW_valueAt_aII_17 rfl rfl (h1 q1)))) (fun q2 => (s_AW_valueAt_aII_4.go [some (.ref 28), some (.int v1)] [.int (Int32.ofNat (aw_sh 28).2), .int v1] (aw_s I L D) rfl (z_icmp_ge (tgt := 16) d_AW_valueAt_aII_7 rfl (fun q3 => (s_AW_valueAt_aII_16.go [some (.ref 28), some (.int v1)] [.int (0 : Int32)] (aw_s I L D) rfl (z_iret d_AW_valueAt_aII_17 rfl rfl (h2 q2 q3)))) (fun q4 => (s_AW_valueAt_aII_10.go [some (.ref 28), some (.int v1)] [.int v1, .ref 28] (aw_s I L D) rfl (z_iald (n := (aw_sh 28).2) rfl (aw_lt (o := 28) rfl) (h3 q2 q4) d_AW_valueAt_aII_12 (z_goto (tgt := 17) d_AW_valueAt_aII_13 rfl (z_iret d_AW_valueAt_aII_17 rfl rfl (h4 q2 q4)))))))))))
  · exact (s_AW_valueAt_aII_0.go [some (.ref 31), some (.int v1)] [.int v1] (aw_s I L D) rfl (z_if_lt (tgt := 16) d_AW_valueAt_aII_1 rfl (fun q1 => (s_AW_valueAt_aII_16.go [some (.ref 31), some (.int v1)] [.int (0 : Int32)] (aw_s I L D) rfl (z_iret d_AW_valueAt_aII_17 rfl rfl (h1 q1)))) (fun q2 => (s_AW_valueAt_aII_4.go [some (.ref 31), some (.int v1)] [.int (Int32.ofNat (aw_sh 31).2), .int v1] (aw_s I L D) rfl (z_icmp_ge (tgt := 16) d_AW_valueAt_aII_7 rfl (fun q3 => (s_AW_valueAt_aII_16.go [some (.ref 31), some (.int v1)] [.int (0 : Int32)] (aw_s I L D) rfl (z_iret d_AW_valueAt_aII_17 rfl rfl (h2 q2 q3)))) (fun q4 => (s_AW_valueAt_aII_10.go [some (.ref 31), some (.int v1)] [.int v1, .ref 31] (aw_s I L D) rfl (z_iald (n := (aw_sh 31).2) rfl (aw_lt (o := 31) rfl) (h3 q2 q4) d_AW_valueAt_aII_12 (z_goto (tgt := 17) d_AW_valueAt_aII_13 rfl (z_iret d_AW_valueAt_aII_17 rfl rfl (h4 q2 q4)))))))))))
  · exact (s_AW_valueAt_aII_0.go [some (.ref 32), some (.int v1)] [.int v1] (aw_s I L D) rfl (z_if_lt (tgt := 16) d_AW_valueAt_aII_1 rfl (fun q1 => (s_AW_valueAt_aII_16.go [some (.ref 32), some (.int v1)] [.int (0 : Int32)] (aw_s I L D) rfl (z_iret d_AW_valueAt_aII_17 rfl rfl (h1 q1)))) (fun q2 => (s_AW_valueAt_aII_4.go [some (.ref 32), some (.int v1)] [.int (Int32.ofNat (aw_sh 32).2), .int v1] (aw_s I L D) rfl (z_icmp_ge (tgt := 16) d_AW_valueAt_aII_7 rfl (fun q3 => (s_AW_valueAt_aII_16.go [some (.ref 32), some (.int v1)] [.int (0 : Int32)] (aw_s I L D) rfl (z_iret d_AW_valueAt_aII_17 rfl rfl (h2 q2 q3)))) (fun q4 => (s_AW_valueAt_aII_10.go [some (.ref 32), some (.int v1)] [.int v1, .ref 32] (aw_s I L D) rfl (z_iald (n := (aw_sh 32).2) rfl (aw_lt (o := 32) rfl) (h3 q2 q4) d_AW_valueAt_aII_12 (z_goto (tgt := 17) d_AW_valueAt_aII_13 rfl (z_iret d_AW_valueAt_aII_17 rfl rfl (h4 q2 q4)))))))))))
  · exact (s_AW_valueAt_aII_0.go [some (.ref 33), some (.int v1)] [.int v1] (aw_s I L D) rfl (z_if_lt (tgt := 16) d_AW_valueAt_aII_1 rfl (fun q1 => (s_AW_valueAt_aII_16.go [some (.ref 33), some (.int v1)] [.int (0 : Int32)] (aw_s I L D) rfl (z_iret d_AW_valueAt_aII_17 rfl rfl (h1 q1)))) (fun q2 => (s_AW_valueAt_aII_4.go [some (.ref 33), some (.int v1)] [.int (Int32.ofNat (aw_sh 33).2), .int v1] (aw_s I L D) rfl (z_icmp_ge (tgt := 16) d_AW_valueAt_aII_7 rfl (fun q3 => (s_AW_valueAt_aII_16.go [some (.ref 33), some (.int v1)] [.int (0 : Int32)] (aw_s I L D) rfl (z_iret d_AW_valueAt_aII_17 rfl rfl (h2 q2 q3)))) (fun q4 => (s_AW_valueAt_aII_10.go [some (.ref 33), some (.int v1)] [.int v1, .ref 33] (aw_s I L D) rfl (z_iald (n := (aw_sh 33).2) rfl (aw_lt (o := 33) rfl) (h3 q2 q4) d_AW_valueAt_aII_12 (z_goto (tgt := 17) d_AW_valueAt_aII_13 rfl (z_iret d_AW_valueAt_aII_17 rfl rfl (h4 q2 q4)))))))))))
  · exact (s_AW_valueAt_aII_0.go [some (.ref 34), some (.int v1)] [.int v1] (aw_s I L D) rfl (z_if_lt (tgt := 16) d_AW_valueAt_aII_1 rfl (fun q1 => (s_AW_valueAt_aII_16.go [some (.ref 34), some (.int v1)] [.int (0 : Int32)] (aw_s I L D) rfl (z_iret d_AW_valueAt_aII_17 rfl rfl (h1 q1)))) (fun q2 => (s_AW_valueAt_aII_4.go [some (.ref 34), some (.int v1)] [.int (Int32.ofNat (aw_sh 34).2), .int v1] (aw_s I L D) rfl (z_icmp_ge (tgt := 16) d_AW_valueAt_aII_7 rfl (fun q3 => (s_AW_valueAt_aII_16.go [some (.ref 34), some (.int v1)] [.int (0 : Int32)] (aw_s I L D) rfl (z_iret d_AW_valueAt_aII_17 rfl rfl (h2 q2 q3)))) (fun q4 => (s_AW_valueAt_aII_10.go [some (.ref 34), some (.int v1)] [.int v1, .ref 34] (aw_s I L D) rfl (z_iald (n := (aw_sh 34).2) rfl (aw_lt (o := 34) rfl) (h3 q2 q4) d_AW_valueAt_aII_12 (z_goto (tgt := 17) d_AW_valueAt_aII_13 rfl (z_iret d_AW_valueAt_aII_17 rfl rfl (h4 q2 q4)))))))))))
  · exact (s_AW_valueAt_aII_0.go [some (.ref 36), some (.int v1)] [.int v1] (aw_s I L D) rfl (z_if_lt (tgt := 16) d_AW_valueAt_aII_1 rfl (fun q1 => (s_AW_valueAt_aII_16.go [some (.ref 36), some (.int v1)] [.int (0 : Int32)] (aw_s I L D) rfl (z_iret d_AW_valueAt_aII_17 rfl rfl (h1 q1)))) (fun q2 => (s_AW_valueAt_aII_4.go [some (.ref 36), some (.int v1)] [.int (Int32.ofNat (aw_sh 36).2), .int v1] (aw_s I L D) rfl (z_icmp_ge (tgt := 16) d_AW_valueAt_aII_7 rfl (fun q3 => (s_AW_valueAt_aII_16.go [some (.ref 36), some (.int v1)] [.int (0 : Int32)] (aw_s I L D) rfl (z_iret d_AW_valueAt_aII_17 rfl rfl (h2 q2 q3)))) (fun q4 => (s_AW_valueAt_aII_10.go [some (.ref 36), some (.int v1)] [.int v1, .ref 36] (aw_s I L D) rfl (z_iald (n := (aw_sh 36).2) rfl (aw_lt (o := 36) rfl) (h3 q2 q4) d_AW_valueAt_aII_12 (z_goto (tgt := 17) d_AW_valueAt_aII_13 rfl (z_iret d_AW_valueAt_aII_17 rfl rfl (h4 q2 q4)))))))))))
  · exact (s_AW_valueAt_aII_0.go [some (.ref 37), some (.int v1)] [.int v1] (aw_s I L D) rfl (z_if_lt (tgt := 16) d_AW_valueAt_aII_1 rfl (fun q1 => (s_AW_valueAt_aII_16.go [some (.ref 37), some (.int v1)] [.int (0 : Int32)] (aw_s I L D) rfl (z_iret d_AW_valueAt_aII_17 rfl rfl (h1 q1)))) (fun q2 => (s_AW_valueAt_aII_4.go [some (.ref 37), some (.int v1)] [.int (Int32.ofNat (aw_sh 37).2), .int v1] (aw_s I L D) rfl (z_icmp_ge (tgt := 16) d_AW_valueAt_aII_7 rfl (fun q3 => (s_AW_valueAt_aII_16.go [some (.ref 37), some (.int v1)] [.int (0 : Int32)] (aw_s I L D) rfl (z_iret d_AW_valueAt_aII_17 rfl rfl (h2 q2 q3)))) (fun q4 => (s_AW_valueAt_aII_10.go [some (.ref 37), some (.int v1)] [.int v1, .ref 37] (aw_s I L D) rfl (z_iald (n := (aw_sh 37).2) rfl (aw_lt (o := 37) rfl) (h3 q2 q4) d_AW_valueAt_aII_12 (z_goto (tgt := 17) d_AW_valueAt_aII_13 rfl (z_iret d_AW_valueAt_aII_17 rfl rfl (h4 q2 q4)))))))))))
  · exact (s_AW_valueAt_aII_0.go [some (.ref 38), some (.int v1)] [.int v1] (aw_s I L D) rfl (z_if_lt (tgt := 16) d_AW_valueAt_aII_1 rfl (fun q1 => (s_AW_valueAt_aII_16.go [some (.ref 38), some (.int v1)] [.int (0 : Int32)] (aw_s I L D) rfl (z_iret d_AW_valueAt_aII_17 rfl rfl (h1 q1)))) (fun q2 => (s_AW_valueAt_aII_4.go [some (.ref 38), some (.int v1)] [.int (Int32.ofNat (aw_sh 38).2), .int v1] (aw_s I L D) rfl (z_icmp_ge (tgt := 16) d_AW_valueAt_aII_7 rfl (fun q3 => (s_AW_valueAt_aII_16.go [some (.ref 38), some (.int v1)] [.int (0 : Int32)] (aw_s I L D) rfl (z_iret d_AW_valueAt_aII_17 rfl rfl (h2 q2 q3)))) (fun q4 => (s_AW_valueAt_aII_10.go [some (.ref 38), some (.int v1)] [.int v1, .ref 38] (aw_s I L D) rfl (z_iald (n := (aw_sh 38).2) rfl (aw_lt (o := 38) rfl) (h3 q2 q4) d_AW_valueAt_aII_12 (z_goto (tgt := 17) d_AW_valueAt_aII_13 rfl (z_iret d_AW_valueAt_aII_17 rfl rfl (h4 q2 q4)))))))))))
  · exact (s_AW_valueAt_aII_0.go [some (.ref 39), some (.int v1)] [.int v1] (aw_s I L D) rfl (z_if_lt (tgt := 16) d_AW_valueAt_aII_1 rfl (fun q1 => (s_AW_valueAt_aII_16.go [some (.ref 39), some (.int v1)] [.int (0 : Int32)] (aw_s I L D) rfl (z_iret d_AW_valueAt_aII_17 rfl rfl (h1 q1)))) (fun q2 => (s_AW_valueAt_aII_4.go [some (.ref 39), some (.int v1)] [.int (Int32.ofNat (aw_sh 39).2), .int v1] (aw_s I L D) rfl (z_icmp_ge (tgt := 16) d_AW_valueAt_aII_7 rfl (fun q3 => (s_AW_valueAt_aII_16.go [some (.ref 39), some (.int v1)] [.int (0 : Int32)] (aw_s I L D) rfl (z_iret d_AW_valueAt_aII_17 rfl rfl (h2 q2 q3)))) (fun q4 => (s_AW_valueAt_aII_10.go [some (.ref 39), some (.int v1)] [.int v1, .ref 39] (aw_s I L D) rfl (z_iald (n := (aw_sh 39).2) rfl (aw_lt (o := 39) rfl) (h3 q2 q4) d_AW_valueAt_aII_12 (z_goto (tgt := 17) d_AW_valueAt_aII_13 rfl (z_iret d_AW_valueAt_aII_17 rfl rfl (h4 q2 q4)))))))))))
  · exact (s_AW_valueAt_aII_0.go [some (.ref 41), some (.int v1)] [.int v1] (aw_s I L D) rfl (z_if_lt (tgt := 16) d_AW_valueAt_aII_1 rfl (fun q1 => (s_AW_valueAt_aII_16.go [some (.ref 41), some (.int v1)] [.int (0 : Int32)] (aw_s I L D) rfl (z_iret d_AW_valueAt_aII_17 rfl rfl (h1 q1)))) (fun q2 => (s_AW_valueAt_aII_4.go [some (.ref 41), some (.int v1)] [.int (Int32.ofNat (aw_sh 41).2), .int v1] (aw_s I L D) rfl (z_icmp_ge (tgt := 16) d_AW_valueAt_aII_7 rfl (fun q3 => (s_AW_valueAt_aII_16.go [some (.ref 41), some (.int v1)] [.int (0 : Int32)] (aw_s I L D) rfl (z_iret d_AW_valueAt_aII_17 rfl rfl (h2 q2 q3)))) (fun q4 => (s_AW_valueAt_aII_10.go [some (.ref 41), some (.int v1)] [.int v1, .ref 41] (aw_s I L D) rfl (z_iald (n := (aw_sh 41).2) rfl (aw_lt (o := 41) rfl) (h3 q2 q4) d_AW_valueAt_aII_12 (z_goto (tgt := 17) d_AW_valueAt_aII_13 rfl (z_iret d_AW_valueAt_aII_17 rfl rfl (h4 q2 q4)))))))))))
  · exact (s_AW_valueAt_aII_0.go [some (.ref 42), some (.int v1)] [.int v1] (aw_s I L D) rfl (z_if_lt (tgt := 16) d_AW_valueAt_aII_1 rfl (fun q1 => (s_AW_valueAt_aII_16.go [some (.ref 42), some (.int v1)] [.int (0 : Int32)] (aw_s I L D) rfl (z_iret d_AW_valueAt_aII_17 rfl rfl (h1 q1)))) (fun q2 => (s_AW_valueAt_aII_4.go [some (.ref 42), some (.int v1)] [.int (Int32.ofNat (aw_sh 42).2), .int v1] (aw_s I L D) rfl (z_icmp_ge (tgt := 16) d_AW_valueAt_aII_7 rfl (fun q3 => (s_AW_valueAt_aII_16.go [some (.ref 42), some (.int v1)] [.int (0 : Int32)] (aw_s I L D) rfl (z_iret d_AW_valueAt_aII_17 rfl rfl (h2 q2 q3)))) (fun q4 => (s_AW_valueAt_aII_10.go [some (.ref 42), some (.int v1)] [.int v1, .ref 42] (aw_s I L D) rfl (z_iald (n := (aw_sh 42).2) rfl (aw_lt (o := 42) rfl) (h3 q2 q4) d_AW_valueAt_aII_12 (z_goto (tgt := 17) d_AW_valueAt_aII_13 rfl (z_iret d_AW_valueAt_aII_17 rfl rfl (h4 q2 q4)))))))))))
  · exact (s_AW_valueAt_aII_0.go [some (.ref 43), some (.int v1)] [.int v1] (aw_s I L D) rfl (z_if_lt (tgt := 16) d_AW_valueAt_aII_1 rfl (fun q1 => (s_AW_valueAt_aII_16.go [some (.ref 43), some (.int v1)] [.int (0 : Int32)] (aw_s I L D) rfl (z_iret d_AW_valueAt_aII_17 rfl rfl (h1 q1)))) (fun q2 => (s_AW_valueAt_aII_4.go [some (.ref 43), some (.int v1)] [.int (Int32.ofNat (aw_sh 43).2), .int v1] (aw_s I L D) rfl (z_icmp_ge (tgt := 16) d_AW_valueAt_aII_7 rfl (fun q3 => (s_AW_valueAt_aII_16.go [some (.ref 43), some (.int v1)] [.int (0 : Int32)] (aw_s I L D) rfl (z_iret d_AW_valueAt_aII_17 rfl rfl (h2 q2 q3)))) (fun q4 => (s_AW_valueAt_aII_10.go [some (.ref 43), some (.int v1)] [.int v1, .ref 43] (aw_s I L D) rfl (z_iald (n := (aw_sh 43).2) rfl (aw_lt (o := 43) rfl) (h3 q2 q4) d_AW_valueAt_aII_12 (z_goto (tgt := 17) d_AW_valueAt_aII_13 rfl (z_iret d_AW_valueAt_aII_17 rfl rfl (h4 q2 q4)))))))))))
  · exact (s_AW_valueAt_aII_0.go [some (.ref 44), some (.int v1)] [.int v1] (aw_s I L D) rfl (z_if_lt (tgt := 16) d_AW_valueAt_aII_1 rfl (fun q1 => (s_AW_valueAt_aII_16.go [some (.ref 44), some (.int v1)] [.int (0 : Int32)] (aw_s I L D) rfl (z_iret d_AW_valueAt_aII_17 rfl rfl (h1 q1)))) (fun q2 => (s_AW_valueAt_aII_4.go [some (.ref 44), some (.int v1)] [.int (Int32.ofNat (aw_sh 44).2), .int v1] (aw_s I L D) rfl (z_icmp_ge (tgt := 16) d_AW_valueAt_aII_7 rfl (fun q3 => (s_AW_valueAt_aII_16.go [some (.ref 44), some (.int v1)] [.int (0 : Int32)] (aw_s I L D) rfl (z_iret d_AW_valueAt_aII_17 rfl rfl (h2 q2 q3)))) (fun q4 => (s_AW_valueAt_aII_10.go [some (.ref 44), some (.int v1)] [.int v1, .ref 44] (aw_s I L D) rfl (z_iald (n := (aw_sh 44).2) rfl (aw_lt (o := 44) rfl) (h3 q2 q4) d_AW_valueAt_aII_12 (z_goto (tgt := 17) d_AW_valueAt_aII_13 rfl (z_iret d_AW_valueAt_aII_17 rfl rfl (h4 q2 q4)))))))))))
  · exact (s_AW_valueAt_aII_0.go [some (.ref 46), some (.int v1)] [.int v1] (aw_s I L D) rfl (z_if_lt (tgt := 16) d_AW_valueAt_aII_1 rfl (fun q1 => (s_AW_valueAt_aII_16.go [some (.ref 46), some (.int v1)] [.int (0 : Int32)] (aw_s I L D) rfl (z_iret d_AW_valueAt_aII_17 rfl rfl (h1 q1)))) (fun q2 => (s_AW_valueAt_aII_4.go [some (.ref 46), some (.int v1)] [.int (Int32.ofNat (aw_sh 46).2), .int v1] (aw_s I L D) rfl (z_icmp_ge (tgt := 16) d_AW_valueAt_aII_7 rfl (fun q3 => (s_AW_valueAt_aII_16.go [some (.ref 46), some (.int v1)] [.int (0 : Int32)] (aw_s I L D) rfl (z_iret d_AW_valueAt_aII_17 rfl rfl (h2 q2 q3)))) (fun q4 => (s_AW_valueAt_aII_10.go [some (.ref 46), some (.int v1)] [.int v1, .ref 46] (aw_s I L D) rfl (z_iald (n := (aw_sh 46).2) rfl (aw_lt (o := 46) rfl) (h3 q2 q4) d_AW_valueAt_aII_12 (z_goto (tgt := 17) d_AW_valueAt_aII_13 rfl (z_iret d_AW_valueAt_aII_17 rfl rfl (h4 q2 q4)))))))))))
  · exact (s_AW_valueAt_aII_0.go [some (.ref 47), some (.int v1)] [.int v1] (aw_s I L D) rfl (z_if_lt (tgt := 16) d_AW_valueAt_aII_1 rfl (fun q1 => (s_AW_valueAt_aII_16.go [some (.ref 47), some (.int v1)] [.int (0 : Int32)] (aw_s I L D) rfl (z_iret d_AW_valueAt_aII_17 rfl rfl (h1 q1)))) (fun q2 => (s_AW_valueAt_aII_4.go [some (.ref 47), some (.int v1)] [.int (Int32.ofNat (aw_sh 47).2), .int v1] (aw_s I L D) rfl (z_icmp_ge (tgt := 16) d_AW_valueAt_aII_7 rfl (fun q3 => (s_AW_valueAt_aII_16.go [some (.ref 47), some (.int v1)] [.int (0 : Int32)] (aw_s I L D) rfl (z_iret d_AW_valueAt_aII_17 rfl rfl (h2 q2 q3)))) (fun q4 => (s_AW_valueAt_aII_10.go [some (.ref 47), some (.int v1)] [.int v1, .ref 47] (aw_s I L D) rfl (z_iald (n := (aw_sh 47).2) rfl (aw_lt (o := 47) rfl) (h3 q2 q4) d_AW_valueAt_aII_12 (z_goto (tgt := 17) d_AW_valueAt_aII_13 rfl (z_iret d_AW_valueAt_aII_17 rfl rfl (h4 q2 q4)))))))))))
  · exact (s_AW_valueAt_aII_0.go [some (.ref 48), some (.int v1)] [.int v1] (aw_s I L D) rfl (z_if_lt (tgt := 16) d_AW_valueAt_aII_1 rfl (fun q1 => (s_AW_valueAt_aII_16.go [some (.ref 48), some (.int v1)] [.int (0 : Int32)] (aw_s I L D) rfl (z_iret d_AW_valueAt_aII_17 rfl rfl (h1 q1)))) (fun q2 => (s_AW_valueAt_aII_4.go [some (.ref 48), some (.int v1)] [.int (Int32.ofNat (aw_sh 48).2), .int v1] (aw_s I L D) rfl (z_icmp_ge (tgt := 16) d_AW_valueAt_aII_7 rfl (fun q3 => (s_AW_valueAt_aII_16.go [some (.ref 48), some (.int v1)] [.int (0 : Int32)] (aw_s I L D) rfl (z_iret d_AW_valueAt_aII_17 rfl rfl (h2 q2 q3)))) (fun q4 => (s_AW_valueAt_aII_10.go [some (.ref 48), some (.int v1)] [.int v1, .ref 48] (aw_s I L D) rfl (z_iald (n := (aw_sh 48).2) rfl (aw_lt (o := 48) rfl) (h3 q2 q4) d_AW_valueAt_aII_12 (z_goto (tgt := 17) d_AW_valueAt_aII_13 rfl (z_iret d_AW_valueAt_aII_17 rfl rfl (h4 q2 q4)))))))))))
  · exact (s_AW_valueAt_aII_0.go [some (.ref 49), some (.int v1)] [.int v1] (aw_s I L D) rfl (z_if_lt (tgt := 16) d_AW_valueAt_aII_1 rfl (fun q1 => (s_AW_valueAt_aII_16.go [some (.ref 49), some (.int v1)] [.int (0 : Int32)] (aw_s I L D) rfl (z_iret d_AW_valueAt_aII_17 rfl rfl (h1 q1)))) (fun q2 => (s_AW_valueAt_aII_4.go [some (.ref 49), some (.int v1)] [.int (Int32.ofNat (aw_sh 49).2), .int v1] (aw_s I L D) rfl (z_icmp_ge (tgt := 16) d_AW_valueAt_aII_7 rfl (fun q3 => (s_AW_valueAt_aII_16.go [some (.ref 49), some (.int v1)] [.int (0 : Int32)] (aw_s I L D) rfl (z_iret d_AW_valueAt_aII_17 rfl rfl (h2 q2 q3)))) (fun q4 => (s_AW_valueAt_aII_10.go [some (.ref 49), some (.int v1)] [.int v1, .ref 49] (aw_s I L D) rfl (z_iald (n := (aw_sh 49).2) rfl (aw_lt (o := 49) rfl) (h3 q2 q4) d_AW_valueAt_aII_12 (z_goto (tgt := 17) d_AW_valueAt_aII_13 rfl (z_iret d_AW_valueAt_aII_17 rfl rfl (h4 q2 q4)))))))))))
  · exact (s_AW_valueAt_aII_0.go [some (.ref 51), some (.int v1)] [.int v1] (aw_s I L D) rfl (z_if_lt (tgt := 16) d_AW_valueAt_aII_1 rfl (fun q1 => (s_AW_valueAt_aII_16.go [some (.ref 51), some (.int v1)] [.int (0 : Int32)] (aw_s I L D) rfl (z_iret d_AW_valueAt_aII_17 rfl rfl (h1 q1)))) (fun q2 => (s_AW_valueAt_aII_4.go [some (.ref 51), some (.int v1)] [.int (Int32.ofNat (aw_sh 51).2), .int v1] (aw_s I L D) rfl (z_icmp_ge (tgt := 16) d_AW_valueAt_aII_7 rfl (fun q3 => (s_AW_valueAt_aII_16.go [some (.ref 51), some (.int v1)] [.int (0 : Int32)] (aw_s I L D) rfl (z_iret d_AW_valueAt_aII_17 rfl rfl (h2 q2 q3)))) (fun q4 => (s_AW_valueAt_aII_10.go [some (.ref 51), some (.int v1)] [.int v1, .ref 51] (aw_s I L D) rfl (z_iald (n := (aw_sh 51).2) rfl (aw_lt (o := 51) rfl) (h3 q2 q4) d_AW_valueAt_aII_12 (z_goto (tgt := 17) d_AW_valueAt_aII_13 rfl (z_iret d_AW_valueAt_aII_17 rfl rfl (h4 q2 q4)))))))))))
  · exact (s_AW_valueAt_aII_0.go [some (.ref 52), some (.int v1)] [.int v1] (aw_s I L D) rfl (z_if_lt (tgt := 16) d_AW_valueAt_aII_1 rfl (fun q1 => (s_AW_valueAt_aII_16.go [some (.ref 52), some (.int v1)] [.int (0 : Int32)] (aw_s I L D) rfl (z_iret d_AW_valueAt_aII_17 rfl rfl (h1 q1)))) (fun q2 => (s_AW_valueAt_aII_4.go [some (.ref 52), some (.int v1)] [.int (Int32.ofNat (aw_sh 52).2), .int v1] (aw_s I L D) rfl (z_icmp_ge (tgt := 16) d_AW_valueAt_aII_7 rfl (fun q3 => (s_AW_valueAt_aII_16.go [some (.ref 52), some (.int v1)] [.int (0 : Int32)] (aw_s I L D) rfl (z_iret d_AW_valueAt_aII_17 rfl rfl (h2 q2 q3)))) (fun q4 => (s_AW_valueAt_aII_10.go [some (.ref 52), some (.int v1)] [.int v1, .ref 52] (aw_s I L D) rfl (z_iald (n := (aw_sh 52).2) rfl (aw_lt (o := 52) rfl) (h3 q2 q4) d_AW_valueAt_aII_12 (z_goto (tgt := 17) d_AW_valueAt_aII_13 rfl (z_iret d_AW_valueAt_aII_17 rfl rfl (h4 q2 q4)))))))))))
  · exact (s_AW_valueAt_aII_0.go [some (.ref 53), some (.int v1)] [.int v1] (aw_s I L D) rfl (z_if_lt (tgt := 16) d_AW_valueAt_aII_1 rfl (fun q1 => (s_AW_valueAt_aII_16.go [some (.ref 53), some (.int v1)] [.int (0 : Int32)] (aw_s I L D) rfl (z_iret d_AW_valueAt_aII_17 rfl rfl (h1 q1)))) (fun q2 => (s_AW_valueAt_aII_4.go [some (.ref 53), some (.int v1)] [.int (Int32.ofNat (aw_sh 53).2), .int v1] (aw_s I L D) rfl (z_icmp_ge (tgt := 16) d_AW_valueAt_aII_7 rfl (fun q3 => (s_AW_valueAt_aII_16.go [some (.ref 53), some (.int v1)] [.int (0 : Int32)] (aw_s I L D) rfl (z_iret d_AW_valueAt_aII_17 rfl rfl (h2 q2 q3)))) (fun q4 => (s_AW_valueAt_aII_10.go [some (.ref 53), some (.int v1)] [.int v1, .ref 53] (aw_s I L D) rfl (z_iald (n := (aw_sh 53).2) rfl (aw_lt (o := 53) rfl) (h3 q2 q4) d_AW_valueAt_aII_12 (z_goto (tgt := 17) d_AW_valueAt_aII_13 rfl (z_iret d_AW_valueAt_aII_17 rfl rfl (h4 q2 q4)))))))))))
  · exact (s_AW_valueAt_aII_0.go [some (.ref 54), some (.int v1)] [.int v1] (aw_s I L D) rfl (z_if_lt (tgt := 16) d_AW_valueAt_aII_1 rfl (fun q1 => (s_AW_valueAt_aII_16.go [some (.ref 54), some (.int v1)] [.int (0 : Int32)] (aw_s I L D) rfl (z_iret d_AW_valueAt_aII_17 rfl rfl (h1 q1)))) (fun q2 => (s_AW_valueAt_aII_4.go [some (.ref 54), some (.int v1)] [.int (Int32.ofNat (aw_sh 54).2), .int v1] (aw_s I L D) rfl (z_icmp_ge (tgt := 16) d_AW_valueAt_aII_7 rfl (fun q3 => (s_AW_valueAt_aII_16.go [some (.ref 54), some (.int v1)] [.int (0 : Int32)] (aw_s I L D) rfl (z_iret d_AW_valueAt_aII_17 rfl rfl (h2 q2 q3)))) (fun q4 => (s_AW_valueAt_aII_10.go [some (.ref 54), some (.int v1)] [.int v1, .ref 54] (aw_s I L D) rfl (z_iald (n := (aw_sh 54).2) rfl (aw_lt (o := 54) rfl) (h3 q2 q4) d_AW_valueAt_aII_12 (z_goto (tgt := 17) d_AW_valueAt_aII_13 rfl (z_iret d_AW_valueAt_aII_17 rfl rfl (h4 q2 q4)))))))))))
  · exact (s_AW_valueAt_aII_0.go [some (.ref 56), some (.int v1)] [.int v1] (aw_s I L D) rfl (z_if_lt (tgt := 16) d_AW_valueAt_aII_1 rfl (fun q1 => (s_AW_valueAt_aII_16.go [some (.ref 56), some (.int v1)] [.int (0 : Int32)] (aw_s I L D) rfl (z_iret d_AW_valueAt_aII_17 rfl rfl (h1 q1)))) (fun q2 => (s_AW_valueAt_aII_4.go [some (.ref 56), some (.int v1)] [.int (Int32.ofNat (aw_sh 56).2), .int v1] (aw_s I L D) rfl (z_icmp_ge (tgt := 16) d_AW_valueAt_aII_7 rfl (fun q3 => (s_AW_valueAt_aII_16.go [some (.ref 56), some (.int v1)] [.int (0 : Int32)] (aw_s I L D) rfl (z_iret d_AW_valueAt_aII_17 rfl rfl (h2 q2 q3)))) (fun q4 => (s_AW_valueAt_aII_10.go [some (.ref 56), some (.int v1)] [.int v1, .ref 56] (aw_s I L D) rfl (z_iald (n := (aw_sh 56).2) rfl (aw_lt (o := 56) rfl) (h3 q2 q4) d_AW_valueAt_aII_12 (z_goto (tgt := 17) d_AW_valueAt_aII_13 rfl (z_iret d_AW_valueAt_aII_17 rfl rfl (h4 q2 q4)))))))))))
  · exact (s_AW_valueAt_aII_0.go [some (.ref 57), some (.int v1)] [.int v1] (aw_s I L D) rfl (z_if_lt (tgt := 16) d_AW_valueAt_aII_1 rfl (fun q1 => (s_AW_valueAt_aII_16.go [some (.ref 57), some (.int v1)] [.int (0 : Int32)] (aw_s I L D) rfl (z_iret d_AW_valueAt_aII_17 rfl rfl (h1 q1)))) (fun q2 => (s_AW_valueAt_aII_4.go [some (.ref 57), some (.int v1)] [.int (Int32.ofNat (aw_sh 57).2), .int v1] (aw_s I L D) rfl (z_icmp_ge (tgt := 16) d_AW_valueAt_aII_7 rfl (fun q3 => (s_AW_valueAt_aII_16.go [some (.ref 57), some (.int v1)] [.int (0 : Int32)] (aw_s I L D) rfl (z_iret d_AW_valueAt_aII_17 rfl rfl (h2 q2 q3)))) (fun q4 => (s_AW_valueAt_aII_10.go [some (.ref 57), some (.int v1)] [.int v1, .ref 57] (aw_s I L D) rfl (z_iald (n := (aw_sh 57).2) rfl (aw_lt (o := 57) rfl) (h3 q2 q4) d_AW_valueAt_aII_12 (z_goto (tgt := 17) d_AW_valueAt_aII_13 rfl (z_iret d_AW_valueAt_aII_17 rfl rfl (h4 q2 q4)))))))))))
  · exact (s_AW_valueAt_aII_0.go [some (.ref 58), some (.int v1)] [.int v1] (aw_s I L D) rfl (z_if_lt (tgt := 16) d_AW_valueAt_aII_1 rfl (fun q1 => (s_AW_valueAt_aII_16.go [some (.ref 58), some (.int v1)] [.int (0 : Int32)] (aw_s I L D) rfl (z_iret d_AW_valueAt_aII_17 rfl rfl (h1 q1)))) (fun q2 => (s_AW_valueAt_aII_4.go [some (.ref 58), some (.int v1)] [.int (Int32.ofNat (aw_sh 58).2), .int v1] (aw_s I L D) rfl (z_icmp_ge (tgt := 16) d_AW_valueAt_aII_7 rfl (fun q3 => (s_AW_valueAt_aII_16.go [some (.ref 58), some (.int v1)] [.int (0 : Int32)] (aw_s I L D) rfl (z_iret d_AW_valueAt_aII_17 rfl rfl (h2 q2 q3)))) (fun q4 => (s_AW_valueAt_aII_10.go [some (.ref 58), some (.int v1)] [.int v1, .ref 58] (aw_s I L D) rfl (z_iald (n := (aw_sh 58).2) rfl (aw_lt (o := 58) rfl) (h3 q2 q4) d_AW_valueAt_aII_12 (z_goto (tgt := 17) d_AW_valueAt_aII_13 rfl (z_iret d_AW_valueAt_aII_17 rfl rfl (h4 q2 q4)))))))))))
  · exact (s_AW_valueAt_aII_0.go [some (.ref 59), some (.int v1)] [.int v1] (aw_s I L D) rfl (z_if_lt (tgt := 16) d_AW_valueAt_aII_1 rfl (fun q1 => (s_AW_valueAt_aII_16.go [some (.ref 59), some (.int v1)] [.int (0 : Int32)] (aw_s I L D) rfl (z_iret d_AW_valueAt_aII_17 rfl rfl (h1 q1)))) (fun q2 => (s_AW_valueAt_aII_4.go [some (.ref 59), some (.int v1)] [.int (Int32.ofNat (aw_sh 59).2), .int v1] (aw_s I L D) rfl (z_icmp_ge (tgt := 16) d_AW_valueAt_aII_7 rfl (fun q3 => (s_AW_valueAt_aII_16.go [some (.ref 59), some (.int v1)] [.int (0 : Int32)] (aw_s I L D) rfl (z_iret d_AW_valueAt_aII_17 rfl rfl (h2 q2 q3)))) (fun q4 => (s_AW_valueAt_aII_10.go [some (.ref 59), some (.int v1)] [.int v1, .ref 59] (aw_s I L D) rfl (z_iald (n := (aw_sh 59).2) rfl (aw_lt (o := 59) rfl) (h3 q2 q4) d_AW_valueAt_aII_12 (z_goto (tgt := 17) d_AW_valueAt_aII_13 rfl (z_iret d_AW_valueAt_aII_17 rfl rfl (h4 q2 q4)))))))))))
  · exact (s_AW_valueAt_aII_0.go [some (.ref 61), some (.int v1)] [.int v1] (aw_s I L D) rfl (z_if_lt (tgt := 16) d_AW_valueAt_aII_1 rfl (fun q1 => (s_AW_valueAt_aII_16.go [some (.ref 61), some (.int v1)] [.int (0 : Int32)] (aw_s I L D) rfl (z_iret d_AW_valueAt_aII_17 rfl rfl (h1 q1)))) (fun q2 => (s_AW_valueAt_aII_4.go [some (.ref 61), some (.int v1)] [.int (Int32.ofNat (aw_sh 61).2), .int v1] (aw_s I L D) rfl (z_icmp_ge (tgt := 16) d_AW_valueAt_aII_7 rfl (fun q3 => (s_AW_valueAt_aII_16.go [some (.ref 61), some (.int v1)] [.int (0 : Int32)] (aw_s I L D) rfl (z_iret d_AW_valueAt_aII_17 rfl rfl (h2 q2 q3)))) (fun q4 => (s_AW_valueAt_aII_10.go [some (.ref 61), some (.int v1)] [.int v1, .ref 61] (aw_s I L D) rfl (z_iald (n := (aw_sh 61).2) rfl (aw_lt (o := 61) rfl) (h3 q2 q4) d_AW_valueAt_aII_12 (z_goto (tgt := 17) d_AW_valueAt_aII_13 rfl (z_iret d_AW_valueAt_aII_17 rfl rfl (h4 q2 q4)))))))))))
  · exact (s_AW_valueAt_aII_0.go [some (.ref 63), some (.int v1)] [.int v1] (aw_s I L D) rfl (z_if_lt (tgt := 16) d_AW_valueAt_aII_1 rfl (fun q1 => (s_AW_valueAt_aII_16.go [some (.ref 63), some (.int v1)] [.int (0 : Int32)] (aw_s I L D) rfl (z_iret d_AW_valueAt_aII_17 rfl rfl (h1 q1)))) (fun q2 => (s_AW_valueAt_aII_4.go [some (.ref 63), some (.int v1)] [.int (Int32.ofNat (aw_sh 63).2), .int v1] (aw_s I L D) rfl (z_icmp_ge (tgt := 16) d_AW_valueAt_aII_7 rfl (fun q3 => (s_AW_valueAt_aII_16.go [some (.ref 63), some (.int v1)] [.int (0 : Int32)] (aw_s I L D) rfl (z_iret d_AW_valueAt_aII_17 rfl rfl (h2 q2 q3)))) (fun q4 => (s_AW_valueAt_aII_10.go [some (.ref 63), some (.int v1)] [.int v1, .ref 63] (aw_s I L D) rfl (z_iald (n := (aw_sh 63).2) rfl (aw_lt (o := 63) rfl) (h3 q2 q4) d_AW_valueAt_aII_12 (z_goto (tgt := 17) d_AW_valueAt_aII_13 rfl (z_iret d_AW_valueAt_aII_17 rfl rfl (h4 q2 q4)))))))))))
  · exact (s_AW_valueAt_aII_0.go [some (.ref 64), some (.int v1)] [.int v1] (aw_s I L D) rfl (z_if_lt (tgt := 16) d_AW_valueAt_aII_1 rfl (fun q1 => (s_AW_valueAt_aII_16.go [some (.ref 64), some (.int v1)] [.int (0 : Int32)] (aw_s I L D) rfl (z_iret d_AW_valueAt_aII_17 rfl rfl (h1 q1)))) (fun q2 => (s_AW_valueAt_aII_4.go [some (.ref 64), some (.int v1)] [.int (Int32.ofNat (aw_sh 64).2), .int v1] (aw_s I L D) rfl (z_icmp_ge (tgt := 16) d_AW_valueAt_aII_7 rfl (fun q3 => (s_AW_valueAt_aII_16.go [some (.ref 64), some (.int v1)] [.int (0 : Int32)] (aw_s I L D) rfl (z_iret d_AW_valueAt_aII_17 rfl rfl (h2 q2 q3)))) (fun q4 => (s_AW_valueAt_aII_10.go [some (.ref 64), some (.int v1)] [.int v1, .ref 64] (aw_s I L D) rfl (z_iald (n := (aw_sh 64).2) rfl (aw_lt (o := 64) rfl) (h3 q2 q4) d_AW_valueAt_aII_12 (z_goto (tgt := 17) d_AW_valueAt_aII_13 rfl (z_iret d_AW_valueAt_aII_17 rfl rfl (h4 q2 q4)))))))))))
  · exact (s_AW_valueAt_aII_0.go [some (.ref 65), some (.int v1)] [.int v1] (aw_s I L D) rfl (z_if_lt (tgt := 16) d_AW_valueAt_aII_1 rfl (fun q1 => (s_AW_valueAt_aII_16.go [some (.ref 65), some (.int v1)] [.int (0 : Int32)] (aw_s I L D) rfl (z_iret d_AW_valueAt_aII_17 rfl rfl (h1 q1)))) (fun q2 => (s_AW_valueAt_aII_4.go [some (.ref 65), some (.int v1)] [.int (Int32.ofNat (aw_sh 65).2), .int v1] (aw_s I L D) rfl (z_icmp_ge (tgt := 16) d_AW_valueAt_aII_7 rfl (fun q3 => (s_AW_valueAt_aII_16.go [some (.ref 65), some (.int v1)] [.int (0 : Int32)] (aw_s I L D) rfl (z_iret d_AW_valueAt_aII_17 rfl rfl (h2 q2 q3)))) (fun q4 => (s_AW_valueAt_aII_10.go [some (.ref 65), some (.int v1)] [.int v1, .ref 65] (aw_s I L D) rfl (z_iald (n := (aw_sh 65).2) rfl (aw_lt (o := 65) rfl) (h3 q2 q4) d_AW_valueAt_aII_12 (z_goto (tgt := 17) d_AW_valueAt_aII_13 rfl (z_iret d_AW_valueAt_aII_17 rfl rfl (h4 q2 q4)))))))))))
  · exact (s_AW_valueAt_aII_0.go [some (.ref 66), some (.int v1)] [.int v1] (aw_s I L D) rfl (z_if_lt (tgt := 16) d_AW_valueAt_aII_1 rfl (fun q1 => (s_AW_valueAt_aII_16.go [some (.ref 66), some (.int v1)] [.int (0 : Int32)] (aw_s I L D) rfl (z_iret d_AW_valueAt_aII_17 rfl rfl (h1 q1)))) (fun q2 => (s_AW_valueAt_aII_4.go [some (.ref 66), some (.int v1)] [.int (Int32.ofNat (aw_sh 66).2), .int v1] (aw_s I L D) rfl (z_icmp_ge (tgt := 16) d_AW_valueAt_aII_7 rfl (fun q3 => (s_AW_valueAt_aII_16.go [some (.ref 66), some (.int v1)] [.int (0 : Int32)] (aw_s I L D) rfl (z_iret d_AW_valueAt_aII_17 rfl rfl (h2 q2 q3)))) (fun q4 => (s_AW_valueAt_aII_10.go [some (.ref 66), some (.int v1)] [.int v1, .ref 66] (aw_s I L D) rfl (z_iald (n := (aw_sh 66).2) rfl (aw_lt (o := 66) rfl) (h3 q2 q4) d_AW_valueAt_aII_12 (z_goto (tgt := 17) d_AW_valueAt_aII_13 rfl (z_iret d_AW_valueAt_aII_17 rfl rfl (h4 q2 q4)))))))))))
  · exact (s_AW_valueAt_aII_0.go [some (.ref 67), some (.int v1)] [.int v1] (aw_s I L D) rfl (z_if_lt (tgt := 16) d_AW_valueAt_aII_1 rfl (fun q1 => (s_AW_valueAt_aII_16.go [some (.ref 67), some (.int v1)] [.int (0 : Int32)] (aw_s I L D) rfl (z_iret d_AW_valueAt_aII_17 rfl rfl (h1 q1)))) (fun q2 => (s_AW_valueAt_aII_4.go [some (.ref 67), some (.int v1)] [.int (Int32.ofNat (aw_sh 67).2), .int v1] (aw_s I L D) rfl (z_icmp_ge (tgt := 16) d_AW_valueAt_aII_7 rfl (fun q3 => (s_AW_valueAt_aII_16.go [some (.ref 67), some (.int v1)] [.int (0 : Int32)] (aw_s I L D) rfl (z_iret d_AW_valueAt_aII_17 rfl rfl (h2 q2 q3)))) (fun q4 => (s_AW_valueAt_aII_10.go [some (.ref 67), some (.int v1)] [.int v1, .ref 67] (aw_s I L D) rfl (z_iald (n := (aw_sh 67).2) rfl (aw_lt (o := 67) rfl) (h3 q2 q4) d_AW_valueAt_aII_12 (z_goto (tgt := 17) d_AW_valueAt_aII_13 rfl (z_iret d_AW_valueAt_aII_17 rfl rfl (h4 q2 q4)))))))))))
  · exact (s_AW_valueAt_aII_0.go [some (.ref 68), some (.int v1)] [.int v1] (aw_s I L D) rfl (z_if_lt (tgt := 16) d_AW_valueAt_aII_1 rfl (fun q1 => (s_AW_valueAt_aII_16.go [some (.ref 68), some (.int v1)] [.int (0 : Int32)] (aw_s I L D) rfl (z_iret d_AW_valueAt_aII_17 rfl rfl (h1 q1)))) (fun q2 => (s_AW_valueAt_aII_4.go [some (.ref 68), some (.int v1)] [.int (Int32.ofNat (aw_sh 68).2), .int v1] (aw_s I L D) rfl (z_icmp_ge (tgt := 16) d_AW_valueAt_aII_7 rfl (fun q3 => (s_AW_valueAt_aII_16.go [some (.ref 68), some (.int v1)] [.int (0 : Int32)] (aw_s I L D) rfl (z_iret d_AW_valueAt_aII_17 rfl rfl (h2 q2 q3)))) (fun q4 => (s_AW_valueAt_aII_10.go [some (.ref 68), some (.int v1)] [.int v1, .ref 68] (aw_s I L D) rfl (z_iald (n := (aw_sh 68).2) rfl (aw_lt (o := 68) rfl) (h3 q2 q4) d_AW_valueAt_aII_12 (z_goto (tgt := 17) d_AW_valueAt_aII_13 rfl (z_iret d_AW_valueAt_aII_17 rfl rfl (h4 q2 q4)))))))))))
/-! AW_valueAt_aJI -/
theorem d_AW_valueAt_aJI_0 : decode y_AW_valueAt_aJI.2.1 0 = .ok (.iload_n 1, 1) := by decide +kernel
theorem s_AW_valueAt_aJI_0 : aw_VS y_AW_valueAt_aJI 0 [o_ild 1] 1 := .cons (v_iload_n (i := 1) d_AW_valueAt_aJI_0 rfl) .nil
theorem d_AW_valueAt_aJI_1 : decode y_AW_valueAt_aJI.2.1 1 = .ok (.ifCond .lt (15), 3) := by decide +kernel
theorem d_AW_valueAt_aJI_16 : decode y_AW_valueAt_aJI.2.1 16 = .ok (.lconst 0, 1) := by decide +kernel
theorem s_AW_valueAt_aJI_16 : aw_VS y_AW_valueAt_aJI 16 [o_c (.long (0 : Int64))] 17 := .cons (v_lconst (v := (0 : Int64)) d_AW_valueAt_aJI_16 (by decide +kernel)) .nil
theorem d_AW_valueAt_aJI_17 : decode y_AW_valueAt_aJI.2.1 17 = .ok (.lreturn, 1) := by decide +kernel
theorem d_AW_valueAt_aJI_4 : decode y_AW_valueAt_aJI.2.1 4 = .ok (.iload_n 1, 1) := by decide +kernel
theorem d_AW_valueAt_aJI_5 : decode y_AW_valueAt_aJI.2.1 5 = .ok (.aload_n 0, 1) := by decide +kernel
theorem d_AW_valueAt_aJI_6 : decode y_AW_valueAt_aJI.2.1 6 = .ok (.arraylength, 1) := by decide +kernel
theorem s_AW_valueAt_aJI_4 : aw_VS y_AW_valueAt_aJI 4 [o_ild 1, o_ald 0, o_alen] 7 := .cons (v_iload_n (i := 1) d_AW_valueAt_aJI_4 rfl) (.cons (v_aload_n (i := 0) d_AW_valueAt_aJI_5 rfl) (.cons (v_alen d_AW_valueAt_aJI_6) .nil))
theorem d_AW_valueAt_aJI_7 : decode y_AW_valueAt_aJI.2.1 7 = .ok (.if_icmp .ge (9), 3) := by decide +kernel
theorem d_AW_valueAt_aJI_10 : decode y_AW_valueAt_aJI.2.1 10 = .ok (.aload_n 0, 1) := by decide +kernel
theorem d_AW_valueAt_aJI_11 : decode y_AW_valueAt_aJI.2.1 11 = .ok (.iload_n 1, 1) := by decide +kernel
theorem s_AW_valueAt_aJI_10 : aw_VS y_AW_valueAt_aJI 10 [o_ald 0, o_ild 1] 12 := .cons (v_aload_n (i := 0) d_AW_valueAt_aJI_10 rfl) (.cons (v_iload_n (i := 1) d_AW_valueAt_aJI_11 rfl) .nil)
theorem d_AW_valueAt_aJI_12 : decode y_AW_valueAt_aJI.2.1 12 = .ok (.laload, 1) := by decide +kernel
theorem d_AW_valueAt_aJI_13 : decode y_AW_valueAt_aJI.2.1 13 = .ok (.goto (4), 3) := by decide +kernel
theorem b_AW_valueAt_aJI_0 {X : aw_X} {d : Nat} {Q : Option Value → aw_H → Prop} {I : Nat → Nat → Int32} {L : Nat → Nat → Int64} {D : Nat → Nat} {o0 : Nat} {v1 : Int32} (ho0 : o0 ∈ aw_ta21)
    (h1 : v1 < 0 → Q (some (.long (0 : Int64))) (aw_s I L D))
    (h2 : ¬ v1 < 0 → (Int32.ofNat (aw_sh o0).2) ≤ v1 → Q (some (.long (0 : Int64))) (aw_s I L D))
    (h3 : ¬ v1 < 0 → ¬ (Int32.ofNat (aw_sh o0).2) ≤ v1 → vp_in v1 ((aw_sh o0).2))
    (h4 : ¬ v1 < 0 → ¬ (Int32.ofNat (aw_sh o0).2) ≤ v1 → Q (some (.long (L o0 v1.toNatClampNeg))) (aw_s I L D)) :
    aw_z X d y_AW_valueAt_aJI Q 0 [some (.ref o0), some (.int v1)] [] (aw_s I L D) := by
  simp only [aw_ta21, List.mem_cons, List.not_mem_nil, or_false] at ho0
  rcases ho0 with rfl | rfl | rfl | rfl | rfl
  · exact (s_AW_valueAt_aJI_0.go [some (.ref 9), some (.int v1)] [.int v1] (aw_s I L D) rfl (z_if_lt (tgt := 16) d_AW_valueAt_aJI_1 rfl (fun q1 => (s_AW_valueAt_aJI_16.go [some (.ref 9), some (.int v1)] [.long (0 : Int64)] (aw_s I L D) rfl (z_lret d_AW_valueAt_aJI_17 rfl (h1 q1)))) (fun q2 => (s_AW_valueAt_aJI_4.go [some (.ref 9), some (.int v1)] [.int (Int32.ofNat (aw_sh 9).2), .int v1] (aw_s I L D) rfl (z_icmp_ge (tgt := 16) d_AW_valueAt_aJI_7 rfl (fun q3 => (s_AW_valueAt_aJI_16.go [some (.ref 9), some (.int v1)] [.long (0 : Int64)] (aw_s I L D) rfl (z_lret d_AW_valueAt_aJI_17 rfl (h2 q2 q3)))) (fun q4 => (s_AW_valueAt_aJI_10.go [some (.ref 9), some (.int v1)] [.int v1, .ref 9] (aw_s I L D) rfl (z_lald (n := (aw_sh 9).2) rfl (aw_lt (o := 9) rfl) (h3 q2 q4) d_AW_valueAt_aJI_12 (z_goto (tgt := 17) d_AW_valueAt_aJI_13 rfl (z_lret d_AW_valueAt_aJI_17 rfl (h4 q2 q4)))))))))))
  · exact (s_AW_valueAt_aJI_0.go [some (.ref 12), some (.int v1)] [.int v1] (aw_s I L D) rfl (z_if_lt (tgt := 16) d_AW_valueAt_aJI_1 rfl (fun q1 => (s_AW_valueAt_aJI_16.go [some (.ref 12), some (.int v1)] [.long (0 : Int64)] (aw_s I L D) rfl (z_lret d_AW_valueAt_aJI_17 rfl (h1 q1)))) (fun q2 => (s_AW_valueAt_aJI_4.go [some (.ref 12), some (.int v1)] [.int (Int32.ofNat (aw_sh 12).2), .int v1] (aw_s I L D) rfl (z_icmp_ge (tgt := 16) d_AW_valueAt_aJI_7 rfl (fun q3 => (s_AW_valueAt_aJI_16.go [some (.ref 12), some (.int v1)] [.long (0 : Int64)] (aw_s I L D) rfl (z_lret d_AW_valueAt_aJI_17 rfl (h2 q2 q3)))) (fun q4 => (s_AW_valueAt_aJI_10.go [some (.ref 12), some (.int v1)] [.int v1, .ref 12] (aw_s I L D) rfl (z_lald (n := (aw_sh 12).2) rfl (aw_lt (o := 12) rfl) (h3 q2 q4) d_AW_valueAt_aJI_12 (z_goto (tgt := 17) d_AW_valueAt_aJI_13 rfl (z_lret d_AW_valueAt_aJI_17 rfl (h4 q2 q4)))))))))))
  · exact (s_AW_valueAt_aJI_0.go [some (.ref 14), some (.int v1)] [.int v1] (aw_s I L D) rfl (z_if_lt (tgt := 16) d_AW_valueAt_aJI_1 rfl (fun q1 => (s_AW_valueAt_aJI_16.go [some (.ref 14), some (.int v1)] [.long (0 : Int64)] (aw_s I L D) rfl (z_lret d_AW_valueAt_aJI_17 rfl (h1 q1)))) (fun q2 => (s_AW_valueAt_aJI_4.go [some (.ref 14), some (.int v1)] [.int (Int32.ofNat (aw_sh 14).2), .int v1] (aw_s I L D) rfl (z_icmp_ge (tgt := 16) d_AW_valueAt_aJI_7 rfl (fun q3 => (s_AW_valueAt_aJI_16.go [some (.ref 14), some (.int v1)] [.long (0 : Int64)] (aw_s I L D) rfl (z_lret d_AW_valueAt_aJI_17 rfl (h2 q2 q3)))) (fun q4 => (s_AW_valueAt_aJI_10.go [some (.ref 14), some (.int v1)] [.int v1, .ref 14] (aw_s I L D) rfl (z_lald (n := (aw_sh 14).2) rfl (aw_lt (o := 14) rfl) (h3 q2 q4) d_AW_valueAt_aJI_12 (z_goto (tgt := 17) d_AW_valueAt_aJI_13 rfl (z_lret d_AW_valueAt_aJI_17 rfl (h4 q2 q4)))))))))))
  · exact (s_AW_valueAt_aJI_0.go [some (.ref 15), some (.int v1)] [.int v1] (aw_s I L D) rfl (z_if_lt (tgt := 16) d_AW_valueAt_aJI_1 rfl (fun q1 => (s_AW_valueAt_aJI_16.go [some (.ref 15), some (.int v1)] [.long (0 : Int64)] (aw_s I L D) rfl (z_lret d_AW_valueAt_aJI_17 rfl (h1 q1)))) (fun q2 => (s_AW_valueAt_aJI_4.go [some (.ref 15), some (.int v1)] [.int (Int32.ofNat (aw_sh 15).2), .int v1] (aw_s I L D) rfl (z_icmp_ge (tgt := 16) d_AW_valueAt_aJI_7 rfl (fun q3 => (s_AW_valueAt_aJI_16.go [some (.ref 15), some (.int v1)] [.long (0 : Int64)] (aw_s I L D) rfl (z_lret d_AW_valueAt_aJI_17 rfl (h2 q2 q3)))) (fun q4 => (s_AW_valueAt_aJI_10.go [some (.ref 15), some (.int v1)] [.int v1, .ref 15] (aw_s I L D) rfl (z_lald (n := (aw_sh 15).2) rfl (aw_lt (o := 15) rfl) (h3 q2 q4) d_AW_valueAt_aJI_12 (z_goto (tgt := 17) d_AW_valueAt_aJI_13 rfl (z_lret d_AW_valueAt_aJI_17 rfl (h4 q2 q4)))))))))))
  · exact (s_AW_valueAt_aJI_0.go [some (.ref 18), some (.int v1)] [.int v1] (aw_s I L D) rfl (z_if_lt (tgt := 16) d_AW_valueAt_aJI_1 rfl (fun q1 => (s_AW_valueAt_aJI_16.go [some (.ref 18), some (.int v1)] [.long (0 : Int64)] (aw_s I L D) rfl (z_lret d_AW_valueAt_aJI_17 rfl (h1 q1)))) (fun q2 => (s_AW_valueAt_aJI_4.go [some (.ref 18), some (.int v1)] [.int (Int32.ofNat (aw_sh 18).2), .int v1] (aw_s I L D) rfl (z_icmp_ge (tgt := 16) d_AW_valueAt_aJI_7 rfl (fun q3 => (s_AW_valueAt_aJI_16.go [some (.ref 18), some (.int v1)] [.long (0 : Int64)] (aw_s I L D) rfl (z_lret d_AW_valueAt_aJI_17 rfl (h2 q2 q3)))) (fun q4 => (s_AW_valueAt_aJI_10.go [some (.ref 18), some (.int v1)] [.int v1, .ref 18] (aw_s I L D) rfl (z_lald (n := (aw_sh 18).2) rfl (aw_lt (o := 18) rfl) (h3 q2 q4) d_AW_valueAt_aJI_12 (z_goto (tgt := 17) d_AW_valueAt_aJI_13 rfl (z_lret d_AW_valueAt_aJI_17 rfl (h4 q2 q4)))))))))))
/-! AW_relationOf -/
theorem d_AW_relationOf_0 : decode y_AW_relationOf.2.1 0 = .ok (.lload_n 0, 1) := by decide +kernel
theorem d_AW_relationOf_1 : decode y_AW_relationOf.2.1 1 = .ok (.lload_n 2, 1) := by decide +kernel
theorem d_AW_relationOf_2 : decode y_AW_relationOf.2.1 2 = .ok (.lcmp, 1) := by decide +kernel
theorem s_AW_relationOf_0 : aw_VS y_AW_relationOf 0 [o_lld 0, o_lld 2, o_lc] 3 := .cons (v_lload_n (i := 0) d_AW_relationOf_0 rfl) (.cons (v_lload_n (i := 2) d_AW_relationOf_1 rfl) (.cons (v_lcmp d_AW_relationOf_2) .nil))
theorem d_AW_relationOf_3 : decode y_AW_relationOf.2.1 3 = .ok (.ifCond .ge (5), 3) := by decide +kernel
theorem d_AW_relationOf_8 : decode y_AW_relationOf.2.1 8 = .ok (.lload_n 0, 1) := by decide +kernel
theorem d_AW_relationOf_9 : decode y_AW_relationOf.2.1 9 = .ok (.lload_n 2, 1) := by decide +kernel
theorem d_AW_relationOf_10 : decode y_AW_relationOf.2.1 10 = .ok (.lcmp, 1) := by decide +kernel
theorem s_AW_relationOf_8 : aw_VS y_AW_relationOf 8 [o_lld 0, o_lld 2, o_lc] 11 := .cons (v_lload_n (i := 0) d_AW_relationOf_8 rfl) (.cons (v_lload_n (i := 2) d_AW_relationOf_9 rfl) (.cons (v_lcmp d_AW_relationOf_10) .nil))
theorem d_AW_relationOf_11 : decode y_AW_relationOf.2.1 11 = .ok (.ifCond .ne (7), 3) := by decide +kernel
theorem d_AW_relationOf_18 : decode y_AW_relationOf.2.1 18 = .ok (.iconst 4, 1) := by decide +kernel
theorem s_AW_relationOf_18 : aw_VS y_AW_relationOf 18 [o_c (.int (4 : Int32))] 19 := .cons (v_iconst (v := (4 : Int32)) d_AW_relationOf_18 (by decide +kernel)) .nil
theorem d_AW_relationOf_19 : decode y_AW_relationOf.2.1 19 = .ok (.ireturn, 1) := by decide +kernel
theorem d_AW_relationOf_14 : decode y_AW_relationOf.2.1 14 = .ok (.iconst 2, 1) := by decide +kernel
theorem s_AW_relationOf_14 : aw_VS y_AW_relationOf 14 [o_c (.int (2 : Int32))] 15 := .cons (v_iconst (v := (2 : Int32)) d_AW_relationOf_14 (by decide +kernel)) .nil
theorem d_AW_relationOf_15 : decode y_AW_relationOf.2.1 15 = .ok (.goto (4), 3) := by decide +kernel
theorem d_AW_relationOf_6 : decode y_AW_relationOf.2.1 6 = .ok (.iconst 1, 1) := by decide +kernel
theorem s_AW_relationOf_6 : aw_VS y_AW_relationOf 6 [o_c (.int (1 : Int32))] 7 := .cons (v_iconst (v := (1 : Int32)) d_AW_relationOf_6 (by decide +kernel)) .nil
theorem d_AW_relationOf_7 : decode y_AW_relationOf.2.1 7 = .ok (.ireturn, 1) := by decide +kernel
theorem b_AW_relationOf_0 {X : aw_X} {d : Nat} {Q : Option Value → aw_H → Prop} {I : Nat → Nat → Int32} {L : Nat → Nat → Int64} {D : Nat → Nat} {v0 : Int64} {v2 : Int64}
    (h1 : 0 ≤ (lg_cmp v0 v2) → ¬ (lg_cmp v0 v2) = 0 → Q (some (.int (4 : Int32))) (aw_s I L D))
    (h2 : 0 ≤ (lg_cmp v0 v2) → (lg_cmp v0 v2) = 0 → Q (some (.int (2 : Int32))) (aw_s I L D))
    (h3 : ¬ 0 ≤ (lg_cmp v0 v2) → Q (some (.int (1 : Int32))) (aw_s I L D)) :
    aw_z X d y_AW_relationOf Q 0 [some (.long v0), none, some (.long v2), none] [] (aw_s I L D) :=
  (s_AW_relationOf_0.go [some (.long v0), none, some (.long v2), none] [.int (lg_cmp v0 v2)] (aw_s I L D) rfl (z_if_ge (tgt := 8) d_AW_relationOf_3 rfl (fun q1 => (s_AW_relationOf_8.go [some (.long v0), none, some (.long v2), none] [.int (lg_cmp v0 v2)] (aw_s I L D) rfl (z_if_ne (tgt := 18) d_AW_relationOf_11 rfl (fun q3 => (s_AW_relationOf_18.go [some (.long v0), none, some (.long v2), none] [.int (4 : Int32)] (aw_s I L D) rfl (z_iret d_AW_relationOf_19 rfl rfl (h1 q1 q3)))) (fun q4 => (s_AW_relationOf_14.go [some (.long v0), none, some (.long v2), none] [.int (2 : Int32)] (aw_s I L D) rfl (z_goto (tgt := 19) d_AW_relationOf_15 rfl (z_iret d_AW_relationOf_19 rfl rfl (h2 q1 q4)))))))) (fun q2 => (s_AW_relationOf_6.go [some (.long v0), none, some (.long v2), none] [.int (1 : Int32)] (aw_s I L D) rfl (z_iret d_AW_relationOf_7 rfl rfl (h3 q2))))))
/-! AW_went -/
theorem d_AW_went_0 : decode y_AW_went.2.1 0 = .ok (.aload_n 0, 1) := by decide +kernel
theorem d_AW_went_1 : decode y_AW_went.2.1 1 = .ok (.getfield 35, 3) := by decide +kernel
theorem d_AW_went_4 : decode y_AW_went.2.1 4 = .ok (.iload_n 1, 1) := by decide +kernel
theorem d_AW_went_5 : decode y_AW_went.2.1 5 = .ok (.iload_n 2, 1) := by decide +kernel
theorem s_AW_went_0 : aw_VS y_AW_went 0 [o_ald 0, o_getA 0 3, o_ild 1, o_ild 2] 6 := .cons (v_aload_n (i := 0) d_AW_went_0 rfl) (.cons (v_getA (k := 3) k_AW (by decide) rfl (Or.inl w_493) d_AW_went_1) (.cons (v_iload_n (i := 1) d_AW_went_4 rfl) (.cons (v_iload_n (i := 2) d_AW_went_5 rfl) .nil)))
theorem d_AW_went_6 : decode y_AW_went.2.1 6 = .ok (.invokevirtual 172, 3) := by decide +kernel
theorem b_AW_went_0 {X : aw_X} {d : Nat} {Q : Option Value → aw_H → Prop} {I : Nat → Nat → Int32} {L : Nat → Nat → Int64} {D : Nat → Nat} {v1 : Int32} {v2 : Int32}
    (h1 : aw_m X d y_Wk_decision [.ref 11, .int v1, .int v2] (aw_s I L D) (fun r A => aw_z X (d + 1) y_AW_went Q 9 [none, none, none] (r.toList ++ []) A)) :
    aw_z X (d + 1) y_AW_went Q 0 [some (.ref 0), some (.int v1), some (.int v2)] [] (aw_s I L D) :=
  (s_AW_went_0.go [some (.ref 0), some (.int v1), some (.int v2)] [.int v2, .int v1, .ref 11] (aw_s I L D) rfl (z_callV (av := [.int v1, .int v2]) (st := []) ok_Wk_decision (Or.inl w_1039) w_1040 w_1041 k_Wk d_AW_went_6 rfl (aw_lt (o := 11) rfl) rfl rfl (Nat.le_of_ble_eq_true rfl) (Nat.le_refl _) (Nat.le_refl _) (aw_C.mono (h1) (fun _ _ zz => aw_Z.weak (ls' := [none, none, none]) zz (Nat.le_of_ble_eq_true rfl) ⟨Or.inl rfl, ⟨Or.inl rfl, ⟨Or.inl rfl, trivial⟩⟩⟩))))
theorem d_AW_went_9 : decode y_AW_went.2.1 9 = .ok (.ireturn, 1) := by decide +kernel
theorem b_AW_went_9 {X : aw_X} {d : Nat} {Q : Option Value → aw_H → Prop} {I : Nat → Nat → Int32} {L : Nat → Nat → Int64} {D : Nat → Nat} {s0 : Int32}
    (h1 : Q (some (.int s0)) (aw_s I L D)) :
    aw_z X (d + 1) y_AW_went Q 9 [none, none, none] [.int s0] (aw_s I L D) :=
  (z_iret d_AW_went_9 rfl rfl (h1))
/-! AW_along -/
theorem d_AW_along_0 : decode y_AW_along.2.1 0 = .ok (.aload_n 0, 1) := by decide +kernel
theorem d_AW_along_1 : decode y_AW_along.2.1 1 = .ok (.getfield 35, 3) := by decide +kernel
theorem d_AW_along_4 : decode y_AW_along.2.1 4 = .ok (.iload_n 1, 1) := by decide +kernel
theorem s_AW_along_0 : aw_VS y_AW_along 0 [o_ald 0, o_getA 0 3, o_ild 1] 5 := .cons (v_aload_n (i := 0) d_AW_along_0 rfl) (.cons (v_getA (k := 3) k_AW (by decide) rfl (Or.inl w_493) d_AW_along_1) (.cons (v_iload_n (i := 1) d_AW_along_4 rfl) .nil))
theorem d_AW_along_5 : decode y_AW_along.2.1 5 = .ok (.invokevirtual 175, 3) := by decide +kernel
theorem b_AW_along_0 {X : aw_X} {d : Nat} {Q : Option Value → aw_H → Prop} {I : Nat → Nat → Int32} {L : Nat → Nat → Int64} {D : Nat → Nat} {v1 : Int32}
    (h1 : aw_m X d y_Wk_isRow [.ref 11, .int v1] (aw_s I L D) (fun r A => aw_z X (d + 1) y_AW_along Q 8 [some (.ref 0), some (.int v1)] (r.toList ++ []) A)) :
    aw_z X (d + 1) y_AW_along Q 0 [some (.ref 0), some (.int v1)] [] (aw_s I L D) :=
  (s_AW_along_0.go [some (.ref 0), some (.int v1)] [.int v1, .ref 11] (aw_s I L D) rfl (z_callV (av := [.int v1]) (st := []) ok_Wk_isRow (Or.inl w_1057) w_1058 w_1059 k_Wk d_AW_along_5 rfl (aw_lt (o := 11) rfl) rfl rfl (Nat.le_of_ble_eq_true rfl) (Nat.le_refl _) (Nat.le_refl _) (h1)))
theorem d_AW_along_8 : decode y_AW_along.2.1 8 = .ok (.ifCond .eq (14), 3) := by decide +kernel
theorem d_AW_along_22 : decode y_AW_along.2.1 22 = .ok (.iconst (-1), 1) := by decide +kernel
theorem s_AW_along_22 : aw_VS y_AW_along 22 [o_c (.int (-1 : Int32))] 23 := .cons (v_iconst (v := (-1 : Int32)) d_AW_along_22 (by decide +kernel)) .nil
theorem d_AW_along_23 : decode y_AW_along.2.1 23 = .ok (.ireturn, 1) := by decide +kernel
theorem d_AW_along_11 : decode y_AW_along.2.1 11 = .ok (.aload_n 0, 1) := by decide +kernel
theorem d_AW_along_12 : decode y_AW_along.2.1 12 = .ok (.getfield 35, 3) := by decide +kernel
theorem d_AW_along_15 : decode y_AW_along.2.1 15 = .ok (.iload_n 1, 1) := by decide +kernel
theorem s_AW_along_11 : aw_VS y_AW_along 11 [o_ald 0, o_getA 0 3, o_ild 1] 16 := .cons (v_aload_n (i := 0) d_AW_along_11 rfl) (.cons (v_getA (k := 3) k_AW (by decide) rfl (Or.inl w_493) d_AW_along_12) (.cons (v_iload_n (i := 1) d_AW_along_15 rfl) .nil))
theorem d_AW_along_16 : decode y_AW_along.2.1 16 = .ok (.invokevirtual 178, 3) := by decide +kernel
theorem b_AW_along_8 {X : aw_X} {d : Nat} {Q : Option Value → aw_H → Prop} {I : Nat → Nat → Int32} {L : Nat → Nat → Int64} {D : Nat → Nat} {v1 : Int32} {s0 : Int32}
    (h1 : s0 = 0 → Q (some (.int (-1 : Int32))) (aw_s I L D))
    (h2 : ¬ s0 = 0 → aw_m X d y_Wk_wayOf [.ref 11, .int v1] (aw_s I L D) (fun r A => aw_z X (d + 1) y_AW_along Q 19 [none, none] (r.toList ++ []) A)) :
    aw_z X (d + 1) y_AW_along Q 8 [some (.ref 0), some (.int v1)] [.int s0] (aw_s I L D) :=
  (z_if_eq (tgt := 22) d_AW_along_8 rfl (fun q1 => (s_AW_along_22.go [some (.ref 0), some (.int v1)] [.int (-1 : Int32)] (aw_s I L D) rfl (z_iret d_AW_along_23 rfl rfl (h1 q1)))) (fun q2 => (s_AW_along_11.go [some (.ref 0), some (.int v1)] [.int v1, .ref 11] (aw_s I L D) rfl (z_callV (av := [.int v1]) (st := []) ok_Wk_wayOf (Or.inl w_1061) w_1062 w_1063 k_Wk d_AW_along_16 rfl (aw_lt (o := 11) rfl) rfl rfl (Nat.le_of_ble_eq_true rfl) (Nat.le_refl _) (Nat.le_refl _) (aw_C.mono (h2 q2) (fun _ _ zz => aw_Z.weak (ls' := [none, none]) zz (Nat.le_of_ble_eq_true rfl) ⟨Or.inl rfl, ⟨Or.inl rfl, trivial⟩⟩))))))
theorem d_AW_along_19 : decode y_AW_along.2.1 19 = .ok (.goto (4), 3) := by decide +kernel
theorem b_AW_along_19 {X : aw_X} {d : Nat} {Q : Option Value → aw_H → Prop} {I : Nat → Nat → Int32} {L : Nat → Nat → Int64} {D : Nat → Nat} {s0 : Int32}
    (h1 : Q (some (.int s0)) (aw_s I L D)) :
    aw_z X (d + 1) y_AW_along Q 19 [none, none] [.int s0] (aw_s I L D) :=
  (z_goto (tgt := 23) d_AW_along_19 rfl (z_iret d_AW_along_23 rfl rfl (h1)))
/-! AW_least -/
theorem d_AW_least_0 : decode y_AW_least.2.1 0 = .ok (.aload_n 0, 1) := by decide +kernel
theorem d_AW_least_1 : decode y_AW_least.2.1 1 = .ok (.getfield 35, 3) := by decide +kernel
theorem d_AW_least_4 : decode y_AW_least.2.1 4 = .ok (.iload_n 1, 1) := by decide +kernel
theorem d_AW_least_5 : decode y_AW_least.2.1 5 = .ok (.iload_n 2, 1) := by decide +kernel
theorem s_AW_least_0 : aw_VS y_AW_least 0 [o_ald 0, o_getA 0 3, o_ild 1, o_ild 2] 6 := .cons (v_aload_n (i := 0) d_AW_least_0 rfl) (.cons (v_getA (k := 3) k_AW (by decide) rfl (Or.inl w_493) d_AW_least_1) (.cons (v_iload_n (i := 1) d_AW_least_4 rfl) (.cons (v_iload_n (i := 2) d_AW_least_5 rfl) .nil)))
theorem d_AW_least_6 : decode y_AW_least.2.1 6 = .ok (.invokevirtual 182, 3) := by decide +kernel
theorem b_AW_least_0 {X : aw_X} {d : Nat} {Q : Option Value → aw_H → Prop} {I : Nat → Nat → Int32} {L : Nat → Nat → Int64} {D : Nat → Nat} {v1 : Int32} {v2 : Int32}
    (h1 : aw_m X d y_Wk_leastRow [.ref 11, .int v1, .int v2] (aw_s I L D) (fun r A => aw_z X (d + 1) y_AW_least Q 9 [none, none, none] (r.toList ++ []) A)) :
    aw_z X (d + 1) y_AW_least Q 0 [some (.ref 0), some (.int v1), some (.int v2)] [] (aw_s I L D) :=
  (s_AW_least_0.go [some (.ref 0), some (.int v1), some (.int v2)] [.int v2, .int v1, .ref 11] (aw_s I L D) rfl (z_callV (av := [.int v1, .int v2]) (st := []) ok_Wk_leastRow (Or.inl w_1069) w_1070 w_1071 k_Wk d_AW_least_6 rfl (aw_lt (o := 11) rfl) rfl rfl (Nat.le_of_ble_eq_true rfl) (Nat.le_refl _) (Nat.le_refl _) (aw_C.mono (h1) (fun _ _ zz => aw_Z.weak (ls' := [none, none, none]) zz (Nat.le_of_ble_eq_true rfl) ⟨Or.inl rfl, ⟨Or.inl rfl, ⟨Or.inl rfl, trivial⟩⟩⟩))))
theorem d_AW_least_9 : decode y_AW_least.2.1 9 = .ok (.ireturn, 1) := by decide +kernel
theorem b_AW_least_9 {X : aw_X} {d : Nat} {Q : Option Value → aw_H → Prop} {I : Nat → Nat → Int32} {L : Nat → Nat → Int64} {D : Nat → Nat} {s0 : Int32}
    (h1 : Q (some (.int s0)) (aw_s I L D)) :
    aw_z X (d + 1) y_AW_least Q 9 [none, none, none] [.int s0] (aw_s I L D) :=
  (z_iret d_AW_least_9 rfl rfl (h1))
/-! AW_may -/
theorem d_AW_may_0 : decode y_AW_may.2.1 0 = .ok (.aload_n 0, 1) := by decide +kernel
theorem d_AW_may_1 : decode y_AW_may.2.1 1 = .ok (.getfield 35, 3) := by decide +kernel
theorem d_AW_may_4 : decode y_AW_may.2.1 4 = .ok (.iload_n 1, 1) := by decide +kernel
theorem s_AW_may_0 : aw_VS y_AW_may 0 [o_ald 0, o_getA 0 3, o_ild 1] 5 := .cons (v_aload_n (i := 0) d_AW_may_0 rfl) (.cons (v_getA (k := 3) k_AW (by decide) rfl (Or.inl w_493) d_AW_may_1) (.cons (v_iload_n (i := 1) d_AW_may_4 rfl) .nil))
theorem d_AW_may_5 : decode y_AW_may.2.1 5 = .ok (.invokevirtual 185, 3) := by decide +kernel
theorem b_AW_may_0 {X : aw_X} {d : Nat} {Q : Option Value → aw_H → Prop} {I : Nat → Nat → Int32} {L : Nat → Nat → Int64} {D : Nat → Nat} {v1 : Int32} {v2 : Int32} {v3 : Int32}
    (h1 : aw_m X d y_Wk_isBegun [.ref 11, .int v1] (aw_s I L D) (fun r A => aw_z X (d + 1) y_AW_may Q 8 [some (.ref 0), some (.int v1), some (.int v2), some (.int v3), none, none] (r.toList ++ []) A)) :
    aw_z X (d + 1) y_AW_may Q 0 [some (.ref 0), some (.int v1), some (.int v2), some (.int v3), none, none] [] (aw_s I L D) :=
  (s_AW_may_0.go [some (.ref 0), some (.int v1), some (.int v2), some (.int v3), none, none] [.int v1, .ref 11] (aw_s I L D) rfl (z_callV (av := [.int v1]) (st := []) ok_Wk_isBegun (Or.inl w_1080) w_1081 w_1082 k_Wk d_AW_may_5 rfl (aw_lt (o := 11) rfl) rfl rfl (Nat.le_of_ble_eq_true rfl) (Nat.le_refl _) (Nat.le_refl _) (h1)))
theorem d_AW_may_8 : decode y_AW_may.2.1 8 = .ok (.ifCond .eq (10), 3) := by decide +kernel
theorem d_AW_may_18 : decode y_AW_may.2.1 18 = .ok (.iconst (-1), 1) := by decide +kernel
theorem s_AW_may_18 : aw_VS y_AW_may 18 [o_c (.int (-1 : Int32))] 19 := .cons (v_iconst (v := (-1 : Int32)) d_AW_may_18 (by decide +kernel)) .nil
theorem d_AW_may_19 : decode y_AW_may.2.1 19 = .ok (.ireturn, 1) := by decide +kernel
theorem d_AW_may_11 : decode y_AW_may.2.1 11 = .ok (.iload_n 2, 1) := by decide +kernel
theorem s_AW_may_11 : aw_VS y_AW_may 11 [o_ild 2] 12 := .cons (v_iload_n (i := 2) d_AW_may_11 rfl) .nil
theorem d_AW_may_12 : decode y_AW_may.2.1 12 = .ok (.invokestatic 188, 3) := by decide +kernel
theorem b_AW_may_8 {X : aw_X} {d : Nat} {Q : Option Value → aw_H → Prop} {I : Nat → Nat → Int32} {L : Nat → Nat → Int64} {D : Nat → Nat} {v1 : Int32} {v2 : Int32} {v3 : Int32} {s0 : Int32}
    (h1 : s0 = 0 → Q (some (.int (-1 : Int32))) (aw_s I L D))
    (h2 : ¬ s0 = 0 → aw_m X d y_AW_isName [.int v2] (aw_s I L D) (fun r A => aw_z X (d + 1) y_AW_may Q 15 [some (.ref 0), some (.int v1), some (.int v2), some (.int v3), none, none] (r.toList ++ []) A)) :
    aw_z X (d + 1) y_AW_may Q 8 [some (.ref 0), some (.int v1), some (.int v2), some (.int v3), none, none] [.int s0] (aw_s I L D) :=
  (z_if_eq (tgt := 18) d_AW_may_8 rfl (fun q1 => (s_AW_may_18.go [some (.ref 0), some (.int v1), some (.int v2), some (.int v3), none, none] [.int (-1 : Int32)] (aw_s I L D) rfl (z_iret d_AW_may_19 rfl rfl (h1 q1)))) (fun q2 => (s_AW_may_11.go [some (.ref 0), some (.int v1), some (.int v2), some (.int v3), none, none] [.int v2] (aw_s I L D) rfl (z_callS (av := [.int v2]) (st := []) ok_AW_isName (Or.inl w_1084) w_1085 d_AW_may_12 rfl rfl (Nat.le_of_ble_eq_true rfl) (Nat.le_refl _) (Nat.le_refl _) (h2 q2)))))
theorem d_AW_may_15 : decode y_AW_may.2.1 15 = .ok (.ifCond .ne (5), 3) := by decide +kernel
theorem d_AW_may_20 : decode y_AW_may.2.1 20 = .ok (.aload_n 0, 1) := by decide +kernel
theorem d_AW_may_21 : decode y_AW_may.2.1 21 = .ok (.getfield 35, 3) := by decide +kernel
theorem d_AW_may_24 : decode y_AW_may.2.1 24 = .ok (.iload_n 1, 1) := by decide +kernel
theorem d_AW_may_25 : decode y_AW_may.2.1 25 = .ok (.iload_n 2, 1) := by decide +kernel
theorem s_AW_may_20 : aw_VS y_AW_may 20 [o_ald 0, o_getA 0 3, o_ild 1, o_ild 2] 26 := .cons (v_aload_n (i := 0) d_AW_may_20 rfl) (.cons (v_getA (k := 3) k_AW (by decide) rfl (Or.inl w_493) d_AW_may_21) (.cons (v_iload_n (i := 1) d_AW_may_24 rfl) (.cons (v_iload_n (i := 2) d_AW_may_25 rfl) .nil)))
theorem d_AW_may_26 : decode y_AW_may.2.1 26 = .ok (.invokevirtual 191, 3) := by decide +kernel
theorem b_AW_may_15 {X : aw_X} {d : Nat} {Q : Option Value → aw_H → Prop} {I : Nat → Nat → Int32} {L : Nat → Nat → Int64} {D : Nat → Nat} {v1 : Int32} {v2 : Int32} {v3 : Int32} {s0 : Int32}
    (h1 : ¬ s0 = 0 → aw_m X d y_Wk_numbersOf [.ref 11, .int v1, .int v2] (aw_s I L D) (fun r A => aw_z X (d + 1) y_AW_may Q 29 [none, none, none, some (.int v3), none, none] (r.toList ++ []) A))
    (h2 : s0 = 0 → Q (some (.int (-1 : Int32))) (aw_s I L D)) :
    aw_z X (d + 1) y_AW_may Q 15 [some (.ref 0), some (.int v1), some (.int v2), some (.int v3), none, none] [.int s0] (aw_s I L D) :=
  (z_if_ne (tgt := 20) d_AW_may_15 rfl (fun q1 => (s_AW_may_20.go [some (.ref 0), some (.int v1), some (.int v2), some (.int v3), none, none] [.int v2, .int v1, .ref 11] (aw_s I L D) rfl (z_callV (av := [.int v1, .int v2]) (st := []) ok_Wk_numbersOf (Or.inl w_1087) w_1088 w_1089 k_Wk d_AW_may_26 rfl (aw_lt (o := 11) rfl) rfl rfl (Nat.le_of_ble_eq_true rfl) (Nat.le_refl _) (Nat.le_refl _) (aw_C.mono (h1 q1) (fun _ _ zz => aw_Z.weak (ls' := [none, none, none, some (.int v3), none, none]) zz (Nat.le_of_ble_eq_true rfl) ⟨Or.inl rfl, ⟨Or.inl rfl, ⟨Or.inl rfl, ⟨Or.inr rfl, ⟨Or.inl rfl, ⟨Or.inl rfl, trivial⟩⟩⟩⟩⟩⟩))))) (fun q2 => (s_AW_may_18.go [some (.ref 0), some (.int v1), some (.int v2), some (.int v3), none, none] [.int (-1 : Int32)] (aw_s I L D) rfl (z_iret d_AW_may_19 rfl rfl (h2 q2)))))
theorem d_AW_may_29 : decode y_AW_may.2.1 29 = .ok (.lstore 4, 2) := by decide +kernel
theorem d_AW_may_31 : decode y_AW_may.2.1 31 = .ok (.iload_n 3, 1) := by decide +kernel
theorem s_AW_may_29 : aw_VS y_AW_may 29 [o_lst 4, o_ild 3] 32 := .cons (v_lstore d_AW_may_29) (.cons (v_iload_n (i := 3) d_AW_may_31 rfl) .nil)
theorem d_AW_may_32 : decode y_AW_may.2.1 32 = .ok (.tableswitch (49) (0) (2) #[28, 34, 40], 28) := by decide +kernel
theorem d_AW_may_60 : decode y_AW_may.2.1 60 = .ok (.lload 4, 2) := by decide +kernel
theorem s_AW_may_60 : aw_VS y_AW_may 60 [o_lld 4] 62 := .cons (v_lload (i := 4) d_AW_may_60) .nil
theorem d_AW_may_62 : decode y_AW_may.2.1 62 = .ok (.invokestatic 195, 3) := by decide +kernel
theorem d_AW_may_66 : decode y_AW_may.2.1 66 = .ok (.lload 4, 2) := by decide +kernel
theorem s_AW_may_66 : aw_VS y_AW_may 66 [o_lld 4] 68 := .cons (v_lload (i := 4) d_AW_may_66) .nil
theorem d_AW_may_68 : decode y_AW_may.2.1 68 = .ok (.invokestatic 201, 3) := by decide +kernel
theorem d_AW_may_72 : decode y_AW_may.2.1 72 = .ok (.bipush 63, 2) := by decide +kernel
theorem d_AW_may_74 : decode y_AW_may.2.1 74 = .ok (.lload 4, 2) := by decide +kernel
theorem s_AW_may_72 : aw_VS y_AW_may 72 [o_c (.int (63 : Int32)), o_lld 4] 76 := .cons (v_bipush (v := (63 : Int32)) d_AW_may_72 (by decide +kernel)) (.cons (v_lload (i := 4) d_AW_may_74) .nil)
theorem d_AW_may_76 : decode y_AW_may.2.1 76 = .ok (.invokestatic 204, 3) := by decide +kernel
theorem d_AW_may_81 : decode y_AW_may.2.1 81 = .ok (.iconst (-1), 1) := by decide +kernel
theorem s_AW_may_81 : aw_VS y_AW_may 81 [o_c (.int (-1 : Int32))] 82 := .cons (v_iconst (v := (-1 : Int32)) d_AW_may_81 (by decide +kernel)) .nil
theorem d_AW_may_82 : decode y_AW_may.2.1 82 = .ok (.ireturn, 1) := by decide +kernel
theorem b_AW_may_29 {X : aw_X} {d : Nat} {Q : Option Value → aw_H → Prop} {I : Nat → Nat → Int32} {L : Nat → Nat → Int64} {D : Nat → Nat} {v3 : Int32} {s0 : Int64}
    (h1 : v3 = (0 : Int32) → aw_m X d y_JL_bitCount [.long s0] (aw_s I L D) (fun r A => aw_z X (d + 1) y_AW_may Q 65 [none, none, none, none, none, none] (r.toList ++ []) A))
    (h2 : ¬ v3 = (0 : Int32) → v3 = (1 : Int32) → aw_m X d y_JL_numberOfTrailingZeros [.long s0] (aw_s I L D) (fun r A => aw_z X (d + 1) y_AW_may Q 71 [none, none, none, none, none, none] (r.toList ++ []) A))
    (h3 : ¬ v3 = (0 : Int32) → ¬ v3 = (1 : Int32) → v3 = (2 : Int32) → aw_m X d y_JL_numberOfLeadingZeros [.long s0] (aw_s I L D) (fun r A => aw_z X (d + 1) y_AW_may Q 79 [none, none, none, none, none, none] (r.toList ++ [.int (63 : Int32)]) A))
    (h4 : ¬ v3 = (0 : Int32) → ¬ v3 = (1 : Int32) → ¬ v3 = (2 : Int32) → Q (some (.int (-1 : Int32))) (aw_s I L D)) :
    aw_z X (d + 1) y_AW_may Q 29 [none, none, none, some (.int v3), none, none] [.long s0] (aw_s I L D) :=
  (s_AW_may_29.go [none, none, none, some (.int v3), some (.long s0), none] [.int v3] (aw_s I L D) rfl (Decidable.byCases (fun q1 => z_tableIn (off := 28) (tgt := 60) d_AW_may_32 (by rw [q1]; decide +kernel) (by rw [q1]; decide +kernel) (by rw [q1]; decide +kernel) rfl (s_AW_may_60.go [none, none, none, some (.int v3), some (.long s0), none] [.long s0] (aw_s I L D) rfl (z_callS (av := [.long s0]) (st := []) ok_JL_bitCount (Or.inl w_1091) w_1092 d_AW_may_62 rfl rfl (Nat.le_of_ble_eq_true rfl) (Nat.le_refl _) (Nat.le_refl _) (aw_C.mono (h1 q1) (fun _ _ zz => aw_Z.weak (ls' := [none, none, none, none, none, none]) zz (Nat.le_of_ble_eq_true rfl) ⟨Or.inl rfl, ⟨Or.inl rfl, ⟨Or.inl rfl, ⟨Or.inl rfl, ⟨Or.inl rfl, ⟨Or.inl rfl, trivial⟩⟩⟩⟩⟩⟩))))) (fun q1n => (Decidable.byCases (fun q2 => z_tableIn (off := 34) (tgt := 66) d_AW_may_32 (by rw [q2]; decide +kernel) (by rw [q2]; decide +kernel) (by rw [q2]; decide +kernel) rfl (s_AW_may_66.go [none, none, none, some (.int v3), some (.long s0), none] [.long s0] (aw_s I L D) rfl (z_callS (av := [.long s0]) (st := []) ok_JL_numberOfTrailingZeros (Or.inl w_1097) w_1098 d_AW_may_68 rfl rfl (Nat.le_of_ble_eq_true rfl) (Nat.le_refl _) (Nat.le_refl _) (aw_C.mono (h2 q1n q2) (fun _ _ zz => aw_Z.weak (ls' := [none, none, none, none, none, none]) zz (Nat.le_of_ble_eq_true rfl) ⟨Or.inl rfl, ⟨Or.inl rfl, ⟨Or.inl rfl, ⟨Or.inl rfl, ⟨Or.inl rfl, ⟨Or.inl rfl, trivial⟩⟩⟩⟩⟩⟩))))) (fun q2n => (Decidable.byCases (fun q3 => z_tableIn (off := 40) (tgt := 72) d_AW_may_32 (by rw [q3]; decide +kernel) (by rw [q3]; decide +kernel) (by rw [q3]; decide +kernel) rfl (s_AW_may_72.go [none, none, none, some (.int v3), some (.long s0), none] [.long s0, .int (63 : Int32)] (aw_s I L D) rfl (z_callS (av := [.long s0]) (st := [.int (63 : Int32)]) ok_JL_numberOfLeadingZeros (Or.inl w_1104) w_1105 d_AW_may_76 rfl rfl (Nat.le_of_ble_eq_true rfl) (Nat.le_refl _) (Nat.le_refl _) (aw_C.mono (h3 q1n q2n q3) (fun _ _ zz => aw_Z.weak (ls' := [none, none, none, none, none, none]) zz (Nat.le_of_ble_eq_true rfl) ⟨Or.inl rfl, ⟨Or.inl rfl, ⟨Or.inl rfl, ⟨Or.inl rfl, ⟨Or.inl rfl, ⟨Or.inl rfl, trivial⟩⟩⟩⟩⟩⟩))))) (fun q3n => z_tableOut (tgt := 81) d_AW_may_32 (by have := aw_swout q1n (a := 0) rfl; have := aw_swout q2n (a := 1) rfl; have := aw_swout q3n (a := 2) rfl; omega) rfl (s_AW_may_81.go [none, none, none, some (.int v3), some (.long s0), none] [.int (-1 : Int32)] (aw_s I L D) rfl (z_iret d_AW_may_82 rfl rfl (h4 q1n q2n q3n))))))))))
theorem d_AW_may_65 : decode y_AW_may.2.1 65 = .ok (.ireturn, 1) := by decide +kernel
theorem b_AW_may_65 {X : aw_X} {d : Nat} {Q : Option Value → aw_H → Prop} {I : Nat → Nat → Int32} {L : Nat → Nat → Int64} {D : Nat → Nat} {s0 : Int32}
    (h1 : Q (some (.int s0)) (aw_s I L D)) :
    aw_z X (d + 1) y_AW_may Q 65 [none, none, none, none, none, none] [.int s0] (aw_s I L D) :=
  (z_iret d_AW_may_65 rfl rfl (h1))
theorem d_AW_may_71 : decode y_AW_may.2.1 71 = .ok (.ireturn, 1) := by decide +kernel
theorem b_AW_may_71 {X : aw_X} {d : Nat} {Q : Option Value → aw_H → Prop} {I : Nat → Nat → Int32} {L : Nat → Nat → Int64} {D : Nat → Nat} {s0 : Int32}
    (h1 : Q (some (.int s0)) (aw_s I L D)) :
    aw_z X (d + 1) y_AW_may Q 71 [none, none, none, none, none, none] [.int s0] (aw_s I L D) :=
  (z_iret d_AW_may_71 rfl rfl (h1))
theorem d_AW_may_79 : decode y_AW_may.2.1 79 = .ok (.isub, 1) := by decide +kernel
theorem s_AW_may_79 : aw_VS y_AW_may 79 [o_i2 (fun x z => x - z)] 80 := .cons (v_isub d_AW_may_79) .nil
theorem d_AW_may_80 : decode y_AW_may.2.1 80 = .ok (.ireturn, 1) := by decide +kernel
theorem b_AW_may_79 {X : aw_X} {d : Nat} {Q : Option Value → aw_H → Prop} {I : Nat → Nat → Int32} {L : Nat → Nat → Int64} {D : Nat → Nat} {s1 : Int32} {s0 : Int32}
    (h1 : Q (some (.int (s0 - s1))) (aw_s I L D)) :
    aw_z X (d + 1) y_AW_may Q 79 [none, none, none, none, none, none] [.int s1, .int s0] (aw_s I L D) :=
  (s_AW_may_79.go [none, none, none, none, none, none] [.int (s0 - s1)] (aw_s I L D) rfl (z_iret d_AW_may_80 rfl rfl (h1)))
/-! AW_isName -/
theorem d_AW_isName_0 : decode y_AW_isName.2.1 0 = .ok (.iload_n 0, 1) := by decide +kernel
theorem s_AW_isName_0 : aw_VS y_AW_isName 0 [o_ild 0] 1 := .cons (v_iload_n (i := 0) d_AW_isName_0 rfl) .nil
theorem d_AW_isName_1 : decode y_AW_isName.2.1 1 = .ok (.ifCond .lt (13), 3) := by decide +kernel
theorem d_AW_isName_14 : decode y_AW_isName.2.1 14 = .ok (.iconst 0, 1) := by decide +kernel
theorem s_AW_isName_14 : aw_VS y_AW_isName 14 [o_c (.int (0 : Int32))] 15 := .cons (v_iconst (v := (0 : Int32)) d_AW_isName_14 (by decide +kernel)) .nil
theorem d_AW_isName_15 : decode y_AW_isName.2.1 15 = .ok (.ireturn, 1) := by decide +kernel
theorem d_AW_isName_4 : decode y_AW_isName.2.1 4 = .ok (.iload_n 0, 1) := by decide +kernel
theorem d_AW_isName_5 : decode y_AW_isName.2.1 5 = .ok (.bipush 8, 2) := by decide +kernel
theorem s_AW_isName_4 : aw_VS y_AW_isName 4 [o_ild 0, o_c (.int (8 : Int32))] 7 := .cons (v_iload_n (i := 0) d_AW_isName_4 rfl) (.cons (v_bipush (v := (8 : Int32)) d_AW_isName_5 (by decide +kernel)) .nil)
theorem d_AW_isName_7 : decode y_AW_isName.2.1 7 = .ok (.if_icmp .ge (7), 3) := by decide +kernel
theorem d_AW_isName_10 : decode y_AW_isName.2.1 10 = .ok (.iconst 1, 1) := by decide +kernel
theorem s_AW_isName_10 : aw_VS y_AW_isName 10 [o_c (.int (1 : Int32))] 11 := .cons (v_iconst (v := (1 : Int32)) d_AW_isName_10 (by decide +kernel)) .nil
theorem d_AW_isName_11 : decode y_AW_isName.2.1 11 = .ok (.goto (4), 3) := by decide +kernel
theorem b_AW_isName_0 {X : aw_X} {d : Nat} {Q : Option Value → aw_H → Prop} {I : Nat → Nat → Int32} {L : Nat → Nat → Int64} {D : Nat → Nat} {v0 : Int32}
    (h1 : v0 < 0 → Q (some (.int (0 : Int32))) (aw_s I L D))
    (h2 : ¬ v0 < 0 → (8 : Int32) ≤ v0 → Q (some (.int (0 : Int32))) (aw_s I L D))
    (h3 : ¬ v0 < 0 → ¬ (8 : Int32) ≤ v0 → Q (some (.int (1 : Int32))) (aw_s I L D)) :
    aw_z X d y_AW_isName Q 0 [some (.int v0)] [] (aw_s I L D) :=
  (s_AW_isName_0.go [some (.int v0)] [.int v0] (aw_s I L D) rfl (z_if_lt (tgt := 14) d_AW_isName_1 rfl (fun q1 => (s_AW_isName_14.go [some (.int v0)] [.int (0 : Int32)] (aw_s I L D) rfl (z_iret d_AW_isName_15 rfl (aw_nz (by decide +kernel)) (h1 q1)))) (fun q2 => (s_AW_isName_4.go [some (.int v0)] [.int (8 : Int32), .int v0] (aw_s I L D) rfl (z_icmp_ge (tgt := 14) d_AW_isName_7 rfl (fun q3 => (s_AW_isName_14.go [some (.int v0)] [.int (0 : Int32)] (aw_s I L D) rfl (z_iret d_AW_isName_15 rfl (aw_nz (by decide +kernel)) (h2 q2 q3)))) (fun q4 => (s_AW_isName_10.go [some (.int v0)] [.int (1 : Int32)] (aw_s I L D) rfl (z_goto (tgt := 15) d_AW_isName_11 rfl (z_iret d_AW_isName_15 rfl (aw_nz (by decide +kernel)) (h3 q2 q4))))))))))
/-! AW_law -/
theorem d_AW_law_0 : decode y_AW_law.2.1 0 = .ok (.aload_n 0, 1) := by decide +kernel
theorem d_AW_law_1 : decode y_AW_law.2.1 1 = .ok (.getfield 35, 3) := by decide +kernel
theorem d_AW_law_4 : decode y_AW_law.2.1 4 = .ok (.iload_n 1, 1) := by decide +kernel
theorem s_AW_law_0 : aw_VS y_AW_law 0 [o_ald 0, o_getA 0 3, o_ild 1] 5 := .cons (v_aload_n (i := 0) d_AW_law_0 rfl) (.cons (v_getA (k := 3) k_AW (by decide) rfl (Or.inl w_493) d_AW_law_1) (.cons (v_iload_n (i := 1) d_AW_law_4 rfl) .nil))
theorem d_AW_law_5 : decode y_AW_law.2.1 5 = .ok (.invokevirtual 185, 3) := by decide +kernel
theorem b_AW_law_0 {X : aw_X} {d : Nat} {Q : Option Value → aw_H → Prop} {I : Nat → Nat → Int32} {L : Nat → Nat → Int64} {D : Nat → Nat} {v1 : Int32} {v2 : Int32} {v3 : Int32} {v4 : Int32}
    (h1 : aw_m X d y_Wk_isBegun [.ref 11, .int v1] (aw_s I L D) (fun r A => aw_z X (d + 1) y_AW_law Q 8 [some (.ref 0), some (.int v1), some (.int v2), some (.int v3), some (.int v4), none] (r.toList ++ []) A)) :
    aw_z X (d + 1) y_AW_law Q 0 [some (.ref 0), some (.int v1), some (.int v2), some (.int v3), some (.int v4), none] [] (aw_s I L D) :=
  (s_AW_law_0.go [some (.ref 0), some (.int v1), some (.int v2), some (.int v3), some (.int v4), none] [.int v1, .ref 11] (aw_s I L D) rfl (z_callV (av := [.int v1]) (st := []) ok_Wk_isBegun (Or.inl w_1080) w_1081 w_1082 k_Wk d_AW_law_5 rfl (aw_lt (o := 11) rfl) rfl rfl (Nat.le_of_ble_eq_true rfl) (Nat.le_refl _) (Nat.le_refl _) (h1)))
theorem d_AW_law_8 : decode y_AW_law.2.1 8 = .ok (.ifCond .eq (19), 3) := by decide +kernel
theorem d_AW_law_27 : decode y_AW_law.2.1 27 = .ok (.iconst (-1), 1) := by decide +kernel
theorem s_AW_law_27 : aw_VS y_AW_law 27 [o_c (.int (-1 : Int32))] 28 := .cons (v_iconst (v := (-1 : Int32)) d_AW_law_27 (by decide +kernel)) .nil
theorem d_AW_law_28 : decode y_AW_law.2.1 28 = .ok (.ireturn, 1) := by decide +kernel
theorem d_AW_law_11 : decode y_AW_law.2.1 11 = .ok (.iload_n 2, 1) := by decide +kernel
theorem s_AW_law_11 : aw_VS y_AW_law 11 [o_ild 2] 12 := .cons (v_iload_n (i := 2) d_AW_law_11 rfl) .nil
theorem d_AW_law_12 : decode y_AW_law.2.1 12 = .ok (.invokestatic 188, 3) := by decide +kernel
theorem b_AW_law_8 {X : aw_X} {d : Nat} {Q : Option Value → aw_H → Prop} {I : Nat → Nat → Int32} {L : Nat → Nat → Int64} {D : Nat → Nat} {v1 : Int32} {v2 : Int32} {v3 : Int32} {v4 : Int32} {s0 : Int32}
    (h1 : s0 = 0 → Q (some (.int (-1 : Int32))) (aw_s I L D))
    (h2 : ¬ s0 = 0 → aw_m X d y_AW_isName [.int v2] (aw_s I L D) (fun r A => aw_z X (d + 1) y_AW_law Q 15 [some (.ref 0), some (.int v1), some (.int v2), some (.int v3), some (.int v4), none] (r.toList ++ []) A)) :
    aw_z X (d + 1) y_AW_law Q 8 [some (.ref 0), some (.int v1), some (.int v2), some (.int v3), some (.int v4), none] [.int s0] (aw_s I L D) :=
  (z_if_eq (tgt := 27) d_AW_law_8 rfl (fun q1 => (s_AW_law_27.go [some (.ref 0), some (.int v1), some (.int v2), some (.int v3), some (.int v4), none] [.int (-1 : Int32)] (aw_s I L D) rfl (z_iret d_AW_law_28 rfl rfl (h1 q1)))) (fun q2 => (s_AW_law_11.go [some (.ref 0), some (.int v1), some (.int v2), some (.int v3), some (.int v4), none] [.int v2] (aw_s I L D) rfl (z_callS (av := [.int v2]) (st := []) ok_AW_isName (Or.inl w_1084) w_1085 d_AW_law_12 rfl rfl (Nat.le_of_ble_eq_true rfl) (Nat.le_refl _) (Nat.le_refl _) (h2 q2)))))
theorem d_AW_law_15 : decode y_AW_law.2.1 15 = .ok (.ifCond .eq (12), 3) := by decide +kernel
theorem d_AW_law_18 : decode y_AW_law.2.1 18 = .ok (.iload_n 3, 1) := by decide +kernel
theorem s_AW_law_18 : aw_VS y_AW_law 18 [o_ild 3] 19 := .cons (v_iload_n (i := 3) d_AW_law_18 rfl) .nil
theorem d_AW_law_19 : decode y_AW_law.2.1 19 = .ok (.ifCond .lt (8), 3) := by decide +kernel
theorem d_AW_law_22 : decode y_AW_law.2.1 22 = .ok (.iload_n 3, 1) := by decide +kernel
theorem d_AW_law_23 : decode y_AW_law.2.1 23 = .ok (.iconst 3, 1) := by decide +kernel
theorem s_AW_law_22 : aw_VS y_AW_law 22 [o_ild 3, o_c (.int (3 : Int32))] 24 := .cons (v_iload_n (i := 3) d_AW_law_22 rfl) (.cons (v_iconst (v := (3 : Int32)) d_AW_law_23 (by decide +kernel)) .nil)
theorem d_AW_law_24 : decode y_AW_law.2.1 24 = .ok (.if_icmp .le (5), 3) := by decide +kernel
theorem d_AW_law_29 : decode y_AW_law.2.1 29 = .ok (.iload 4, 2) := by decide +kernel
theorem s_AW_law_29 : aw_VS y_AW_law 29 [o_ild 4] 31 := .cons (v_iload (i := 4) d_AW_law_29) .nil
theorem d_AW_law_31 : decode y_AW_law.2.1 31 = .ok (.invokestatic 188, 3) := by decide +kernel
theorem b_AW_law_15 {X : aw_X} {d : Nat} {Q : Option Value → aw_H → Prop} {I : Nat → Nat → Int32} {L : Nat → Nat → Int64} {D : Nat → Nat} {v1 : Int32} {v2 : Int32} {v3 : Int32} {v4 : Int32} {s0 : Int32}
    (h1 : s0 = 0 → Q (some (.int (-1 : Int32))) (aw_s I L D))
    (h2 : ¬ s0 = 0 → v3 < 0 → Q (some (.int (-1 : Int32))) (aw_s I L D))
    (h3 : ¬ s0 = 0 → ¬ v3 < 0 → v3 ≤ (3 : Int32) → aw_m X d y_AW_isName [.int v4] (aw_s I L D) (fun r A => aw_z X (d + 1) y_AW_law Q 34 [some (.ref 0), some (.int v1), some (.int v2), some (.int v3), some (.int v4), none] (r.toList ++ []) A))
    (h4 : ¬ s0 = 0 → ¬ v3 < 0 → ¬ v3 ≤ (3 : Int32) → Q (some (.int (-1 : Int32))) (aw_s I L D)) :
    aw_z X (d + 1) y_AW_law Q 15 [some (.ref 0), some (.int v1), some (.int v2), some (.int v3), some (.int v4), none] [.int s0] (aw_s I L D) :=
  (z_if_eq (tgt := 27) d_AW_law_15 rfl (fun q1 => (s_AW_law_27.go [some (.ref 0), some (.int v1), some (.int v2), some (.int v3), some (.int v4), none] [.int (-1 : Int32)] (aw_s I L D) rfl (z_iret d_AW_law_28 rfl rfl (h1 q1)))) (fun q2 => (s_AW_law_18.go [some (.ref 0), some (.int v1), some (.int v2), some (.int v3), some (.int v4), none] [.int v3] (aw_s I L D) rfl (z_if_lt (tgt := 27) d_AW_law_19 rfl (fun q3 => (s_AW_law_27.go [some (.ref 0), some (.int v1), some (.int v2), some (.int v3), some (.int v4), none] [.int (-1 : Int32)] (aw_s I L D) rfl (z_iret d_AW_law_28 rfl rfl (h2 q2 q3)))) (fun q4 => (s_AW_law_22.go [some (.ref 0), some (.int v1), some (.int v2), some (.int v3), some (.int v4), none] [.int (3 : Int32), .int v3] (aw_s I L D) rfl (z_icmp_le (tgt := 29) d_AW_law_24 rfl (fun q5 => (s_AW_law_29.go [some (.ref 0), some (.int v1), some (.int v2), some (.int v3), some (.int v4), none] [.int v4] (aw_s I L D) rfl (z_callS (av := [.int v4]) (st := []) ok_AW_isName (Or.inl w_1084) w_1085 d_AW_law_31 rfl rfl (Nat.le_of_ble_eq_true rfl) (Nat.le_refl _) (Nat.le_refl _) (h3 q2 q4 q5)))) (fun q6 => (s_AW_law_27.go [some (.ref 0), some (.int v1), some (.int v2), some (.int v3), some (.int v4), none] [.int (-1 : Int32)] (aw_s I L D) rfl (z_iret d_AW_law_28 rfl rfl (h4 q2 q4 q6)))))))))))
theorem d_AW_law_34 : decode y_AW_law.2.1 34 = .ok (.ifCond .eq (27), 3) := by decide +kernel
theorem d_AW_law_61 : decode y_AW_law.2.1 61 = .ok (.iload 4, 2) := by decide +kernel
theorem d_AW_law_63 : decode y_AW_law.2.1 63 = .ok (.bipush 100, 2) := by decide +kernel
theorem s_AW_law_61 : aw_VS y_AW_law 61 [o_ild 4, o_c (.int (100 : Int32))] 65 := .cons (v_iload (i := 4) d_AW_law_61) (.cons (v_bipush (v := (100 : Int32)) d_AW_law_63 (by decide +kernel)) .nil)
theorem d_AW_law_65 : decode y_AW_law.2.1 65 = .ok (.if_icmp .lt (18), 3) := by decide +kernel
theorem d_AW_law_83 : decode y_AW_law.2.1 83 = .ok (.iconst (-1), 1) := by decide +kernel
theorem s_AW_law_83 : aw_VS y_AW_law 83 [o_c (.int (-1 : Int32))] 84 := .cons (v_iconst (v := (-1 : Int32)) d_AW_law_83 (by decide +kernel)) .nil
theorem d_AW_law_84 : decode y_AW_law.2.1 84 = .ok (.ireturn, 1) := by decide +kernel
theorem d_AW_law_68 : decode y_AW_law.2.1 68 = .ok (.iload 4, 2) := by decide +kernel
theorem d_AW_law_70 : decode y_AW_law.2.1 70 = .ok (.bipush 100, 2) := by decide +kernel
theorem d_AW_law_72 : decode y_AW_law.2.1 72 = .ok (.aload_n 0, 1) := by decide +kernel
theorem d_AW_law_73 : decode y_AW_law.2.1 73 = .ok (.getfield 12, 3) := by decide +kernel
theorem s_AW_law_68 : aw_VS y_AW_law 68 [o_ild 4, o_c (.int (100 : Int32)), o_ald 0, o_getA 0 0] 76 := .cons (v_iload (i := 4) d_AW_law_68) (.cons (v_bipush (v := (100 : Int32)) d_AW_law_70 (by decide +kernel)) (.cons (v_aload_n (i := 0) d_AW_law_72 rfl) (.cons (v_getA (k := 0) k_AW (by decide) rfl (Or.inl w_490) d_AW_law_73) .nil)))
theorem d_AW_law_76 : decode y_AW_law.2.1 76 = .ok (.invokevirtual 215, 3) := by decide +kernel
theorem d_AW_law_37 : decode y_AW_law.2.1 37 = .ok (.aload_n 0, 1) := by decide +kernel
theorem d_AW_law_38 : decode y_AW_law.2.1 38 = .ok (.getfield 35, 3) := by decide +kernel
theorem d_AW_law_41 : decode y_AW_law.2.1 41 = .ok (.iload_n 1, 1) := by decide +kernel
theorem d_AW_law_42 : decode y_AW_law.2.1 42 = .ok (.iload_n 2, 1) := by decide +kernel
theorem d_AW_law_43 : decode y_AW_law.2.1 43 = .ok (.iload 4, 2) := by decide +kernel
theorem s_AW_law_37 : aw_VS y_AW_law 37 [o_ald 0, o_getA 0 3, o_ild 1, o_ild 2, o_ild 4] 45 := .cons (v_aload_n (i := 0) d_AW_law_37 rfl) (.cons (v_getA (k := 3) k_AW (by decide) rfl (Or.inl w_493) d_AW_law_38) (.cons (v_iload_n (i := 1) d_AW_law_41 rfl) (.cons (v_iload_n (i := 2) d_AW_law_42 rfl) (.cons (v_iload (i := 4) d_AW_law_43) .nil))))
theorem d_AW_law_45 : decode y_AW_law.2.1 45 = .ok (.invokevirtual 207, 3) := by decide +kernel
theorem b_AW_law_34 {X : aw_X} {d : Nat} {Q : Option Value → aw_H → Prop} {I : Nat → Nat → Int32} {L : Nat → Nat → Int64} {D : Nat → Nat} {v1 : Int32} {v2 : Int32} {v3 : Int32} {v4 : Int32} {s0 : Int32}
    (h1 : s0 = 0 → v4 < (100 : Int32) → Q (some (.int (-1 : Int32))) (aw_s I L D))
    (h2 : s0 = 0 → ¬ v4 < (100 : Int32) → aw_m X d y_Sz_greatest [.ref 1] (aw_s I L D) (fun r A => aw_z X (d + 1) y_AW_law Q 79 [some (.ref 0), some (.int v1), some (.int v2), some (.int v3), some (.int v4), none] (r.toList ++ [.int (100 : Int32), .int v4]) A))
    (h3 : ¬ s0 = 0 → aw_m X d y_Wk_relationsOf [.ref 11, .int v1, .int v2, .int v4] (aw_s I L D) (fun r A => aw_z X (d + 1) y_AW_law Q 48 [none, none, none, some (.int v3), none, none] (r.toList ++ []) A)) :
    aw_z X (d + 1) y_AW_law Q 34 [some (.ref 0), some (.int v1), some (.int v2), some (.int v3), some (.int v4), none] [.int s0] (aw_s I L D) :=
  (z_if_eq (tgt := 61) d_AW_law_34 rfl (fun q1 => (s_AW_law_61.go [some (.ref 0), some (.int v1), some (.int v2), some (.int v3), some (.int v4), none] [.int (100 : Int32), .int v4] (aw_s I L D) rfl (z_icmp_lt (tgt := 83) d_AW_law_65 rfl (fun q3 => (s_AW_law_83.go [some (.ref 0), some (.int v1), some (.int v2), some (.int v3), some (.int v4), none] [.int (-1 : Int32)] (aw_s I L D) rfl (z_iret d_AW_law_84 rfl rfl (h1 q1 q3)))) (fun q4 => (s_AW_law_68.go [some (.ref 0), some (.int v1), some (.int v2), some (.int v3), some (.int v4), none] [.ref 1, .int (100 : Int32), .int v4] (aw_s I L D) rfl (z_callV (av := []) (st := [.int (100 : Int32), .int v4]) ok_Sz_greatest (Or.inl w_1121) w_906 w_907 k_Sz d_AW_law_76 rfl (aw_lt (o := 1) rfl) rfl rfl (Nat.le_of_ble_eq_true rfl) (Nat.le_refl _) (Nat.le_refl _) (h2 q1 q4))))))) (fun q2 => (s_AW_law_37.go [some (.ref 0), some (.int v1), some (.int v2), some (.int v3), some (.int v4), none] [.int v4, .int v2, .int v1, .ref 11] (aw_s I L D) rfl (z_callV (av := [.int v1, .int v2, .int v4]) (st := []) ok_Wk_relationsOf (Or.inl w_1114) w_1115 w_1116 k_Wk d_AW_law_45 rfl (aw_lt (o := 11) rfl) rfl rfl (Nat.le_of_ble_eq_true rfl) (Nat.le_refl _) (Nat.le_refl _) (aw_C.mono (h3 q2) (fun _ _ zz => aw_Z.weak (ls' := [none, none, none, some (.int v3), none, none]) zz (Nat.le_of_ble_eq_true rfl) ⟨Or.inl rfl, ⟨Or.inl rfl, ⟨Or.inl rfl, ⟨Or.inr rfl, ⟨Or.inl rfl, ⟨Or.inl rfl, trivial⟩⟩⟩⟩⟩⟩))))))
theorem d_AW_law_79 : decode y_AW_law.2.1 79 = .ok (.iadd, 1) := by decide +kernel
theorem s_AW_law_79 : aw_VS y_AW_law 79 [o_i2 (fun x z => x + z)] 80 := .cons (v_iadd d_AW_law_79) .nil
theorem d_AW_law_80 : decode y_AW_law.2.1 80 = .ok (.if_icmp .le (5), 3) := by decide +kernel
theorem d_AW_law_85 : decode y_AW_law.2.1 85 = .ok (.aload_n 0, 1) := by decide +kernel
theorem d_AW_law_86 : decode y_AW_law.2.1 86 = .ok (.getfield 35, 3) := by decide +kernel
theorem d_AW_law_89 : decode y_AW_law.2.1 89 = .ok (.iload_n 1, 1) := by decide +kernel
theorem d_AW_law_90 : decode y_AW_law.2.1 90 = .ok (.iload_n 2, 1) := by decide +kernel
theorem s_AW_law_85 : aw_VS y_AW_law 85 [o_ald 0, o_getA 0 3, o_ild 1, o_ild 2] 91 := .cons (v_aload_n (i := 0) d_AW_law_85 rfl) (.cons (v_getA (k := 3) k_AW (by decide) rfl (Or.inl w_493) d_AW_law_86) (.cons (v_iload_n (i := 1) d_AW_law_89 rfl) (.cons (v_iload_n (i := 2) d_AW_law_90 rfl) .nil)))
theorem d_AW_law_91 : decode y_AW_law.2.1 91 = .ok (.invokevirtual 191, 3) := by decide +kernel
theorem b_AW_law_79 {X : aw_X} {d : Nat} {Q : Option Value → aw_H → Prop} {I : Nat → Nat → Int32} {L : Nat → Nat → Int64} {D : Nat → Nat} {v1 : Int32} {v2 : Int32} {v3 : Int32} {v4 : Int32} {s2 : Int32} {s1 : Int32} {s0 : Int32}
    (h1 : s0 ≤ (s1 + s2) → aw_m X d y_Wk_numbersOf [.ref 11, .int v1, .int v2] (aw_s I L D) (fun r A => aw_z X (d + 1) y_AW_law Q 94 [none, none, none, some (.int v3), some (.int v4), none] (r.toList ++ []) A))
    (h2 : ¬ s0 ≤ (s1 + s2) → Q (some (.int (-1 : Int32))) (aw_s I L D)) :
    aw_z X (d + 1) y_AW_law Q 79 [some (.ref 0), some (.int v1), some (.int v2), some (.int v3), some (.int v4), none] [.int s2, .int s1, .int s0] (aw_s I L D) :=
  (s_AW_law_79.go [some (.ref 0), some (.int v1), some (.int v2), some (.int v3), some (.int v4), none] [.int (s1 + s2), .int s0] (aw_s I L D) rfl (z_icmp_le (tgt := 85) d_AW_law_80 rfl (fun q1 => (s_AW_law_85.go [some (.ref 0), some (.int v1), some (.int v2), some (.int v3), some (.int v4), none] [.int v2, .int v1, .ref 11] (aw_s I L D) rfl (z_callV (av := [.int v1, .int v2]) (st := []) ok_Wk_numbersOf (Or.inl w_1087) w_1088 w_1089 k_Wk d_AW_law_91 rfl (aw_lt (o := 11) rfl) rfl rfl (Nat.le_of_ble_eq_true rfl) (Nat.le_refl _) (Nat.le_refl _) (aw_C.mono (h1 q1) (fun _ _ zz => aw_Z.weak (ls' := [none, none, none, some (.int v3), some (.int v4), none]) zz (Nat.le_of_ble_eq_true rfl) ⟨Or.inl rfl, ⟨Or.inl rfl, ⟨Or.inl rfl, ⟨Or.inr rfl, ⟨Or.inr rfl, ⟨Or.inl rfl, trivial⟩⟩⟩⟩⟩⟩))))) (fun q2 => (s_AW_law_83.go [some (.ref 0), some (.int v1), some (.int v2), some (.int v3), some (.int v4), none] [.int (-1 : Int32)] (aw_s I L D) rfl (z_iret d_AW_law_84 rfl rfl (h2 q2))))))
theorem d_AW_law_48 : decode y_AW_law.2.1 48 = .ok (.iload_n 3, 1) := by decide +kernel
theorem s_AW_law_48 : aw_VS y_AW_law 48 [o_ild 3] 49 := .cons (v_iload_n (i := 3) d_AW_law_48 rfl) .nil
theorem d_AW_law_49 : decode y_AW_law.2.1 49 = .ok (.invokestatic 211, 3) := by decide +kernel
theorem b_AW_law_48 {X : aw_X} {d : Nat} {Q : Option Value → aw_H → Prop} {I : Nat → Nat → Int32} {L : Nat → Nat → Int64} {D : Nat → Nat} {v3 : Int32} {s0 : Int32}
    (h1 : aw_m X d y_AW_holdsAlways [.int s0, .int v3] (aw_s I L D) (fun r A => aw_z X (d + 1) y_AW_law Q 52 [none, none, none, none, none, none] (r.toList ++ []) A)) :
    aw_z X (d + 1) y_AW_law Q 48 [none, none, none, some (.int v3), none, none] [.int s0] (aw_s I L D) :=
  (s_AW_law_48.go [none, none, none, some (.int v3), none, none] [.int v3, .int s0] (aw_s I L D) rfl (z_callS (av := [.int s0, .int v3]) (st := []) ok_AW_holdsAlways (Or.inl w_1118) w_1119 d_AW_law_49 rfl rfl (Nat.le_of_ble_eq_true rfl) (Nat.le_refl _) (Nat.le_refl _) (aw_C.mono (h1) (fun _ _ zz => aw_Z.weak (ls' := [none, none, none, none, none, none]) zz (Nat.le_of_ble_eq_true rfl) ⟨Or.inl rfl, ⟨Or.inl rfl, ⟨Or.inl rfl, ⟨Or.inl rfl, ⟨Or.inl rfl, ⟨Or.inl rfl, trivial⟩⟩⟩⟩⟩⟩))))
theorem d_AW_law_94 : decode y_AW_law.2.1 94 = .ok (.iload 4, 2) := by decide +kernel
theorem d_AW_law_96 : decode y_AW_law.2.1 96 = .ok (.bipush 100, 2) := by decide +kernel
theorem d_AW_law_98 : decode y_AW_law.2.1 98 = .ok (.isub, 1) := by decide +kernel
theorem s_AW_law_94 : aw_VS y_AW_law 94 [o_ild 4, o_c (.int (100 : Int32)), o_i2 (fun x z => x - z)] 99 := .cons (v_iload (i := 4) d_AW_law_94) (.cons (v_bipush (v := (100 : Int32)) d_AW_law_96 (by decide +kernel)) (.cons (v_isub d_AW_law_98) .nil))
theorem d_AW_law_99 : decode y_AW_law.2.1 99 = .ok (.invokestatic 218, 3) := by decide +kernel
theorem b_AW_law_94 {X : aw_X} {d : Nat} {Q : Option Value → aw_H → Prop} {I : Nat → Nat → Int32} {L : Nat → Nat → Int64} {D : Nat → Nat} {v3 : Int32} {v4 : Int32} {s0 : Int64}
    (h1 : aw_m X d y_AW_relationsTo [.long s0, .int (v4 - (100 : Int32))] (aw_s I L D) (fun r A => aw_z X (d + 1) y_AW_law Q 102 [none, none, none, some (.int v3), none, none] (r.toList ++ []) A)) :
    aw_z X (d + 1) y_AW_law Q 94 [none, none, none, some (.int v3), some (.int v4), none] [.long s0] (aw_s I L D) :=
  (s_AW_law_94.go [none, none, none, some (.int v3), some (.int v4), none] [.int (v4 - (100 : Int32)), .long s0] (aw_s I L D) rfl (z_callS (av := [.long s0, .int (v4 - (100 : Int32))]) (st := []) ok_AW_relationsTo (Or.inl w_1122) w_1123 d_AW_law_99 rfl rfl (Nat.le_of_ble_eq_true rfl) (Nat.le_refl _) (Nat.le_refl _) (aw_C.mono (h1) (fun _ _ zz => aw_Z.weak (ls' := [none, none, none, some (.int v3), none, none]) zz (Nat.le_of_ble_eq_true rfl) ⟨Or.inl rfl, ⟨Or.inl rfl, ⟨Or.inl rfl, ⟨Or.inr rfl, ⟨Or.inl rfl, ⟨Or.inl rfl, trivial⟩⟩⟩⟩⟩⟩))))
theorem d_AW_law_52 : decode y_AW_law.2.1 52 = .ok (.ifCond .eq (7), 3) := by decide +kernel
theorem d_AW_law_59 : decode y_AW_law.2.1 59 = .ok (.iconst 0, 1) := by decide +kernel
theorem s_AW_law_59 : aw_VS y_AW_law 59 [o_c (.int (0 : Int32))] 60 := .cons (v_iconst (v := (0 : Int32)) d_AW_law_59 (by decide +kernel)) .nil
theorem d_AW_law_60 : decode y_AW_law.2.1 60 = .ok (.ireturn, 1) := by decide +kernel
theorem d_AW_law_55 : decode y_AW_law.2.1 55 = .ok (.iconst 1, 1) := by decide +kernel
theorem s_AW_law_55 : aw_VS y_AW_law 55 [o_c (.int (1 : Int32))] 56 := .cons (v_iconst (v := (1 : Int32)) d_AW_law_55 (by decide +kernel)) .nil
theorem d_AW_law_56 : decode y_AW_law.2.1 56 = .ok (.goto (4), 3) := by decide +kernel
theorem b_AW_law_52 {X : aw_X} {d : Nat} {Q : Option Value → aw_H → Prop} {I : Nat → Nat → Int32} {L : Nat → Nat → Int64} {D : Nat → Nat} {s0 : Int32}
    (h1 : s0 = 0 → Q (some (.int (0 : Int32))) (aw_s I L D))
    (h2 : ¬ s0 = 0 → Q (some (.int (1 : Int32))) (aw_s I L D)) :
    aw_z X (d + 1) y_AW_law Q 52 [none, none, none, none, none, none] [.int s0] (aw_s I L D) :=
  (z_if_eq (tgt := 59) d_AW_law_52 rfl (fun q1 => (s_AW_law_59.go [none, none, none, none, none, none] [.int (0 : Int32)] (aw_s I L D) rfl (z_iret d_AW_law_60 rfl rfl (h1 q1)))) (fun q2 => (s_AW_law_55.go [none, none, none, none, none, none] [.int (1 : Int32)] (aw_s I L D) rfl (z_goto (tgt := 60) d_AW_law_56 rfl (z_iret d_AW_law_60 rfl rfl (h2 q2))))))
theorem d_AW_law_102 : decode y_AW_law.2.1 102 = .ok (.istore 5, 2) := by decide +kernel
theorem d_AW_law_104 : decode y_AW_law.2.1 104 = .ok (.iload 5, 2) := by decide +kernel
theorem d_AW_law_106 : decode y_AW_law.2.1 106 = .ok (.iload_n 3, 1) := by decide +kernel
theorem s_AW_law_102 : aw_VS y_AW_law 102 [o_ist 5, o_ild 5, o_ild 3] 107 := .cons (v_istore d_AW_law_102) (.cons (v_iload (i := 5) d_AW_law_104) (.cons (v_iload_n (i := 3) d_AW_law_106 rfl) .nil))
theorem d_AW_law_107 : decode y_AW_law.2.1 107 = .ok (.invokestatic 211, 3) := by decide +kernel
theorem b_AW_law_102 {X : aw_X} {d : Nat} {Q : Option Value → aw_H → Prop} {I : Nat → Nat → Int32} {L : Nat → Nat → Int64} {D : Nat → Nat} {v3 : Int32} {s0 : Int32}
    (h1 : aw_m X d y_AW_holdsAlways [.int s0, .int v3] (aw_s I L D) (fun r A => aw_z X (d + 1) y_AW_law Q 110 [none, none, none, none, none, none] (r.toList ++ []) A)) :
    aw_z X (d + 1) y_AW_law Q 102 [none, none, none, some (.int v3), none, none] [.int s0] (aw_s I L D) :=
  (s_AW_law_102.go [none, none, none, some (.int v3), none, some (.int s0)] [.int v3, .int s0] (aw_s I L D) rfl (z_callS (av := [.int s0, .int v3]) (st := []) ok_AW_holdsAlways (Or.inl w_1118) w_1119 d_AW_law_107 rfl rfl (Nat.le_of_ble_eq_true rfl) (Nat.le_refl _) (Nat.le_refl _) (aw_C.mono (h1) (fun _ _ zz => aw_Z.weak (ls' := [none, none, none, none, none, none]) zz (Nat.le_of_ble_eq_true rfl) ⟨Or.inl rfl, ⟨Or.inl rfl, ⟨Or.inl rfl, ⟨Or.inl rfl, ⟨Or.inl rfl, ⟨Or.inl rfl, trivial⟩⟩⟩⟩⟩⟩))))
theorem d_AW_law_110 : decode y_AW_law.2.1 110 = .ok (.ifCond .eq (7), 3) := by decide +kernel
theorem d_AW_law_117 : decode y_AW_law.2.1 117 = .ok (.iconst 0, 1) := by decide +kernel
theorem s_AW_law_117 : aw_VS y_AW_law 117 [o_c (.int (0 : Int32))] 118 := .cons (v_iconst (v := (0 : Int32)) d_AW_law_117 (by decide +kernel)) .nil
theorem d_AW_law_118 : decode y_AW_law.2.1 118 = .ok (.ireturn, 1) := by decide +kernel
theorem d_AW_law_113 : decode y_AW_law.2.1 113 = .ok (.iconst 1, 1) := by decide +kernel
theorem s_AW_law_113 : aw_VS y_AW_law 113 [o_c (.int (1 : Int32))] 114 := .cons (v_iconst (v := (1 : Int32)) d_AW_law_113 (by decide +kernel)) .nil
theorem d_AW_law_114 : decode y_AW_law.2.1 114 = .ok (.goto (4), 3) := by decide +kernel
theorem b_AW_law_110 {X : aw_X} {d : Nat} {Q : Option Value → aw_H → Prop} {I : Nat → Nat → Int32} {L : Nat → Nat → Int64} {D : Nat → Nat} {s0 : Int32}
    (h1 : s0 = 0 → Q (some (.int (0 : Int32))) (aw_s I L D))
    (h2 : ¬ s0 = 0 → Q (some (.int (1 : Int32))) (aw_s I L D)) :
    aw_z X (d + 1) y_AW_law Q 110 [none, none, none, none, none, none] [.int s0] (aw_s I L D) :=
  (z_if_eq (tgt := 117) d_AW_law_110 rfl (fun q1 => (s_AW_law_117.go [none, none, none, none, none, none] [.int (0 : Int32)] (aw_s I L D) rfl (z_iret d_AW_law_118 rfl rfl (h1 q1)))) (fun q2 => (s_AW_law_113.go [none, none, none, none, none, none] [.int (1 : Int32)] (aw_s I L D) rfl (z_goto (tgt := 118) d_AW_law_114 rfl (z_iret d_AW_law_118 rfl rfl (h2 q2))))))
/-! AW_holdsAlways -/
theorem d_AW_holdsAlways_0 : decode y_AW_holdsAlways.2.1 0 = .ok (.iload_n 1, 1) := by decide +kernel
theorem d_AW_holdsAlways_1 : decode y_AW_holdsAlways.2.1 1 = .ok (.iconst 3, 1) := by decide +kernel
theorem s_AW_holdsAlways_0 : aw_VS y_AW_holdsAlways 0 [o_ild 1, o_c (.int (3 : Int32))] 2 := .cons (v_iload_n (i := 1) d_AW_holdsAlways_0 rfl) (.cons (v_iconst (v := (3 : Int32)) d_AW_holdsAlways_1 (by decide +kernel)) .nil)
theorem d_AW_holdsAlways_2 : decode y_AW_holdsAlways.2.1 2 = .ok (.if_icmp .ne (15), 3) := by decide +kernel
theorem d_AW_holdsAlways_17 : decode y_AW_holdsAlways.2.1 17 = .ok (.iload_n 0, 1) := by decide +kernel
theorem d_AW_holdsAlways_18 : decode y_AW_holdsAlways.2.1 18 = .ok (.iconst 1, 1) := by decide +kernel
theorem d_AW_holdsAlways_19 : decode y_AW_holdsAlways.2.1 19 = .ok (.iload_n 1, 1) := by decide +kernel
theorem d_AW_holdsAlways_20 : decode y_AW_holdsAlways.2.1 20 = .ok (.ishl, 1) := by decide +kernel
theorem s_AW_holdsAlways_17 : aw_VS y_AW_holdsAlways 17 [o_ild 0, o_c (.int (1 : Int32)), o_ild 1, o_i2 (fun x z => x <<< (z &&& 31))] 21 := .cons (v_iload_n (i := 0) d_AW_holdsAlways_17 rfl) (.cons (v_iconst (v := (1 : Int32)) d_AW_holdsAlways_18 (by decide +kernel)) (.cons (v_iload_n (i := 1) d_AW_holdsAlways_19 rfl) (.cons (v_ishl d_AW_holdsAlways_20) .nil)))
theorem d_AW_holdsAlways_21 : decode y_AW_holdsAlways.2.1 21 = .ok (.if_icmp .ne (7), 3) := by decide +kernel
theorem d_AW_holdsAlways_28 : decode y_AW_holdsAlways.2.1 28 = .ok (.iconst 0, 1) := by decide +kernel
theorem s_AW_holdsAlways_28 : aw_VS y_AW_holdsAlways 28 [o_c (.int (0 : Int32))] 29 := .cons (v_iconst (v := (0 : Int32)) d_AW_holdsAlways_28 (by decide +kernel)) .nil
theorem d_AW_holdsAlways_29 : decode y_AW_holdsAlways.2.1 29 = .ok (.ireturn, 1) := by decide +kernel
theorem d_AW_holdsAlways_24 : decode y_AW_holdsAlways.2.1 24 = .ok (.iconst 1, 1) := by decide +kernel
theorem s_AW_holdsAlways_24 : aw_VS y_AW_holdsAlways 24 [o_c (.int (1 : Int32))] 25 := .cons (v_iconst (v := (1 : Int32)) d_AW_holdsAlways_24 (by decide +kernel)) .nil
theorem d_AW_holdsAlways_25 : decode y_AW_holdsAlways.2.1 25 = .ok (.goto (4), 3) := by decide +kernel
theorem d_AW_holdsAlways_5 : decode y_AW_holdsAlways.2.1 5 = .ok (.iload_n 0, 1) := by decide +kernel
theorem d_AW_holdsAlways_6 : decode y_AW_holdsAlways.2.1 6 = .ok (.iconst 2, 1) := by decide +kernel
theorem d_AW_holdsAlways_7 : decode y_AW_holdsAlways.2.1 7 = .ok (.iand, 1) := by decide +kernel
theorem s_AW_holdsAlways_5 : aw_VS y_AW_holdsAlways 5 [o_ild 0, o_c (.int (2 : Int32)), o_i2 (fun x z => x &&& z)] 8 := .cons (v_iload_n (i := 0) d_AW_holdsAlways_5 rfl) (.cons (v_iconst (v := (2 : Int32)) d_AW_holdsAlways_6 (by decide +kernel)) (.cons (v_iand d_AW_holdsAlways_7) .nil))
theorem d_AW_holdsAlways_8 : decode y_AW_holdsAlways.2.1 8 = .ok (.ifCond .ne (7), 3) := by decide +kernel
theorem d_AW_holdsAlways_15 : decode y_AW_holdsAlways.2.1 15 = .ok (.iconst 0, 1) := by decide +kernel
theorem s_AW_holdsAlways_15 : aw_VS y_AW_holdsAlways 15 [o_c (.int (0 : Int32))] 16 := .cons (v_iconst (v := (0 : Int32)) d_AW_holdsAlways_15 (by decide +kernel)) .nil
theorem d_AW_holdsAlways_16 : decode y_AW_holdsAlways.2.1 16 = .ok (.ireturn, 1) := by decide +kernel
theorem d_AW_holdsAlways_11 : decode y_AW_holdsAlways.2.1 11 = .ok (.iconst 1, 1) := by decide +kernel
theorem s_AW_holdsAlways_11 : aw_VS y_AW_holdsAlways 11 [o_c (.int (1 : Int32))] 12 := .cons (v_iconst (v := (1 : Int32)) d_AW_holdsAlways_11 (by decide +kernel)) .nil
theorem d_AW_holdsAlways_12 : decode y_AW_holdsAlways.2.1 12 = .ok (.goto (4), 3) := by decide +kernel
theorem b_AW_holdsAlways_0 {X : aw_X} {d : Nat} {Q : Option Value → aw_H → Prop} {I : Nat → Nat → Int32} {L : Nat → Nat → Int64} {D : Nat → Nat} {v0 : Int32} {v1 : Int32}
    (h1 : ¬ v1 = (3 : Int32) → ¬ v0 = ((1 : Int32) <<< (v1 &&& 31)) → Q (some (.int (0 : Int32))) (aw_s I L D))
    (h2 : ¬ v1 = (3 : Int32) → v0 = ((1 : Int32) <<< (v1 &&& 31)) → Q (some (.int (1 : Int32))) (aw_s I L D))
    (h3 : v1 = (3 : Int32) → ¬ (v0 &&& (2 : Int32)) = 0 → Q (some (.int (0 : Int32))) (aw_s I L D))
    (h4 : v1 = (3 : Int32) → (v0 &&& (2 : Int32)) = 0 → Q (some (.int (1 : Int32))) (aw_s I L D)) :
    aw_z X d y_AW_holdsAlways Q 0 [some (.int v0), some (.int v1)] [] (aw_s I L D) :=
  (s_AW_holdsAlways_0.go [some (.int v0), some (.int v1)] [.int (3 : Int32), .int v1] (aw_s I L D) rfl (z_icmp_ne (tgt := 17) d_AW_holdsAlways_2 rfl (fun q1 => (s_AW_holdsAlways_17.go [some (.int v0), some (.int v1)] [.int ((1 : Int32) <<< (v1 &&& 31)), .int v0] (aw_s I L D) rfl (z_icmp_ne (tgt := 28) d_AW_holdsAlways_21 rfl (fun q3 => (s_AW_holdsAlways_28.go [some (.int v0), some (.int v1)] [.int (0 : Int32)] (aw_s I L D) rfl (z_iret d_AW_holdsAlways_29 rfl (aw_nz (by decide +kernel)) (h1 q1 q3)))) (fun q4 => (s_AW_holdsAlways_24.go [some (.int v0), some (.int v1)] [.int (1 : Int32)] (aw_s I L D) rfl (z_goto (tgt := 29) d_AW_holdsAlways_25 rfl (z_iret d_AW_holdsAlways_29 rfl (aw_nz (by decide +kernel)) (h2 q1 q4)))))))) (fun q2 => (s_AW_holdsAlways_5.go [some (.int v0), some (.int v1)] [.int (v0 &&& (2 : Int32))] (aw_s I L D) rfl (z_if_ne (tgt := 15) d_AW_holdsAlways_8 rfl (fun q5 => (s_AW_holdsAlways_15.go [some (.int v0), some (.int v1)] [.int (0 : Int32)] (aw_s I L D) rfl (z_iret d_AW_holdsAlways_16 rfl (aw_nz (by decide +kernel)) (h3 q2 q5)))) (fun q6 => (s_AW_holdsAlways_11.go [some (.int v0), some (.int v1)] [.int (1 : Int32)] (aw_s I L D) rfl (z_goto (tgt := 16) d_AW_holdsAlways_12 rfl (z_iret d_AW_holdsAlways_16 rfl (aw_nz (by decide +kernel)) (h4 q2 q6))))))))))
/-! AW_relationsTo -/
theorem d_AW_relationsTo_0 : decode y_AW_relationsTo.2.1 0 = .ok (.ldc2_w 316, 3) := by decide +kernel
theorem d_AW_relationsTo_3 : decode y_AW_relationsTo.2.1 3 = .ok (.iload_n 2, 1) := by decide +kernel
theorem d_AW_relationsTo_4 : decode y_AW_relationsTo.2.1 4 = .ok (.lshl, 1) := by decide +kernel
theorem d_AW_relationsTo_5 : decode y_AW_relationsTo.2.1 5 = .ok (.lconst 1, 1) := by decide +kernel
theorem d_AW_relationsTo_6 : decode y_AW_relationsTo.2.1 6 = .ok (.lsub, 1) := by decide +kernel
theorem d_AW_relationsTo_7 : decode y_AW_relationsTo.2.1 7 = .ok (.lstore_n 3, 1) := by decide +kernel
theorem d_AW_relationsTo_8 : decode y_AW_relationsTo.2.1 8 = .ok (.lconst 1, 1) := by decide +kernel
theorem d_AW_relationsTo_9 : decode y_AW_relationsTo.2.1 9 = .ok (.iload_n 2, 1) := by decide +kernel
theorem d_AW_relationsTo_10 : decode y_AW_relationsTo.2.1 10 = .ok (.lshl, 1) := by decide +kernel
theorem d_AW_relationsTo_11 : decode y_AW_relationsTo.2.1 11 = .ok (.lstore 5, 2) := by decide +kernel
theorem d_AW_relationsTo_13 : decode y_AW_relationsTo.2.1 13 = .ok (.iconst 0, 1) := by decide +kernel
theorem d_AW_relationsTo_14 : decode y_AW_relationsTo.2.1 14 = .ok (.istore 7, 2) := by decide +kernel
theorem d_AW_relationsTo_16 : decode y_AW_relationsTo.2.1 16 = .ok (.lload_n 0, 1) := by decide +kernel
theorem d_AW_relationsTo_17 : decode y_AW_relationsTo.2.1 17 = .ok (.lload_n 3, 1) := by decide +kernel
theorem d_AW_relationsTo_18 : decode y_AW_relationsTo.2.1 18 = .ok (.land, 1) := by decide +kernel
theorem d_AW_relationsTo_19 : decode y_AW_relationsTo.2.1 19 = .ok (.lload 5, 2) := by decide +kernel
theorem d_AW_relationsTo_21 : decode y_AW_relationsTo.2.1 21 = .ok (.ldc2_w 318, 3) := by decide +kernel
theorem d_AW_relationsTo_24 : decode y_AW_relationsTo.2.1 24 = .ok (.lxor, 1) := by decide +kernel
theorem d_AW_relationsTo_25 : decode y_AW_relationsTo.2.1 25 = .ok (.land, 1) := by decide +kernel
theorem d_AW_relationsTo_26 : decode y_AW_relationsTo.2.1 26 = .ok (.lconst 0, 1) := by decide +kernel
theorem d_AW_relationsTo_27 : decode y_AW_relationsTo.2.1 27 = .ok (.lcmp, 1) := by decide +kernel
theorem s_AW_relationsTo_0 : aw_VS y_AW_relationsTo 0 [o_c (.long (2 : Int64)), o_ild 2, o_ls (fun x z => x <<< (z.toInt64 &&& 63)), o_c (.long (1 : Int64)), o_l2 (fun x z => x - z), o_lst 3, o_c (.long (1 : Int64)), o_ild 2, o_ls (fun x z => x <<< (z.toInt64 &&& 63)), o_lst 5, o_c (.int (0 : Int32)), o_ist 7, o_lld 0, o_lld 3, o_l2 (fun x z => x &&& z), o_lld 5, o_c (.long (-1 : Int64)), o_l2 (fun x z => x ^^^ z), o_l2 (fun x z => x &&& z), o_c (.long (0 : Int64)), o_lc] 28 := .cons (v_ldc2 d_AW_relationsTo_0 w_1125) (.cons (v_iload_n (i := 2) d_AW_relationsTo_3 rfl) (.cons (v_lshl d_AW_relationsTo_4) (.cons (v_lconst (v := (1 : Int64)) d_AW_relationsTo_5 (by decide +kernel)) (.cons (v_lsub d_AW_relationsTo_6) (.cons (v_lstore_n d_AW_relationsTo_7) (.cons (v_lconst (v := (1 : Int64)) d_AW_relationsTo_8 (by decide +kernel)) (.cons (v_iload_n (i := 2) d_AW_relationsTo_9 rfl) (.cons (v_lshl d_AW_relationsTo_10) (.cons (v_lstore d_AW_relationsTo_11) (.cons (v_iconst (v := (0 : Int32)) d_AW_relationsTo_13 (by decide +kernel)) (.cons (v_istore d_AW_relationsTo_14) (.cons (v_lload_n (i := 0) d_AW_relationsTo_16 rfl) (.cons (v_lload_n (i := 3) d_AW_relationsTo_17 rfl) (.cons (v_land d_AW_relationsTo_18) (.cons (v_lload (i := 5) d_AW_relationsTo_19) (.cons (v_ldc2 d_AW_relationsTo_21 w_1126) (.cons (v_lxor d_AW_relationsTo_24) (.cons (v_land d_AW_relationsTo_25) (.cons (v_lconst (v := (0 : Int64)) d_AW_relationsTo_26 (by decide +kernel)) (.cons (v_lcmp d_AW_relationsTo_27) .nil))))))))))))))))))))
theorem d_AW_relationsTo_28 : decode y_AW_relationsTo.2.1 28 = .ok (.ifCond .eq (9), 3) := by decide +kernel
theorem d_AW_relationsTo_31 : decode y_AW_relationsTo.2.1 31 = .ok (.iload 7, 2) := by decide +kernel
theorem d_AW_relationsTo_33 : decode y_AW_relationsTo.2.1 33 = .ok (.iconst 1, 1) := by decide +kernel
theorem d_AW_relationsTo_34 : decode y_AW_relationsTo.2.1 34 = .ok (.ior, 1) := by decide +kernel
theorem d_AW_relationsTo_35 : decode y_AW_relationsTo.2.1 35 = .ok (.istore 7, 2) := by decide +kernel
theorem s_AW_relationsTo_31 : aw_VS y_AW_relationsTo 31 [o_ild 7, o_c (.int (1 : Int32)), o_i2 (fun x z => x ||| z), o_ist 7] 37 := .cons (v_iload (i := 7) d_AW_relationsTo_31) (.cons (v_iconst (v := (1 : Int32)) d_AW_relationsTo_33 (by decide +kernel)) (.cons (v_ior d_AW_relationsTo_34) (.cons (v_istore d_AW_relationsTo_35) .nil)))
theorem b_AW_relationsTo_0 {X : aw_X} {d : Nat} {Q : Option Value → aw_H → Prop} {I : Nat → Nat → Int32} {L : Nat → Nat → Int64} {D : Nat → Nat} {v0 : Int64} {v2 : Int32}
    (h1 : (lg_cmp ((v0 &&& (((2 : Int64) <<< (v2.toInt64 &&& 63)) - (1 : Int64))) &&& (((1 : Int64) <<< (v2.toInt64 &&& 63)) ^^^ (-1 : Int64))) (0 : Int64)) = 0 → aw_z X d y_AW_relationsTo Q 37 [some (.long v0), none, none, some (.long (((2 : Int64) <<< (v2.toInt64 &&& 63)) - (1 : Int64))), none, some (.long ((1 : Int64) <<< (v2.toInt64 &&& 63))), none, some (.int (0 : Int32))] [] (aw_s I L D))
    (h2 : ¬ (lg_cmp ((v0 &&& (((2 : Int64) <<< (v2.toInt64 &&& 63)) - (1 : Int64))) &&& (((1 : Int64) <<< (v2.toInt64 &&& 63)) ^^^ (-1 : Int64))) (0 : Int64)) = 0 → aw_z X d y_AW_relationsTo Q 37 [some (.long v0), none, none, some (.long (((2 : Int64) <<< (v2.toInt64 &&& 63)) - (1 : Int64))), none, some (.long ((1 : Int64) <<< (v2.toInt64 &&& 63))), none, some (.int ((0 : Int32) ||| (1 : Int32)))] [] (aw_s I L D)) :
    aw_z X d y_AW_relationsTo Q 0 [some (.long v0), none, some (.int v2), none, none, none, none, none] [] (aw_s I L D) :=
  (s_AW_relationsTo_0.go [some (.long v0), none, some (.int v2), some (.long (((2 : Int64) <<< (v2.toInt64 &&& 63)) - (1 : Int64))), none, some (.long ((1 : Int64) <<< (v2.toInt64 &&& 63))), none, some (.int (0 : Int32))] [.int (lg_cmp ((v0 &&& (((2 : Int64) <<< (v2.toInt64 &&& 63)) - (1 : Int64))) &&& (((1 : Int64) <<< (v2.toInt64 &&& 63)) ^^^ (-1 : Int64))) (0 : Int64))] (aw_s I L D) rfl (z_if_eq (tgt := 37) d_AW_relationsTo_28 rfl (fun q1 => (aw_Z.weak (ls' := [some (.long v0), none, none, some (.long (((2 : Int64) <<< (v2.toInt64 &&& 63)) - (1 : Int64))), none, some (.long ((1 : Int64) <<< (v2.toInt64 &&& 63))), none, some (.int (0 : Int32))]) (h1 q1) (Nat.le_of_ble_eq_true rfl) ⟨Or.inr rfl, ⟨Or.inl rfl, ⟨Or.inl rfl, ⟨Or.inr rfl, ⟨Or.inl rfl, ⟨Or.inr rfl, ⟨Or.inl rfl, ⟨Or.inr rfl, trivial⟩⟩⟩⟩⟩⟩⟩⟩)) (fun q2 => (s_AW_relationsTo_31.go [some (.long v0), none, some (.int v2), some (.long (((2 : Int64) <<< (v2.toInt64 &&& 63)) - (1 : Int64))), none, some (.long ((1 : Int64) <<< (v2.toInt64 &&& 63))), none, some (.int ((0 : Int32) ||| (1 : Int32)))] [] (aw_s I L D) rfl (aw_Z.weak (ls' := [some (.long v0), none, none, some (.long (((2 : Int64) <<< (v2.toInt64 &&& 63)) - (1 : Int64))), none, some (.long ((1 : Int64) <<< (v2.toInt64 &&& 63))), none, some (.int ((0 : Int32) ||| (1 : Int32)))]) (h2 q2) (Nat.le_of_ble_eq_true rfl) ⟨Or.inr rfl, ⟨Or.inl rfl, ⟨Or.inl rfl, ⟨Or.inr rfl, ⟨Or.inl rfl, ⟨Or.inr rfl, ⟨Or.inl rfl, ⟨Or.inr rfl, trivial⟩⟩⟩⟩⟩⟩⟩⟩)))))
theorem d_AW_relationsTo_37 : decode y_AW_relationsTo.2.1 37 = .ok (.lload_n 0, 1) := by decide +kernel
theorem d_AW_relationsTo_38 : decode y_AW_relationsTo.2.1 38 = .ok (.lload 5, 2) := by decide +kernel
theorem d_AW_relationsTo_40 : decode y_AW_relationsTo.2.1 40 = .ok (.land, 1) := by decide +kernel
theorem d_AW_relationsTo_41 : decode y_AW_relationsTo.2.1 41 = .ok (.lconst 0, 1) := by decide +kernel
theorem d_AW_relationsTo_42 : decode y_AW_relationsTo.2.1 42 = .ok (.lcmp, 1) := by decide +kernel
theorem s_AW_relationsTo_37 : aw_VS y_AW_relationsTo 37 [o_lld 0, o_lld 5, o_l2 (fun x z => x &&& z), o_c (.long (0 : Int64)), o_lc] 43 := .cons (v_lload_n (i := 0) d_AW_relationsTo_37 rfl) (.cons (v_lload (i := 5) d_AW_relationsTo_38) (.cons (v_land d_AW_relationsTo_40) (.cons (v_lconst (v := (0 : Int64)) d_AW_relationsTo_41 (by decide +kernel)) (.cons (v_lcmp d_AW_relationsTo_42) .nil))))
theorem d_AW_relationsTo_43 : decode y_AW_relationsTo.2.1 43 = .ok (.ifCond .eq (9), 3) := by decide +kernel
theorem d_AW_relationsTo_46 : decode y_AW_relationsTo.2.1 46 = .ok (.iload 7, 2) := by decide +kernel
theorem d_AW_relationsTo_48 : decode y_AW_relationsTo.2.1 48 = .ok (.iconst 2, 1) := by decide +kernel
theorem d_AW_relationsTo_49 : decode y_AW_relationsTo.2.1 49 = .ok (.ior, 1) := by decide +kernel
theorem d_AW_relationsTo_50 : decode y_AW_relationsTo.2.1 50 = .ok (.istore 7, 2) := by decide +kernel
theorem s_AW_relationsTo_46 : aw_VS y_AW_relationsTo 46 [o_ild 7, o_c (.int (2 : Int32)), o_i2 (fun x z => x ||| z), o_ist 7] 52 := .cons (v_iload (i := 7) d_AW_relationsTo_46) (.cons (v_iconst (v := (2 : Int32)) d_AW_relationsTo_48 (by decide +kernel)) (.cons (v_ior d_AW_relationsTo_49) (.cons (v_istore d_AW_relationsTo_50) .nil)))
theorem b_AW_relationsTo_37 {X : aw_X} {d : Nat} {Q : Option Value → aw_H → Prop} {I : Nat → Nat → Int32} {L : Nat → Nat → Int64} {D : Nat → Nat} {v0 : Int64} {v3 : Int64} {v5 : Int64} {v7 : Int32}
    (h1 : (lg_cmp (v0 &&& v5) (0 : Int64)) = 0 → aw_z X d y_AW_relationsTo Q 52 [some (.long v0), none, none, some (.long v3), none, none, none, some (.int v7)] [] (aw_s I L D))
    (h2 : ¬ (lg_cmp (v0 &&& v5) (0 : Int64)) = 0 → aw_z X d y_AW_relationsTo Q 52 [some (.long v0), none, none, some (.long v3), none, none, none, some (.int (v7 ||| (2 : Int32)))] [] (aw_s I L D)) :
    aw_z X d y_AW_relationsTo Q 37 [some (.long v0), none, none, some (.long v3), none, some (.long v5), none, some (.int v7)] [] (aw_s I L D) :=
  (s_AW_relationsTo_37.go [some (.long v0), none, none, some (.long v3), none, some (.long v5), none, some (.int v7)] [.int (lg_cmp (v0 &&& v5) (0 : Int64))] (aw_s I L D) rfl (z_if_eq (tgt := 52) d_AW_relationsTo_43 rfl (fun q1 => (aw_Z.weak (ls' := [some (.long v0), none, none, some (.long v3), none, none, none, some (.int v7)]) (h1 q1) (Nat.le_of_ble_eq_true rfl) ⟨Or.inr rfl, ⟨Or.inl rfl, ⟨Or.inl rfl, ⟨Or.inr rfl, ⟨Or.inl rfl, ⟨Or.inl rfl, ⟨Or.inl rfl, ⟨Or.inr rfl, trivial⟩⟩⟩⟩⟩⟩⟩⟩)) (fun q2 => (s_AW_relationsTo_46.go [some (.long v0), none, none, some (.long v3), none, some (.long v5), none, some (.int (v7 ||| (2 : Int32)))] [] (aw_s I L D) rfl (aw_Z.weak (ls' := [some (.long v0), none, none, some (.long v3), none, none, none, some (.int (v7 ||| (2 : Int32)))]) (h2 q2) (Nat.le_of_ble_eq_true rfl) ⟨Or.inr rfl, ⟨Or.inl rfl, ⟨Or.inl rfl, ⟨Or.inr rfl, ⟨Or.inl rfl, ⟨Or.inl rfl, ⟨Or.inl rfl, ⟨Or.inr rfl, trivial⟩⟩⟩⟩⟩⟩⟩⟩)))))
theorem d_AW_relationsTo_52 : decode y_AW_relationsTo.2.1 52 = .ok (.lload_n 0, 1) := by decide +kernel
theorem d_AW_relationsTo_53 : decode y_AW_relationsTo.2.1 53 = .ok (.lload_n 3, 1) := by decide +kernel
theorem d_AW_relationsTo_54 : decode y_AW_relationsTo.2.1 54 = .ok (.ldc2_w 318, 3) := by decide +kernel
theorem d_AW_relationsTo_57 : decode y_AW_relationsTo.2.1 57 = .ok (.lxor, 1) := by decide +kernel
theorem d_AW_relationsTo_58 : decode y_AW_relationsTo.2.1 58 = .ok (.land, 1) := by decide +kernel
theorem d_AW_relationsTo_59 : decode y_AW_relationsTo.2.1 59 = .ok (.lconst 0, 1) := by decide +kernel
theorem d_AW_relationsTo_60 : decode y_AW_relationsTo.2.1 60 = .ok (.lcmp, 1) := by decide +kernel
theorem s_AW_relationsTo_52 : aw_VS y_AW_relationsTo 52 [o_lld 0, o_lld 3, o_c (.long (-1 : Int64)), o_l2 (fun x z => x ^^^ z), o_l2 (fun x z => x &&& z), o_c (.long (0 : Int64)), o_lc] 61 := .cons (v_lload_n (i := 0) d_AW_relationsTo_52 rfl) (.cons (v_lload_n (i := 3) d_AW_relationsTo_53 rfl) (.cons (v_ldc2 d_AW_relationsTo_54 w_1126) (.cons (v_lxor d_AW_relationsTo_57) (.cons (v_land d_AW_relationsTo_58) (.cons (v_lconst (v := (0 : Int64)) d_AW_relationsTo_59 (by decide +kernel)) (.cons (v_lcmp d_AW_relationsTo_60) .nil))))))
theorem d_AW_relationsTo_61 : decode y_AW_relationsTo.2.1 61 = .ok (.ifCond .eq (9), 3) := by decide +kernel
theorem d_AW_relationsTo_70 : decode y_AW_relationsTo.2.1 70 = .ok (.iload 7, 2) := by decide +kernel
theorem s_AW_relationsTo_70 : aw_VS y_AW_relationsTo 70 [o_ild 7] 72 := .cons (v_iload (i := 7) d_AW_relationsTo_70) .nil
theorem d_AW_relationsTo_72 : decode y_AW_relationsTo.2.1 72 = .ok (.ireturn, 1) := by decide +kernel
theorem d_AW_relationsTo_64 : decode y_AW_relationsTo.2.1 64 = .ok (.iload 7, 2) := by decide +kernel
theorem d_AW_relationsTo_66 : decode y_AW_relationsTo.2.1 66 = .ok (.iconst 4, 1) := by decide +kernel
theorem d_AW_relationsTo_67 : decode y_AW_relationsTo.2.1 67 = .ok (.ior, 1) := by decide +kernel
theorem d_AW_relationsTo_68 : decode y_AW_relationsTo.2.1 68 = .ok (.istore 7, 2) := by decide +kernel
theorem s_AW_relationsTo_64 : aw_VS y_AW_relationsTo 64 [o_ild 7, o_c (.int (4 : Int32)), o_i2 (fun x z => x ||| z), o_ist 7] 70 := .cons (v_iload (i := 7) d_AW_relationsTo_64) (.cons (v_iconst (v := (4 : Int32)) d_AW_relationsTo_66 (by decide +kernel)) (.cons (v_ior d_AW_relationsTo_67) (.cons (v_istore d_AW_relationsTo_68) .nil)))
theorem b_AW_relationsTo_52 {X : aw_X} {d : Nat} {Q : Option Value → aw_H → Prop} {I : Nat → Nat → Int32} {L : Nat → Nat → Int64} {D : Nat → Nat} {v0 : Int64} {v3 : Int64} {v7 : Int32}
    (h1 : (lg_cmp (v0 &&& (v3 ^^^ (-1 : Int64))) (0 : Int64)) = 0 → Q (some (.int v7)) (aw_s I L D))
    (h2 : ¬ (lg_cmp (v0 &&& (v3 ^^^ (-1 : Int64))) (0 : Int64)) = 0 → Q (some (.int (v7 ||| (4 : Int32)))) (aw_s I L D)) :
    aw_z X d y_AW_relationsTo Q 52 [some (.long v0), none, none, some (.long v3), none, none, none, some (.int v7)] [] (aw_s I L D) :=
  (s_AW_relationsTo_52.go [some (.long v0), none, none, some (.long v3), none, none, none, some (.int v7)] [.int (lg_cmp (v0 &&& (v3 ^^^ (-1 : Int64))) (0 : Int64))] (aw_s I L D) rfl (z_if_eq (tgt := 70) d_AW_relationsTo_61 rfl (fun q1 => (s_AW_relationsTo_70.go [some (.long v0), none, none, some (.long v3), none, none, none, some (.int v7)] [.int v7] (aw_s I L D) rfl (z_iret d_AW_relationsTo_72 rfl rfl (h1 q1)))) (fun q2 => (s_AW_relationsTo_64.go [some (.long v0), none, none, some (.long v3), none, none, none, some (.int (v7 ||| (4 : Int32)))] [] (aw_s I L D) rfl (s_AW_relationsTo_70.go [some (.long v0), none, none, some (.long v3), none, none, none, some (.int (v7 ||| (4 : Int32)))] [.int (v7 ||| (4 : Int32))] (aw_s I L D) rfl (z_iret d_AW_relationsTo_72 rfl rfl (h2 q2)))))))
/-! AW_cover -/
theorem d_AW_cover_0 : decode y_AW_cover.2.1 0 = .ok (.aload_n 0, 1) := by decide +kernel
theorem d_AW_cover_1 : decode y_AW_cover.2.1 1 = .ok (.getfield 35, 3) := by decide +kernel
theorem d_AW_cover_4 : decode y_AW_cover.2.1 4 = .ok (.getfield 222, 3) := by decide +kernel
theorem s_AW_cover_0 : aw_VS y_AW_cover 0 [o_ald 0, o_getA 0 3, o_getI 4 0] 7 := .cons (v_aload_n (i := 0) d_AW_cover_0 rfl) (.cons (v_getA (k := 3) k_AW (by decide) rfl (Or.inl w_493) d_AW_cover_1) (.cons (v_getI (k := 0) k_Wk (by decide) (Or.inr rfl) (Or.inr ⟨"AllWays", w_288⟩) d_AW_cover_4) .nil))
theorem d_AW_cover_7 : decode y_AW_cover.2.1 7 = .ok (.ifCond .ne (5), 3) := by decide +kernel
theorem d_AW_cover_12 : decode y_AW_cover.2.1 12 = .ok (.aload_n 0, 1) := by decide +kernel
theorem d_AW_cover_13 : decode y_AW_cover.2.1 13 = .ok (.getfield 35, 3) := by decide +kernel
theorem d_AW_cover_16 : decode y_AW_cover.2.1 16 = .ok (.aload_n 0, 1) := by decide +kernel
theorem d_AW_cover_17 : decode y_AW_cover.2.1 17 = .ok (.getfield 71, 3) := by decide +kernel
theorem s_AW_cover_12 : aw_VS y_AW_cover 12 [o_ald 0, o_getA 0 3, o_ald 0, o_getA 0 10] 20 := .cons (v_aload_n (i := 0) d_AW_cover_12 rfl) (.cons (v_getA (k := 3) k_AW (by decide) rfl (Or.inl w_493) d_AW_cover_13) (.cons (v_aload_n (i := 0) d_AW_cover_16 rfl) (.cons (v_getA (k := 10) k_AW (by decide) rfl (Or.inl w_500) d_AW_cover_17) .nil)))
theorem d_AW_cover_20 : decode y_AW_cover.2.1 20 = .ok (.invokevirtual 226, 3) := by decide +kernel
theorem d_AW_cover_10 : decode y_AW_cover.2.1 10 = .ok (.iconst (-1), 1) := by decide +kernel
theorem s_AW_cover_10 : aw_VS y_AW_cover 10 [o_c (.int (-1 : Int32))] 11 := .cons (v_iconst (v := (-1 : Int32)) d_AW_cover_10 (by decide +kernel)) .nil
theorem d_AW_cover_11 : decode y_AW_cover.2.1 11 = .ok (.ireturn, 1) := by decide +kernel
theorem b_AW_cover_0 {X : aw_X} {d : Nat} {Q : Option Value → aw_H → Prop} {I : Nat → Nat → Int32} {L : Nat → Nat → Int64} {D : Nat → Nat} 
    (h1 : ¬ (I 11 0) = 0 → aw_m X d y_Wk_findCover [.ref 11, .ref 66] (aw_s I L D) (fun r A => aw_z X (d + 1) y_AW_cover Q 23 [some (.ref 0), none] (r.toList ++ []) A))
    (h2 : (I 11 0) = 0 → Q (some (.int (-1 : Int32))) (aw_s I L D)) :
    aw_z X (d + 1) y_AW_cover Q 0 [some (.ref 0), none] [] (aw_s I L D) :=
  (s_AW_cover_0.go [some (.ref 0), none] [.int (I 11 0)] (aw_s I L D) rfl (z_if_ne (tgt := 12) d_AW_cover_7 rfl (fun q1 => (s_AW_cover_12.go [some (.ref 0), none] [.ref 66, .ref 11] (aw_s I L D) rfl (z_callV (av := [.ref 66]) (st := []) ok_Wk_findCover (Or.inl w_1131) w_1132 w_1133 k_Wk d_AW_cover_20 rfl (aw_lt (o := 11) rfl) rfl rfl (Nat.le_of_ble_eq_true rfl) (Nat.le_refl _) (Nat.le_refl _) (h1 q1)))) (fun q2 => (s_AW_cover_10.go [some (.ref 0), none] [.int (-1 : Int32)] (aw_s I L D) rfl (z_iret d_AW_cover_11 rfl rfl (h2 q2))))))
theorem d_AW_cover_23 : decode y_AW_cover.2.1 23 = .ok (.istore_n 1, 1) := by decide +kernel
theorem d_AW_cover_24 : decode y_AW_cover.2.1 24 = .ok (.iload_n 1, 1) := by decide +kernel
theorem d_AW_cover_25 : decode y_AW_cover.2.1 25 = .ok (.iconst (-1), 1) := by decide +kernel
theorem s_AW_cover_23 : aw_VS y_AW_cover 23 [o_ist 1, o_ild 1, o_c (.int (-1 : Int32))] 26 := .cons (v_istore_n d_AW_cover_23) (.cons (v_iload_n (i := 1) d_AW_cover_24 rfl) (.cons (v_iconst (v := (-1 : Int32)) d_AW_cover_25 (by decide +kernel)) .nil))
theorem d_AW_cover_26 : decode y_AW_cover.2.1 26 = .ok (.if_icmp .eq (8), 3) := by decide +kernel
theorem d_AW_cover_34 : decode y_AW_cover.2.1 34 = .ok (.iload_n 1, 1) := by decide +kernel
theorem s_AW_cover_34 : aw_VS y_AW_cover 34 [o_ild 1] 35 := .cons (v_iload_n (i := 1) d_AW_cover_34 rfl) .nil
theorem d_AW_cover_35 : decode y_AW_cover.2.1 35 = .ok (.ireturn, 1) := by decide +kernel
theorem d_AW_cover_29 : decode y_AW_cover.2.1 29 = .ok (.aload_n 0, 1) := by decide +kernel
theorem d_AW_cover_30 : decode y_AW_cover.2.1 30 = .ok (.iload_n 1, 1) := by decide +kernel
theorem d_AW_cover_31 : decode y_AW_cover.2.1 31 = .ok (.putfield 230, 3) := by decide +kernel
theorem s_AW_cover_29 : aw_VS y_AW_cover 29 [o_ald 0, o_ild 1, o_putI 0 11] 34 := .cons (v_aload_n (i := 0) d_AW_cover_29 rfl) (.cons (v_iload_n (i := 1) d_AW_cover_30 rfl) (.cons (v_putI (k := 11) k_AW (by decide) rfl (Or.inl ⟨rfl, Or.inl w_501⟩) d_AW_cover_31) .nil))
theorem b_AW_cover_23 {X : aw_X} {d : Nat} {Q : Option Value → aw_H → Prop} {I : Nat → Nat → Int32} {L : Nat → Nat → Int64} {D : Nat → Nat} {s0 : Int32}
    (h1 : s0 = (-1 : Int32) → Q (some (.int s0)) (aw_s I L D))
    (h2 : ¬ s0 = (-1 : Int32) → Q (some (.int s0)) (aw_s (aw_u I 0 11 s0) L D)) :
    aw_z X (d + 1) y_AW_cover Q 23 [some (.ref 0), none] [.int s0] (aw_s I L D) :=
  (s_AW_cover_23.go [some (.ref 0), some (.int s0)] [.int (-1 : Int32), .int s0] (aw_s I L D) rfl (z_icmp_eq (tgt := 34) d_AW_cover_26 rfl (fun q1 => (s_AW_cover_34.go [some (.ref 0), some (.int s0)] [.int s0] (aw_s I L D) rfl (z_iret d_AW_cover_35 rfl rfl (h1 q1)))) (fun q2 => (s_AW_cover_29.go [some (.ref 0), some (.int s0)] [] (aw_s (aw_u I 0 11 s0) L D) rfl (s_AW_cover_34.go [some (.ref 0), some (.int s0)] [.int s0] (aw_s (aw_u I 0 11 s0) L D) rfl (z_iret d_AW_cover_35 rfl rfl (h2 q2)))))))
/-! AW_coverAt -/
theorem d_AW_coverAt_0 : decode y_AW_coverAt.2.1 0 = .ok (.iload_n 1, 1) := by decide +kernel
theorem s_AW_coverAt_0 : aw_VS y_AW_coverAt 0 [o_ild 1] 1 := .cons (v_iload_n (i := 1) d_AW_coverAt_0 rfl) .nil
theorem d_AW_coverAt_1 : decode y_AW_coverAt.2.1 1 = .ok (.ifCond .lt (29), 3) := by decide +kernel
theorem d_AW_coverAt_30 : decode y_AW_coverAt.2.1 30 = .ok (.iconst (-1), 1) := by decide +kernel
theorem s_AW_coverAt_30 : aw_VS y_AW_coverAt 30 [o_c (.int (-1 : Int32))] 31 := .cons (v_iconst (v := (-1 : Int32)) d_AW_coverAt_30 (by decide +kernel)) .nil
theorem d_AW_coverAt_31 : decode y_AW_coverAt.2.1 31 = .ok (.ireturn, 1) := by decide +kernel
theorem d_AW_coverAt_4 : decode y_AW_coverAt.2.1 4 = .ok (.iload_n 1, 1) := by decide +kernel
theorem d_AW_coverAt_5 : decode y_AW_coverAt.2.1 5 = .ok (.aload_n 0, 1) := by decide +kernel
theorem d_AW_coverAt_6 : decode y_AW_coverAt.2.1 6 = .ok (.getfield 230, 3) := by decide +kernel
theorem s_AW_coverAt_4 : aw_VS y_AW_coverAt 4 [o_ild 1, o_ald 0, o_getI 0 11] 9 := .cons (v_iload_n (i := 1) d_AW_coverAt_4 rfl) (.cons (v_aload_n (i := 0) d_AW_coverAt_5 rfl) (.cons (v_getI (k := 11) k_AW (by decide) (Or.inl rfl) (Or.inl w_501) d_AW_coverAt_6) .nil))
theorem d_AW_coverAt_9 : decode y_AW_coverAt.2.1 9 = .ok (.if_icmp .ge (21), 3) := by decide +kernel
theorem d_AW_coverAt_12 : decode y_AW_coverAt.2.1 12 = .ok (.iload_n 1, 1) := by decide +kernel
theorem d_AW_coverAt_13 : decode y_AW_coverAt.2.1 13 = .ok (.aload_n 0, 1) := by decide +kernel
theorem d_AW_coverAt_14 : decode y_AW_coverAt.2.1 14 = .ok (.getfield 71, 3) := by decide +kernel
theorem d_AW_coverAt_17 : decode y_AW_coverAt.2.1 17 = .ok (.arraylength, 1) := by decide +kernel
theorem s_AW_coverAt_12 : aw_VS y_AW_coverAt 12 [o_ild 1, o_ald 0, o_getA 0 10, o_alen] 18 := .cons (v_iload_n (i := 1) d_AW_coverAt_12 rfl) (.cons (v_aload_n (i := 0) d_AW_coverAt_13 rfl) (.cons (v_getA (k := 10) k_AW (by decide) rfl (Or.inl w_500) d_AW_coverAt_14) (.cons (v_alen d_AW_coverAt_17) .nil)))
theorem d_AW_coverAt_18 : decode y_AW_coverAt.2.1 18 = .ok (.if_icmp .ge (12), 3) := by decide +kernel
theorem d_AW_coverAt_21 : decode y_AW_coverAt.2.1 21 = .ok (.aload_n 0, 1) := by decide +kernel
theorem d_AW_coverAt_22 : decode y_AW_coverAt.2.1 22 = .ok (.getfield 71, 3) := by decide +kernel
theorem d_AW_coverAt_25 : decode y_AW_coverAt.2.1 25 = .ok (.iload_n 1, 1) := by decide +kernel
theorem s_AW_coverAt_21 : aw_VS y_AW_coverAt 21 [o_ald 0, o_getA 0 10, o_ild 1] 26 := .cons (v_aload_n (i := 0) d_AW_coverAt_21 rfl) (.cons (v_getA (k := 10) k_AW (by decide) rfl (Or.inl w_500) d_AW_coverAt_22) (.cons (v_iload_n (i := 1) d_AW_coverAt_25 rfl) .nil))
theorem d_AW_coverAt_26 : decode y_AW_coverAt.2.1 26 = .ok (.iaload, 1) := by decide +kernel
theorem d_AW_coverAt_27 : decode y_AW_coverAt.2.1 27 = .ok (.goto (4), 3) := by decide +kernel
theorem b_AW_coverAt_0 {X : aw_X} {d : Nat} {Q : Option Value → aw_H → Prop} {I : Nat → Nat → Int32} {L : Nat → Nat → Int64} {D : Nat → Nat} {v1 : Int32}
    (h1 : v1 < 0 → Q (some (.int (-1 : Int32))) (aw_s I L D))
    (h2 : ¬ v1 < 0 → (I 0 11) ≤ v1 → Q (some (.int (-1 : Int32))) (aw_s I L D))
    (h3 : ¬ v1 < 0 → ¬ (I 0 11) ≤ v1 → (2 : Int32) ≤ v1 → Q (some (.int (-1 : Int32))) (aw_s I L D))
    (h4 : ¬ v1 < 0 → ¬ (I 0 11) ≤ v1 → ¬ (2 : Int32) ≤ v1 → vp_in v1 2)
    (h5 : ¬ v1 < 0 → ¬ (I 0 11) ≤ v1 → ¬ (2 : Int32) ≤ v1 → Q (some (.int (I 66 v1.toNatClampNeg))) (aw_s I L D)) :
    aw_z X d y_AW_coverAt Q 0 [some (.ref 0), some (.int v1)] [] (aw_s I L D) :=
  (s_AW_coverAt_0.go [some (.ref 0), some (.int v1)] [.int v1] (aw_s I L D) rfl (z_if_lt (tgt := 30) d_AW_coverAt_1 rfl (fun q1 => (s_AW_coverAt_30.go [some (.ref 0), some (.int v1)] [.int (-1 : Int32)] (aw_s I L D) rfl (z_iret d_AW_coverAt_31 rfl rfl (h1 q1)))) (fun q2 => (s_AW_coverAt_4.go [some (.ref 0), some (.int v1)] [.int (I 0 11), .int v1] (aw_s I L D) rfl (z_icmp_ge (tgt := 30) d_AW_coverAt_9 rfl (fun q3 => (s_AW_coverAt_30.go [some (.ref 0), some (.int v1)] [.int (-1 : Int32)] (aw_s I L D) rfl (z_iret d_AW_coverAt_31 rfl rfl (h2 q2 q3)))) (fun q4 => (s_AW_coverAt_12.go [some (.ref 0), some (.int v1)] [.int (2 : Int32), .int v1] (aw_s I L D) rfl (z_icmp_ge (tgt := 30) d_AW_coverAt_18 rfl (fun q5 => (s_AW_coverAt_30.go [some (.ref 0), some (.int v1)] [.int (-1 : Int32)] (aw_s I L D) rfl (z_iret d_AW_coverAt_31 rfl rfl (h3 q2 q4 q5)))) (fun q6 => (s_AW_coverAt_21.go [some (.ref 0), some (.int v1)] [.int v1, .ref 66] (aw_s I L D) rfl (z_iald (n := 2) rfl (aw_lt (o := 66) rfl) (h4 q2 q4 q6) d_AW_coverAt_26 (z_goto (tgt := 31) d_AW_coverAt_27 rfl (z_iret d_AW_coverAt_31 rfl rfl (h5 q2 q4 q6))))))))))))))
/-! AW_alike -/
theorem d_AW_alike_0 : decode y_AW_alike.2.1 0 = .ok (.aload_n 0, 1) := by decide +kernel
theorem d_AW_alike_1 : decode y_AW_alike.2.1 1 = .ok (.iload_n 1, 1) := by decide +kernel
theorem s_AW_alike_0 : aw_VS y_AW_alike 0 [o_ald 0, o_ild 1] 2 := .cons (v_aload_n (i := 0) d_AW_alike_0 rfl) (.cons (v_iload_n (i := 1) d_AW_alike_1 rfl) .nil)
theorem d_AW_alike_2 : decode y_AW_alike.2.1 2 = .ok (.invokevirtual 102, 3) := by decide +kernel
theorem b_AW_alike_0 {X : aw_X} {d : Nat} {Q : Option Value → aw_H → Prop} {I : Nat → Nat → Int32} {L : Nat → Nat → Int64} {D : Nat → Nat} {v1 : Int32} {v2 : Int32} {v3 : Int32}
    (h1 : aw_m X d y_AW_programAt [.ref 0, .int v1] (aw_s I L D) (fun r A => aw_z X (d + 1) y_AW_alike Q 5 [some (.ref 0), none, some (.int v2), some (.int v3), none, none, none] (r.toList ++ []) A)) :
    aw_z X (d + 1) y_AW_alike Q 0 [some (.ref 0), some (.int v1), some (.int v2), some (.int v3), none, none, none] [] (aw_s I L D) :=
  (s_AW_alike_0.go [some (.ref 0), some (.int v1), some (.int v2), some (.int v3), none, none, none] [.int v1, .ref 0] (aw_s I L D) rfl (z_callV (av := [.int v1]) (st := []) ok_AW_programAt (Or.inl w_569) w_571 w_0 k_AW d_AW_alike_2 rfl (aw_lt (o := 0) rfl) rfl rfl (Nat.le_of_ble_eq_true rfl) (Nat.le_refl _) (Nat.le_refl _) (aw_C.mono (h1) (fun _ _ zz => aw_Z.weak (ls' := [some (.ref 0), none, some (.int v2), some (.int v3), none, none, none]) zz (Nat.le_of_ble_eq_true rfl) ⟨Or.inr rfl, ⟨Or.inl rfl, ⟨Or.inr rfl, ⟨Or.inr rfl, ⟨Or.inl rfl, ⟨Or.inl rfl, ⟨Or.inl rfl, trivial⟩⟩⟩⟩⟩⟩⟩))))
theorem d_AW_alike_5 : decode y_AW_alike.2.1 5 = .ok (.astore 4, 2) := by decide +kernel
theorem d_AW_alike_7 : decode y_AW_alike.2.1 7 = .ok (.aload_n 0, 1) := by decide +kernel
theorem d_AW_alike_8 : decode y_AW_alike.2.1 8 = .ok (.iload_n 2, 1) := by decide +kernel
theorem s_AW_alike_5 : aw_VS y_AW_alike 5 [o_ast 4, o_ald 0, o_ild 2] 9 := .cons (v_astore d_AW_alike_5) (.cons (v_aload_n (i := 0) d_AW_alike_7 rfl) (.cons (v_iload_n (i := 2) d_AW_alike_8 rfl) .nil))
theorem d_AW_alike_9 : decode y_AW_alike.2.1 9 = .ok (.invokevirtual 102, 3) := by decide +kernel
theorem b_AW_alike_5 {X : aw_X} {d : Nat} {Q : Option Value → aw_H → Prop} {I : Nat → Nat → Int32} {L : Nat → Nat → Int64} {D : Nat → Nat} {v2 : Int32} {v3 : Int32} {t0 : Nat}
    (h1 : aw_m X d y_AW_programAt [.ref 0, .int v2] (aw_s I L D) (fun r A => aw_z X (d + 1) y_AW_alike Q 12 [some (.ref 0), none, none, some (.int v3), some (.ref t0), none, none] (r.toList ++ []) A)) :
    aw_z X (d + 1) y_AW_alike Q 5 [some (.ref 0), none, some (.int v2), some (.int v3), none, none, none] [.ref t0] (aw_s I L D) :=
  (s_AW_alike_5.go [some (.ref 0), none, some (.int v2), some (.int v3), some (.ref t0), none, none] [.int v2, .ref 0] (aw_s I L D) rfl (z_callV (av := [.int v2]) (st := []) ok_AW_programAt (Or.inl w_569) w_571 w_0 k_AW d_AW_alike_9 rfl (aw_lt (o := 0) rfl) rfl rfl (Nat.le_of_ble_eq_true rfl) (Nat.le_refl _) (Nat.le_refl _) (aw_C.mono (h1) (fun _ _ zz => aw_Z.weak (ls' := [some (.ref 0), none, none, some (.int v3), some (.ref t0), none, none]) zz (Nat.le_of_ble_eq_true rfl) ⟨Or.inr rfl, ⟨Or.inl rfl, ⟨Or.inl rfl, ⟨Or.inr rfl, ⟨Or.inr rfl, ⟨Or.inl rfl, ⟨Or.inl rfl, trivial⟩⟩⟩⟩⟩⟩⟩))))
theorem b_AW_alike_5a {X : aw_X} {d : Nat} {Q : Option Value → aw_H → Prop} {I : Nat → Nat → Int32} {L : Nat → Nat → Int64} {D : Nat → Nat} {v2 : Int32} {v3 : Int32}
    (h1 : aw_m X d y_AW_programAt [.ref 0, .int v2] (aw_s I L D) (fun r A => aw_z X (d + 1) y_AW_alike Q 12 [some (.ref 0), none, none, some (.int v3), some .null, none, none] (r.toList ++ []) A)) :
    aw_z X (d + 1) y_AW_alike Q 5 [some (.ref 0), none, some (.int v2), some (.int v3), none, none, none] [.null] (aw_s I L D) :=
  (s_AW_alike_5.go [some (.ref 0), none, some (.int v2), some (.int v3), some .null, none, none] [.int v2, .ref 0] (aw_s I L D) rfl (z_callV (av := [.int v2]) (st := []) ok_AW_programAt (Or.inl w_569) w_571 w_0 k_AW d_AW_alike_9 rfl (aw_lt (o := 0) rfl) rfl rfl (Nat.le_of_ble_eq_true rfl) (Nat.le_refl _) (Nat.le_refl _) (aw_C.mono (h1) (fun _ _ zz => aw_Z.weak (ls' := [some (.ref 0), none, none, some (.int v3), some .null, none, none]) zz (Nat.le_of_ble_eq_true rfl) ⟨Or.inr rfl, ⟨Or.inl rfl, ⟨Or.inl rfl, ⟨Or.inr rfl, ⟨Or.inr rfl, ⟨Or.inl rfl, ⟨Or.inl rfl, trivial⟩⟩⟩⟩⟩⟩⟩))))
theorem d_AW_alike_12 : decode y_AW_alike.2.1 12 = .ok (.astore 5, 2) := by decide +kernel
theorem d_AW_alike_14 : decode y_AW_alike.2.1 14 = .ok (.aload 4, 2) := by decide +kernel
theorem s_AW_alike_12 : aw_VS y_AW_alike 12 [o_ast 5, o_ald 4] 16 := .cons (v_astore d_AW_alike_12) (.cons (v_aload (i := 4) d_AW_alike_14) .nil)
theorem d_AW_alike_16 : decode y_AW_alike.2.1 16 = .ok (.ifnull (15), 3) := by decide +kernel
theorem d_AW_alike_19 : decode y_AW_alike.2.1 19 = .ok (.aload 5, 2) := by decide +kernel
theorem s_AW_alike_19 : aw_VS y_AW_alike 19 [o_ald 5] 21 := .cons (v_aload (i := 5) d_AW_alike_19) .nil
theorem d_AW_alike_21 : decode y_AW_alike.2.1 21 = .ok (.ifnull (10), 3) := by decide +kernel
theorem d_AW_alike_24 : decode y_AW_alike.2.1 24 = .ok (.iload_n 3, 1) := by decide +kernel
theorem s_AW_alike_24 : aw_VS y_AW_alike 24 [o_ild 3] 25 := .cons (v_iload_n (i := 3) d_AW_alike_24 rfl) .nil
theorem d_AW_alike_25 : decode y_AW_alike.2.1 25 = .ok (.invokestatic 136, 3) := by decide +kernel
theorem b_AW_alike_12 {X : aw_X} {d : Nat} {Q : Option Value → aw_H → Prop} {I : Nat → Nat → Int32} {L : Nat → Nat → Int64} {D : Nat → Nat} {v3 : Int32} {c4 : Nat} {t0 : Nat}
    (h1 : aw_m X d y_AW_isFuel [.int v3] (aw_s I L D) (fun r A => aw_z X (d + 1) y_AW_alike Q 28 [some (.ref 0), none, none, some (.int v3), some (.ref c4), some (.ref t0), none] (r.toList ++ []) A)) :
    aw_z X (d + 1) y_AW_alike Q 12 [some (.ref 0), none, none, some (.int v3), some (.ref c4), none, none] [.ref t0] (aw_s I L D) :=
  (s_AW_alike_12.go [some (.ref 0), none, none, some (.int v3), some (.ref c4), some (.ref t0), none] [.ref c4] (aw_s I L D) rfl (z_ifnull d_AW_alike_16 (s_AW_alike_19.go [some (.ref 0), none, none, some (.int v3), some (.ref c4), some (.ref t0), none] [.ref t0] (aw_s I L D) rfl (z_ifnull d_AW_alike_21 (s_AW_alike_24.go [some (.ref 0), none, none, some (.int v3), some (.ref c4), some (.ref t0), none] [.int v3] (aw_s I L D) rfl (z_callS (av := [.int v3]) (st := []) ok_AW_isFuel (Or.inl w_874) w_875 d_AW_alike_25 rfl rfl (Nat.le_of_ble_eq_true rfl) (Nat.le_refl _) (Nat.le_refl _) (h1)))))))
theorem d_AW_alike_31 : decode y_AW_alike.2.1 31 = .ok (.bipush (-2), 2) := by decide +kernel
theorem s_AW_alike_31 : aw_VS y_AW_alike 31 [o_c (.int (-2 : Int32))] 33 := .cons (v_bipush (v := (-2 : Int32)) d_AW_alike_31 (by decide +kernel)) .nil
theorem d_AW_alike_33 : decode y_AW_alike.2.1 33 = .ok (.ireturn, 1) := by decide +kernel
theorem b_AW_alike_12a {X : aw_X} {d : Nat} {Q : Option Value → aw_H → Prop} {I : Nat → Nat → Int32} {L : Nat → Nat → Int64} {D : Nat → Nat} {v3 : Int32} {c4 : Nat}
    (h1 : Q (some (.int (-2 : Int32))) (aw_s I L D)) :
    aw_z X (d + 1) y_AW_alike Q 12 [some (.ref 0), none, none, some (.int v3), some (.ref c4), none, none] [.null] (aw_s I L D) :=
  (s_AW_alike_12.go [some (.ref 0), none, none, some (.int v3), some (.ref c4), some .null, none] [.ref c4] (aw_s I L D) rfl (z_ifnull d_AW_alike_16 (s_AW_alike_19.go [some (.ref 0), none, none, some (.int v3), some (.ref c4), some .null, none] [.null] (aw_s I L D) rfl (z_ifnullN (tgt := 31) d_AW_alike_21 rfl (s_AW_alike_31.go [some (.ref 0), none, none, some (.int v3), some (.ref c4), some .null, none] [.int (-2 : Int32)] (aw_s I L D) rfl (z_iret d_AW_alike_33 rfl rfl (h1)))))))
theorem b_AW_alike_12b {X : aw_X} {d : Nat} {Q : Option Value → aw_H → Prop} {I : Nat → Nat → Int32} {L : Nat → Nat → Int64} {D : Nat → Nat} {v3 : Int32} {t0 : Nat}
    (h1 : Q (some (.int (-2 : Int32))) (aw_s I L D)) :
    aw_z X (d + 1) y_AW_alike Q 12 [some (.ref 0), none, none, some (.int v3), some .null, none, none] [.ref t0] (aw_s I L D) :=
  (s_AW_alike_12.go [some (.ref 0), none, none, some (.int v3), some .null, some (.ref t0), none] [.null] (aw_s I L D) rfl (z_ifnullN (tgt := 31) d_AW_alike_16 rfl (s_AW_alike_31.go [some (.ref 0), none, none, some (.int v3), some .null, some (.ref t0), none] [.int (-2 : Int32)] (aw_s I L D) rfl (z_iret d_AW_alike_33 rfl rfl (h1)))))
theorem b_AW_alike_12c {X : aw_X} {d : Nat} {Q : Option Value → aw_H → Prop} {I : Nat → Nat → Int32} {L : Nat → Nat → Int64} {D : Nat → Nat} {v3 : Int32}
    (h1 : Q (some (.int (-2 : Int32))) (aw_s I L D)) :
    aw_z X (d + 1) y_AW_alike Q 12 [some (.ref 0), none, none, some (.int v3), some .null, none, none] [.null] (aw_s I L D) :=
  (s_AW_alike_12.go [some (.ref 0), none, none, some (.int v3), some .null, some .null, none] [.null] (aw_s I L D) rfl (z_ifnullN (tgt := 31) d_AW_alike_16 rfl (s_AW_alike_31.go [some (.ref 0), none, none, some (.int v3), some .null, some .null, none] [.int (-2 : Int32)] (aw_s I L D) rfl (z_iret d_AW_alike_33 rfl rfl (h1)))))
theorem d_AW_alike_28 : decode y_AW_alike.2.1 28 = .ok (.ifCond .ne (6), 3) := by decide +kernel
theorem d_AW_alike_34 : decode y_AW_alike.2.1 34 = .ok (.iconst 0, 1) := by decide +kernel
theorem d_AW_alike_35 : decode y_AW_alike.2.1 35 = .ok (.istore 6, 2) := by decide +kernel
theorem s_AW_alike_34 : aw_VS y_AW_alike 34 [o_c (.int (0 : Int32)), o_ist 6] 37 := .cons (v_iconst (v := (0 : Int32)) d_AW_alike_34 (by decide +kernel)) (.cons (v_istore d_AW_alike_35) .nil)
theorem b_AW_alike_28 {X : aw_X} {d : Nat} {Q : Option Value → aw_H → Prop} {I : Nat → Nat → Int32} {L : Nat → Nat → Int64} {D : Nat → Nat} {v3 : Int32} {c4 : Nat} {c5 : Nat} {s0 : Int32}
    (h1 : ¬ s0 = 0 → aw_z X (d + 1) y_AW_alike Q 37 [some (.ref 0), none, none, some (.int v3), some (.ref c4), some (.ref c5), some (.int (0 : Int32))] [] (aw_s I L D))
    (h2 : s0 = 0 → Q (some (.int (-2 : Int32))) (aw_s I L D)) :
    aw_z X (d + 1) y_AW_alike Q 28 [some (.ref 0), none, none, some (.int v3), some (.ref c4), some (.ref c5), none] [.int s0] (aw_s I L D) :=
  (z_if_ne (tgt := 34) d_AW_alike_28 rfl (fun q1 => (s_AW_alike_34.go [some (.ref 0), none, none, some (.int v3), some (.ref c4), some (.ref c5), some (.int (0 : Int32))] [] (aw_s I L D) rfl (h1 q1))) (fun q2 => (s_AW_alike_31.go [some (.ref 0), none, none, some (.int v3), some (.ref c4), some (.ref c5), none] [.int (-2 : Int32)] (aw_s I L D) rfl (z_iret d_AW_alike_33 rfl rfl (h2 q2)))))
theorem d_AW_alike_37 : decode y_AW_alike.2.1 37 = .ok (.iload 6, 2) := by decide +kernel
theorem d_AW_alike_39 : decode y_AW_alike.2.1 39 = .ok (.aload_n 0, 1) := by decide +kernel
theorem d_AW_alike_40 : decode y_AW_alike.2.1 40 = .ok (.getfield 12, 3) := by decide +kernel
theorem s_AW_alike_37 : aw_VS y_AW_alike 37 [o_ild 6, o_ald 0, o_getA 0 0] 43 := .cons (v_iload (i := 6) d_AW_alike_37) (.cons (v_aload_n (i := 0) d_AW_alike_39 rfl) (.cons (v_getA (k := 0) k_AW (by decide) rfl (Or.inl w_490) d_AW_alike_40) .nil))
theorem d_AW_alike_43 : decode y_AW_alike.2.1 43 = .ok (.invokevirtual 139, 3) := by decide +kernel
theorem b_AW_alike_37 {X : aw_X} {d : Nat} {Q : Option Value → aw_H → Prop} {I : Nat → Nat → Int32} {L : Nat → Nat → Int64} {D : Nat → Nat} {v3 : Int32} {c4 : Nat} {c5 : Nat} {v6 : Int32}
    (h1 : aw_m X d y_Sz_rows [.ref 1] (aw_s I L D) (fun r A => aw_z X (d + 1) y_AW_alike Q 46 [some (.ref 0), none, none, some (.int v3), some (.ref c4), some (.ref c5), some (.int v6)] (r.toList ++ [.int v6]) A)) :
    aw_z X (d + 1) y_AW_alike Q 37 [some (.ref 0), none, none, some (.int v3), some (.ref c4), some (.ref c5), some (.int v6)] [] (aw_s I L D) :=
  (s_AW_alike_37.go [some (.ref 0), none, none, some (.int v3), some (.ref c4), some (.ref c5), some (.int v6)] [.ref 1, .int v6] (aw_s I L D) rfl (z_callV (av := []) (st := [.int v6]) ok_Sz_rows (Or.inl w_877) w_878 w_879 k_Sz d_AW_alike_43 rfl (aw_lt (o := 1) rfl) rfl rfl (Nat.le_of_ble_eq_true rfl) (Nat.le_refl _) (Nat.le_refl _) (h1)))
theorem d_AW_alike_46 : decode y_AW_alike.2.1 46 = .ok (.if_icmp .ge (39), 3) := by decide +kernel
theorem d_AW_alike_85 : decode y_AW_alike.2.1 85 = .ok (.iconst (-1), 1) := by decide +kernel
theorem s_AW_alike_85 : aw_VS y_AW_alike 85 [o_c (.int (-1 : Int32))] 86 := .cons (v_iconst (v := (-1 : Int32)) d_AW_alike_85 (by decide +kernel)) .nil
theorem d_AW_alike_86 : decode y_AW_alike.2.1 86 = .ok (.ireturn, 1) := by decide +kernel
theorem d_AW_alike_49 : decode y_AW_alike.2.1 49 = .ok (.aload_n 0, 1) := by decide +kernel
theorem d_AW_alike_50 : decode y_AW_alike.2.1 50 = .ok (.getfield 28, 3) := by decide +kernel
theorem d_AW_alike_53 : decode y_AW_alike.2.1 53 = .ok (.aload 4, 2) := by decide +kernel
theorem d_AW_alike_55 : decode y_AW_alike.2.1 55 = .ok (.iload 6, 2) := by decide +kernel
theorem d_AW_alike_57 : decode y_AW_alike.2.1 57 = .ok (.iload_n 3, 1) := by decide +kernel
theorem s_AW_alike_49 : aw_VS y_AW_alike 49 [o_ald 0, o_getA 0 2, o_ald 4, o_ild 6, o_ild 3] 58 := .cons (v_aload_n (i := 0) d_AW_alike_49 rfl) (.cons (v_getA (k := 2) k_AW (by decide) rfl (Or.inl w_492) d_AW_alike_50) (.cons (v_aload (i := 4) d_AW_alike_53) (.cons (v_iload (i := 6) d_AW_alike_55) (.cons (v_iload_n (i := 3) d_AW_alike_57 rfl) .nil))))
theorem d_AW_alike_58 : decode y_AW_alike.2.1 58 = .ok (.invokevirtual 233, 3) := by decide +kernel
theorem b_AW_alike_46 {X : aw_X} {d : Nat} {Q : Option Value → aw_H → Prop} {I : Nat → Nat → Int32} {L : Nat → Nat → Int64} {D : Nat → Nat} {v3 : Int32} {c4 : Nat} {c5 : Nat} {v6 : Int32} {s1 : Int32} {s0 : Int32}
    (h1 : s1 ≤ s0 → Q (some (.int (-1 : Int32))) (aw_s I L D))
    (h2 : ¬ s1 ≤ s0 → aw_m X d y_Mc_outcome [.ref 4, .ref c4, .int v6, .int v3] (aw_s I L D) (fun r A => aw_z X (d + 1) y_AW_alike Q 61 [some (.ref 0), none, none, some (.int v3), some (.ref c4), some (.ref c5), some (.int v6)] (r.toList ++ []) A)) :
    aw_z X (d + 1) y_AW_alike Q 46 [some (.ref 0), none, none, some (.int v3), some (.ref c4), some (.ref c5), some (.int v6)] [.int s1, .int s0] (aw_s I L D) :=
  (z_icmp_ge (tgt := 85) d_AW_alike_46 rfl (fun q1 => (s_AW_alike_85.go [some (.ref 0), none, none, some (.int v3), some (.ref c4), some (.ref c5), some (.int v6)] [.int (-1 : Int32)] (aw_s I L D) rfl (z_iret d_AW_alike_86 rfl rfl (h1 q1)))) (fun q2 => (s_AW_alike_49.go [some (.ref 0), none, none, some (.int v3), some (.ref c4), some (.ref c5), some (.int v6)] [.int v3, .int v6, .ref c4, .ref 4] (aw_s I L D) rfl (z_callV (av := [.ref c4, .int v6, .int v3]) (st := []) ok_Mc_outcome (Or.inl w_1155) w_1156 w_1157 k_Mc d_AW_alike_58 rfl (aw_lt (o := 4) rfl) rfl rfl (Nat.le_of_ble_eq_true rfl) (Nat.le_refl _) (Nat.le_refl _) (h2 q2)))))
theorem d_AW_alike_61 : decode y_AW_alike.2.1 61 = .ok (.aload_n 0, 1) := by decide +kernel
theorem d_AW_alike_62 : decode y_AW_alike.2.1 62 = .ok (.getfield 28, 3) := by decide +kernel
theorem d_AW_alike_65 : decode y_AW_alike.2.1 65 = .ok (.aload 5, 2) := by decide +kernel
theorem d_AW_alike_67 : decode y_AW_alike.2.1 67 = .ok (.iload 6, 2) := by decide +kernel
theorem d_AW_alike_69 : decode y_AW_alike.2.1 69 = .ok (.iload_n 3, 1) := by decide +kernel
theorem s_AW_alike_61 : aw_VS y_AW_alike 61 [o_ald 0, o_getA 0 2, o_ald 5, o_ild 6, o_ild 3] 70 := .cons (v_aload_n (i := 0) d_AW_alike_61 rfl) (.cons (v_getA (k := 2) k_AW (by decide) rfl (Or.inl w_492) d_AW_alike_62) (.cons (v_aload (i := 5) d_AW_alike_65) (.cons (v_iload (i := 6) d_AW_alike_67) (.cons (v_iload_n (i := 3) d_AW_alike_69 rfl) .nil))))
theorem d_AW_alike_70 : decode y_AW_alike.2.1 70 = .ok (.invokevirtual 233, 3) := by decide +kernel
theorem b_AW_alike_61 {X : aw_X} {d : Nat} {Q : Option Value → aw_H → Prop} {I : Nat → Nat → Int32} {L : Nat → Nat → Int64} {D : Nat → Nat} {v3 : Int32} {c4 : Nat} {c5 : Nat} {v6 : Int32} {s0 : Int32}
    (h1 : aw_m X d y_Mc_outcome [.ref 4, .ref c5, .int v6, .int v3] (aw_s I L D) (fun r A => aw_z X (d + 1) y_AW_alike Q 73 [some (.ref 0), none, none, some (.int v3), some (.ref c4), some (.ref c5), some (.int v6)] (r.toList ++ [.int s0]) A)) :
    aw_z X (d + 1) y_AW_alike Q 61 [some (.ref 0), none, none, some (.int v3), some (.ref c4), some (.ref c5), some (.int v6)] [.int s0] (aw_s I L D) :=
  (s_AW_alike_61.go [some (.ref 0), none, none, some (.int v3), some (.ref c4), some (.ref c5), some (.int v6)] [.int v3, .int v6, .ref c5, .ref 4, .int s0] (aw_s I L D) rfl (z_callV (av := [.ref c5, .int v6, .int v3]) (st := [.int s0]) ok_Mc_outcome (Or.inl w_1155) w_1156 w_1157 k_Mc d_AW_alike_70 rfl (aw_lt (o := 4) rfl) rfl rfl (Nat.le_of_ble_eq_true rfl) (Nat.le_refl _) (Nat.le_refl _) (h1)))
theorem d_AW_alike_73 : decode y_AW_alike.2.1 73 = .ok (.if_icmp .eq (6), 3) := by decide +kernel
theorem d_AW_alike_79 : decode y_AW_alike.2.1 79 = .ok (.iinc 6 (1), 3) := by decide +kernel
theorem s_AW_alike_79 : aw_VS y_AW_alike 79 [o_inc 6 (1 : Int32)] 82 := .cons (v_iinc (k0 := (1 : Int32)) d_AW_alike_79 (by decide +kernel)) .nil
theorem d_AW_alike_82 : decode y_AW_alike.2.1 82 = .ok (.goto (-45), 3) := by decide +kernel
theorem d_AW_alike_76 : decode y_AW_alike.2.1 76 = .ok (.iload 6, 2) := by decide +kernel
theorem s_AW_alike_76 : aw_VS y_AW_alike 76 [o_ild 6] 78 := .cons (v_iload (i := 6) d_AW_alike_76) .nil
theorem d_AW_alike_78 : decode y_AW_alike.2.1 78 = .ok (.ireturn, 1) := by decide +kernel
theorem b_AW_alike_73 {X : aw_X} {d : Nat} {Q : Option Value → aw_H → Prop} {I : Nat → Nat → Int32} {L : Nat → Nat → Int64} {D : Nat → Nat} {v3 : Int32} {c4 : Nat} {c5 : Nat} {v6 : Int32} {s1 : Int32} {s0 : Int32}
    (h1 : s0 = s1 → aw_z X (d + 1) y_AW_alike Q 37 [some (.ref 0), none, none, some (.int v3), some (.ref c4), some (.ref c5), some (.int (v6 + (1 : Int32)))] [] (aw_s I L D))
    (h2 : ¬ s0 = s1 → Q (some (.int v6)) (aw_s I L D)) :
    aw_z X (d + 1) y_AW_alike Q 73 [some (.ref 0), none, none, some (.int v3), some (.ref c4), some (.ref c5), some (.int v6)] [.int s1, .int s0] (aw_s I L D) :=
  (z_icmp_eq (tgt := 79) d_AW_alike_73 rfl (fun q1 => (s_AW_alike_79.go [some (.ref 0), none, none, some (.int v3), some (.ref c4), some (.ref c5), some (.int (v6 + (1 : Int32)))] [] (aw_s I L D) rfl (z_goto (tgt := 37) d_AW_alike_82 rfl (h1 q1)))) (fun q2 => (s_AW_alike_76.go [some (.ref 0), none, none, some (.int v3), some (.ref c4), some (.ref c5), some (.int v6)] [.int v6] (aw_s I L D) rfl (z_iret d_AW_alike_78 rfl rfl (h2 q2)))))
/-! AW_safe -/
theorem d_AW_safe_0 : decode y_AW_safe.2.1 0 = .ok (.aload_n 0, 1) := by decide +kernel
theorem d_AW_safe_1 : decode y_AW_safe.2.1 1 = .ok (.iload_n 1, 1) := by decide +kernel
theorem s_AW_safe_0 : aw_VS y_AW_safe 0 [o_ald 0, o_ild 1] 2 := .cons (v_aload_n (i := 0) d_AW_safe_0 rfl) (.cons (v_iload_n (i := 1) d_AW_safe_1 rfl) .nil)
theorem d_AW_safe_2 : decode y_AW_safe.2.1 2 = .ok (.invokevirtual 102, 3) := by decide +kernel
theorem b_AW_safe_0 {X : aw_X} {d : Nat} {Q : Option Value → aw_H → Prop} {I : Nat → Nat → Int32} {L : Nat → Nat → Int64} {D : Nat → Nat} {v1 : Int32} {v2 : Int32}
    (h1 : aw_m X d y_AW_programAt [.ref 0, .int v1] (aw_s I L D) (fun r A => aw_z X (d + 1) y_AW_safe Q 5 [some (.ref 0), none, some (.int v2), none, none, none] (r.toList ++ []) A)) :
    aw_z X (d + 1) y_AW_safe Q 0 [some (.ref 0), some (.int v1), some (.int v2), none, none, none] [] (aw_s I L D) :=
  (s_AW_safe_0.go [some (.ref 0), some (.int v1), some (.int v2), none, none, none] [.int v1, .ref 0] (aw_s I L D) rfl (z_callV (av := [.int v1]) (st := []) ok_AW_programAt (Or.inl w_569) w_571 w_0 k_AW d_AW_safe_2 rfl (aw_lt (o := 0) rfl) rfl rfl (Nat.le_of_ble_eq_true rfl) (Nat.le_refl _) (Nat.le_refl _) (aw_C.mono (h1) (fun _ _ zz => aw_Z.weak (ls' := [some (.ref 0), none, some (.int v2), none, none, none]) zz (Nat.le_of_ble_eq_true rfl) ⟨Or.inr rfl, ⟨Or.inl rfl, ⟨Or.inr rfl, ⟨Or.inl rfl, ⟨Or.inl rfl, ⟨Or.inl rfl, trivial⟩⟩⟩⟩⟩⟩))))
theorem d_AW_safe_5 : decode y_AW_safe.2.1 5 = .ok (.astore_n 3, 1) := by decide +kernel
theorem d_AW_safe_6 : decode y_AW_safe.2.1 6 = .ok (.aload_n 3, 1) := by decide +kernel
theorem s_AW_safe_5 : aw_VS y_AW_safe 5 [o_ast 3, o_ald 3] 7 := .cons (v_astore_n d_AW_safe_5) (.cons (v_aload_n (i := 3) d_AW_safe_6 rfl) .nil)
theorem d_AW_safe_7 : decode y_AW_safe.2.1 7 = .ok (.ifnull (10), 3) := by decide +kernel
theorem d_AW_safe_10 : decode y_AW_safe.2.1 10 = .ok (.iload_n 2, 1) := by decide +kernel
theorem s_AW_safe_10 : aw_VS y_AW_safe 10 [o_ild 2] 11 := .cons (v_iload_n (i := 2) d_AW_safe_10 rfl) .nil
theorem d_AW_safe_11 : decode y_AW_safe.2.1 11 = .ok (.invokestatic 136, 3) := by decide +kernel
theorem b_AW_safe_5 {X : aw_X} {d : Nat} {Q : Option Value → aw_H → Prop} {I : Nat → Nat → Int32} {L : Nat → Nat → Int64} {D : Nat → Nat} {v2 : Int32} {t0 : Nat}
    (h1 : aw_m X d y_AW_isFuel [.int v2] (aw_s I L D) (fun r A => aw_z X (d + 1) y_AW_safe Q 14 [some (.ref 0), none, some (.int v2), some (.ref t0), none, none] (r.toList ++ []) A)) :
    aw_z X (d + 1) y_AW_safe Q 5 [some (.ref 0), none, some (.int v2), none, none, none] [.ref t0] (aw_s I L D) :=
  (s_AW_safe_5.go [some (.ref 0), none, some (.int v2), some (.ref t0), none, none] [.ref t0] (aw_s I L D) rfl (z_ifnull d_AW_safe_7 (s_AW_safe_10.go [some (.ref 0), none, some (.int v2), some (.ref t0), none, none] [.int v2] (aw_s I L D) rfl (z_callS (av := [.int v2]) (st := []) ok_AW_isFuel (Or.inl w_874) w_875 d_AW_safe_11 rfl rfl (Nat.le_of_ble_eq_true rfl) (Nat.le_refl _) (Nat.le_refl _) (h1)))))
theorem d_AW_safe_17 : decode y_AW_safe.2.1 17 = .ok (.iconst (-1), 1) := by decide +kernel
theorem s_AW_safe_17 : aw_VS y_AW_safe 17 [o_c (.int (-1 : Int32))] 18 := .cons (v_iconst (v := (-1 : Int32)) d_AW_safe_17 (by decide +kernel)) .nil
theorem d_AW_safe_18 : decode y_AW_safe.2.1 18 = .ok (.ireturn, 1) := by decide +kernel
theorem b_AW_safe_5a {X : aw_X} {d : Nat} {Q : Option Value → aw_H → Prop} {I : Nat → Nat → Int32} {L : Nat → Nat → Int64} {D : Nat → Nat} {v2 : Int32}
    (h1 : Q (some (.int (-1 : Int32))) (aw_s I L D)) :
    aw_z X (d + 1) y_AW_safe Q 5 [some (.ref 0), none, some (.int v2), none, none, none] [.null] (aw_s I L D) :=
  (s_AW_safe_5.go [some (.ref 0), none, some (.int v2), some .null, none, none] [.null] (aw_s I L D) rfl (z_ifnullN (tgt := 17) d_AW_safe_7 rfl (s_AW_safe_17.go [some (.ref 0), none, some (.int v2), some .null, none, none] [.int (-1 : Int32)] (aw_s I L D) rfl (z_iret d_AW_safe_18 rfl rfl (h1)))))
theorem d_AW_safe_14 : decode y_AW_safe.2.1 14 = .ok (.ifCond .ne (5), 3) := by decide +kernel
theorem d_AW_safe_19 : decode y_AW_safe.2.1 19 = .ok (.iconst 0, 1) := by decide +kernel
theorem d_AW_safe_20 : decode y_AW_safe.2.1 20 = .ok (.istore 4, 2) := by decide +kernel
theorem d_AW_safe_22 : decode y_AW_safe.2.1 22 = .ok (.aload_n 0, 1) := by decide +kernel
theorem d_AW_safe_23 : decode y_AW_safe.2.1 23 = .ok (.iconst (-1), 1) := by decide +kernel
theorem d_AW_safe_24 : decode y_AW_safe.2.1 24 = .ok (.putfield 75, 3) := by decide +kernel
theorem d_AW_safe_27 : decode y_AW_safe.2.1 27 = .ok (.iconst 0, 1) := by decide +kernel
theorem d_AW_safe_28 : decode y_AW_safe.2.1 28 = .ok (.istore 5, 2) := by decide +kernel
theorem s_AW_safe_19 : aw_VS y_AW_safe 19 [o_c (.int (0 : Int32)), o_ist 4, o_ald 0, o_c (.int (-1 : Int32)), o_putI 0 12, o_c (.int (0 : Int32)), o_ist 5] 30 := .cons (v_iconst (v := (0 : Int32)) d_AW_safe_19 (by decide +kernel)) (.cons (v_istore d_AW_safe_20) (.cons (v_aload_n (i := 0) d_AW_safe_22 rfl) (.cons (v_iconst (v := (-1 : Int32)) d_AW_safe_23 (by decide +kernel)) (.cons (v_putI (k := 12) k_AW (by decide) rfl (Or.inl ⟨rfl, Or.inl w_502⟩) d_AW_safe_24) (.cons (v_iconst (v := (0 : Int32)) d_AW_safe_27 (by decide +kernel)) (.cons (v_istore d_AW_safe_28) .nil))))))
theorem b_AW_safe_14 {X : aw_X} {d : Nat} {Q : Option Value → aw_H → Prop} {I : Nat → Nat → Int32} {L : Nat → Nat → Int64} {D : Nat → Nat} {v2 : Int32} {c3 : Nat} {s0 : Int32}
    (h1 : ¬ s0 = 0 → aw_z X (d + 1) y_AW_safe Q 30 [some (.ref 0), none, some (.int v2), some (.ref c3), some (.int (0 : Int32)), some (.int (0 : Int32))] [] (aw_s (aw_u I 0 12 (-1 : Int32)) L D))
    (h2 : s0 = 0 → Q (some (.int (-1 : Int32))) (aw_s I L D)) :
    aw_z X (d + 1) y_AW_safe Q 14 [some (.ref 0), none, some (.int v2), some (.ref c3), none, none] [.int s0] (aw_s I L D) :=
  (z_if_ne (tgt := 19) d_AW_safe_14 rfl (fun q1 => (s_AW_safe_19.go [some (.ref 0), none, some (.int v2), some (.ref c3), some (.int (0 : Int32)), some (.int (0 : Int32))] [] (aw_s (aw_u I 0 12 (-1 : Int32)) L D) rfl (h1 q1))) (fun q2 => (s_AW_safe_17.go [some (.ref 0), none, some (.int v2), some (.ref c3), none, none] [.int (-1 : Int32)] (aw_s I L D) rfl (z_iret d_AW_safe_18 rfl rfl (h2 q2)))))
theorem d_AW_safe_30 : decode y_AW_safe.2.1 30 = .ok (.iload 5, 2) := by decide +kernel
theorem d_AW_safe_32 : decode y_AW_safe.2.1 32 = .ok (.aload_n 0, 1) := by decide +kernel
theorem d_AW_safe_33 : decode y_AW_safe.2.1 33 = .ok (.getfield 12, 3) := by decide +kernel
theorem s_AW_safe_30 : aw_VS y_AW_safe 30 [o_ild 5, o_ald 0, o_getA 0 0] 36 := .cons (v_iload (i := 5) d_AW_safe_30) (.cons (v_aload_n (i := 0) d_AW_safe_32 rfl) (.cons (v_getA (k := 0) k_AW (by decide) rfl (Or.inl w_490) d_AW_safe_33) .nil))
theorem d_AW_safe_36 : decode y_AW_safe.2.1 36 = .ok (.invokevirtual 237, 3) := by decide +kernel
theorem b_AW_safe_30 {X : aw_X} {d : Nat} {Q : Option Value → aw_H → Prop} {I : Nat → Nat → Int32} {L : Nat → Nat → Int64} {D : Nat → Nat} {v2 : Int32} {c3 : Nat} {v4 : Int32} {v5 : Int32}
    (h1 : aw_m X d y_Sz_letterRows [.ref 1] (aw_s I L D) (fun r A => aw_z X (d + 1) y_AW_safe Q 39 [some (.ref 0), none, some (.int v2), some (.ref c3), some (.int v4), some (.int v5)] (r.toList ++ [.int v5]) A)) :
    aw_z X (d + 1) y_AW_safe Q 30 [some (.ref 0), none, some (.int v2), some (.ref c3), some (.int v4), some (.int v5)] [] (aw_s I L D) :=
  (s_AW_safe_30.go [some (.ref 0), none, some (.int v2), some (.ref c3), some (.int v4), some (.int v5)] [.ref 1, .int v5] (aw_s I L D) rfl (z_callV (av := []) (st := [.int v5]) ok_Sz_letterRows (Or.inl w_1163) w_1164 w_1165 k_Sz d_AW_safe_36 rfl (aw_lt (o := 1) rfl) rfl rfl (Nat.le_of_ble_eq_true rfl) (Nat.le_refl _) (Nat.le_refl _) (h1)))
theorem d_AW_safe_39 : decode y_AW_safe.2.1 39 = .ok (.if_icmp .ge (40), 3) := by decide +kernel
theorem d_AW_safe_79 : decode y_AW_safe.2.1 79 = .ok (.iload 4, 2) := by decide +kernel
theorem s_AW_safe_79 : aw_VS y_AW_safe 79 [o_ild 4] 81 := .cons (v_iload (i := 4) d_AW_safe_79) .nil
theorem d_AW_safe_81 : decode y_AW_safe.2.1 81 = .ok (.ireturn, 1) := by decide +kernel
theorem d_AW_safe_42 : decode y_AW_safe.2.1 42 = .ok (.aload_n 0, 1) := by decide +kernel
theorem d_AW_safe_43 : decode y_AW_safe.2.1 43 = .ok (.aload_n 3, 1) := by decide +kernel
theorem d_AW_safe_44 : decode y_AW_safe.2.1 44 = .ok (.iload 5, 2) := by decide +kernel
theorem d_AW_safe_46 : decode y_AW_safe.2.1 46 = .ok (.iload_n 2, 1) := by decide +kernel
theorem s_AW_safe_42 : aw_VS y_AW_safe 42 [o_ald 0, o_ald 3, o_ild 5, o_ild 2] 47 := .cons (v_aload_n (i := 0) d_AW_safe_42 rfl) (.cons (v_aload_n (i := 3) d_AW_safe_43 rfl) (.cons (v_iload (i := 5) d_AW_safe_44) (.cons (v_iload_n (i := 2) d_AW_safe_46 rfl) .nil)))
theorem d_AW_safe_47 : decode y_AW_safe.2.1 47 = .ok (.invokevirtual 240, 3) := by decide +kernel
theorem b_AW_safe_39 {X : aw_X} {d : Nat} {Q : Option Value → aw_H → Prop} {I : Nat → Nat → Int32} {L : Nat → Nat → Int64} {D : Nat → Nat} {v2 : Int32} {c3 : Nat} {v4 : Int32} {v5 : Int32} {s1 : Int32} {s0 : Int32}
    (h1 : s1 ≤ s0 → Q (some (.int v4)) (aw_s I L D))
    (h2 : ¬ s1 ≤ s0 → aw_m X d y_AW_isSafe [.ref 0, .ref c3, .int v5, .int v2] (aw_s I L D) (fun r A => aw_z X (d + 1) y_AW_safe Q 50 [some (.ref 0), none, some (.int v2), some (.ref c3), some (.int v4), some (.int v5)] (r.toList ++ []) A)) :
    aw_z X (d + 1) y_AW_safe Q 39 [some (.ref 0), none, some (.int v2), some (.ref c3), some (.int v4), some (.int v5)] [.int s1, .int s0] (aw_s I L D) :=
  (z_icmp_ge (tgt := 79) d_AW_safe_39 rfl (fun q1 => (s_AW_safe_79.go [some (.ref 0), none, some (.int v2), some (.ref c3), some (.int v4), some (.int v5)] [.int v4] (aw_s I L D) rfl (z_iret d_AW_safe_81 rfl rfl (h1 q1)))) (fun q2 => (s_AW_safe_42.go [some (.ref 0), none, some (.int v2), some (.ref c3), some (.int v4), some (.int v5)] [.int v2, .int v5, .ref c3, .ref 0] (aw_s I L D) rfl (z_callV (av := [.ref c3, .int v5, .int v2]) (st := []) ok_AW_isSafe (Or.inl w_1167) w_1169 w_52 k_AW d_AW_safe_47 rfl (aw_lt (o := 0) rfl) rfl rfl (Nat.le_of_ble_eq_true rfl) (Nat.le_refl _) (Nat.le_refl _) (h2 q2)))))
theorem d_AW_safe_50 : decode y_AW_safe.2.1 50 = .ok (.ifCond .eq (9), 3) := by decide +kernel
theorem d_AW_safe_59 : decode y_AW_safe.2.1 59 = .ok (.aload_n 0, 1) := by decide +kernel
theorem d_AW_safe_60 : decode y_AW_safe.2.1 60 = .ok (.getfield 75, 3) := by decide +kernel
theorem d_AW_safe_63 : decode y_AW_safe.2.1 63 = .ok (.iconst (-1), 1) := by decide +kernel
theorem s_AW_safe_59 : aw_VS y_AW_safe 59 [o_ald 0, o_getI 0 12, o_c (.int (-1 : Int32))] 64 := .cons (v_aload_n (i := 0) d_AW_safe_59 rfl) (.cons (v_getI (k := 12) k_AW (by decide) (Or.inl rfl) (Or.inl w_502) d_AW_safe_60) (.cons (v_iconst (v := (-1 : Int32)) d_AW_safe_63 (by decide +kernel)) .nil))
theorem d_AW_safe_64 : decode y_AW_safe.2.1 64 = .ok (.if_icmp .ne (9), 3) := by decide +kernel
theorem d_AW_safe_73 : decode y_AW_safe.2.1 73 = .ok (.iinc 5 (1), 3) := by decide +kernel
theorem s_AW_safe_73 : aw_VS y_AW_safe 73 [o_inc 5 (1 : Int32)] 76 := .cons (v_iinc (k0 := (1 : Int32)) d_AW_safe_73 (by decide +kernel)) .nil
theorem d_AW_safe_76 : decode y_AW_safe.2.1 76 = .ok (.goto (-46), 3) := by decide +kernel
theorem d_AW_safe_67 : decode y_AW_safe.2.1 67 = .ok (.aload_n 0, 1) := by decide +kernel
theorem d_AW_safe_68 : decode y_AW_safe.2.1 68 = .ok (.iload 5, 2) := by decide +kernel
theorem d_AW_safe_70 : decode y_AW_safe.2.1 70 = .ok (.putfield 75, 3) := by decide +kernel
theorem s_AW_safe_67 : aw_VS y_AW_safe 67 [o_ald 0, o_ild 5, o_putI 0 12] 73 := .cons (v_aload_n (i := 0) d_AW_safe_67 rfl) (.cons (v_iload (i := 5) d_AW_safe_68) (.cons (v_putI (k := 12) k_AW (by decide) rfl (Or.inl ⟨rfl, Or.inl w_502⟩) d_AW_safe_70) .nil))
theorem d_AW_safe_53 : decode y_AW_safe.2.1 53 = .ok (.iinc 4 (1), 3) := by decide +kernel
theorem s_AW_safe_53 : aw_VS y_AW_safe 53 [o_inc 4 (1 : Int32)] 56 := .cons (v_iinc (k0 := (1 : Int32)) d_AW_safe_53 (by decide +kernel)) .nil
theorem d_AW_safe_56 : decode y_AW_safe.2.1 56 = .ok (.goto (17), 3) := by decide +kernel
theorem b_AW_safe_50 {X : aw_X} {d : Nat} {Q : Option Value → aw_H → Prop} {I : Nat → Nat → Int32} {L : Nat → Nat → Int64} {D : Nat → Nat} {v2 : Int32} {c3 : Nat} {v4 : Int32} {v5 : Int32} {s0 : Int32}
    (h1 : s0 = 0 → ¬ (I 0 12) = (-1 : Int32) → aw_z X (d + 1) y_AW_safe Q 30 [some (.ref 0), none, some (.int v2), some (.ref c3), some (.int v4), some (.int (v5 + (1 : Int32)))] [] (aw_s I L D))
    (h2 : s0 = 0 → (I 0 12) = (-1 : Int32) → aw_z X (d + 1) y_AW_safe Q 30 [some (.ref 0), none, some (.int v2), some (.ref c3), some (.int v4), some (.int (v5 + (1 : Int32)))] [] (aw_s (aw_u I 0 12 v5) L D))
    (h3 : ¬ s0 = 0 → aw_z X (d + 1) y_AW_safe Q 30 [some (.ref 0), none, some (.int v2), some (.ref c3), some (.int (v4 + (1 : Int32))), some (.int (v5 + (1 : Int32)))] [] (aw_s I L D)) :
    aw_z X (d + 1) y_AW_safe Q 50 [some (.ref 0), none, some (.int v2), some (.ref c3), some (.int v4), some (.int v5)] [.int s0] (aw_s I L D) :=
  (z_if_eq (tgt := 59) d_AW_safe_50 rfl (fun q1 => (s_AW_safe_59.go [some (.ref 0), none, some (.int v2), some (.ref c3), some (.int v4), some (.int v5)] [.int (-1 : Int32), .int (I 0 12)] (aw_s I L D) rfl (z_icmp_ne (tgt := 73) d_AW_safe_64 rfl (fun q3 => (s_AW_safe_73.go [some (.ref 0), none, some (.int v2), some (.ref c3), some (.int v4), some (.int (v5 + (1 : Int32)))] [] (aw_s I L D) rfl (z_goto (tgt := 30) d_AW_safe_76 rfl (h1 q1 q3)))) (fun q4 => (s_AW_safe_67.go [some (.ref 0), none, some (.int v2), some (.ref c3), some (.int v4), some (.int v5)] [] (aw_s (aw_u I 0 12 v5) L D) rfl (s_AW_safe_73.go [some (.ref 0), none, some (.int v2), some (.ref c3), some (.int v4), some (.int (v5 + (1 : Int32)))] [] (aw_s (aw_u I 0 12 v5) L D) rfl (z_goto (tgt := 30) d_AW_safe_76 rfl (h2 q1 q4)))))))) (fun q2 => (s_AW_safe_53.go [some (.ref 0), none, some (.int v2), some (.ref c3), some (.int (v4 + (1 : Int32))), some (.int v5)] [] (aw_s I L D) rfl (z_goto (tgt := 73) d_AW_safe_56 rfl (s_AW_safe_73.go [some (.ref 0), none, some (.int v2), some (.ref c3), some (.int (v4 + (1 : Int32))), some (.int (v5 + (1 : Int32)))] [] (aw_s I L D) rfl (z_goto (tgt := 30) d_AW_safe_76 rfl (h3 q2)))))))
/-! AW_isSafe -/
theorem d_AW_isSafe_0 : decode y_AW_isSafe.2.1 0 = .ok (.iconst 0, 1) := by decide +kernel
theorem d_AW_isSafe_1 : decode y_AW_isSafe.2.1 1 = .ok (.istore 4, 2) := by decide +kernel
theorem s_AW_isSafe_0 : aw_VS y_AW_isSafe 0 [o_c (.int (0 : Int32)), o_ist 4] 3 := .cons (v_iconst (v := (0 : Int32)) d_AW_isSafe_0 (by decide +kernel)) (.cons (v_istore d_AW_isSafe_1) .nil)
theorem b_AW_isSafe_0 {X : aw_X} {d : Nat} {Q : Option Value → aw_H → Prop} {I : Nat → Nat → Int32} {L : Nat → Nat → Int64} {D : Nat → Nat} {c1 : Nat} {v2 : Int32} {v3 : Int32}
    (h1 : aw_z X (d + 1) y_AW_isSafe Q 3 [some (.ref 0), some (.ref c1), some (.int v2), some (.int v3), some (.int (0 : Int32)), none] [] (aw_s I L D)) :
    aw_z X (d + 1) y_AW_isSafe Q 0 [some (.ref 0), some (.ref c1), some (.int v2), some (.int v3), none, none] [] (aw_s I L D) :=
  (s_AW_isSafe_0.go [some (.ref 0), some (.ref c1), some (.int v2), some (.int v3), some (.int (0 : Int32)), none] [] (aw_s I L D) rfl (h1))
theorem d_AW_isSafe_3 : decode y_AW_isSafe.2.1 3 = .ok (.iload 4, 2) := by decide +kernel
theorem d_AW_isSafe_5 : decode y_AW_isSafe.2.1 5 = .ok (.aload_n 0, 1) := by decide +kernel
theorem d_AW_isSafe_6 : decode y_AW_isSafe.2.1 6 = .ok (.getfield 12, 3) := by decide +kernel
theorem s_AW_isSafe_3 : aw_VS y_AW_isSafe 3 [o_ild 4, o_ald 0, o_getA 0 0] 9 := .cons (v_iload (i := 4) d_AW_isSafe_3) (.cons (v_aload_n (i := 0) d_AW_isSafe_5 rfl) (.cons (v_getA (k := 0) k_AW (by decide) rfl (Or.inl w_490) d_AW_isSafe_6) .nil))
theorem d_AW_isSafe_9 : decode y_AW_isSafe.2.1 9 = .ok (.invokevirtual 321, 3) := by decide +kernel
theorem b_AW_isSafe_3 {X : aw_X} {d : Nat} {Q : Option Value → aw_H → Prop} {I : Nat → Nat → Int32} {L : Nat → Nat → Int64} {D : Nat → Nat} {c1 : Nat} {v2 : Int32} {v3 : Int32} {v4 : Int32}
    (h1 : aw_m X d y_Sz_answerRows [.ref 1] (aw_s I L D) (fun r A => aw_z X (d + 1) y_AW_isSafe Q 12 [some (.ref 0), some (.ref c1), some (.int v2), some (.int v3), some (.int v4), none] (r.toList ++ [.int v4]) A)) :
    aw_z X (d + 1) y_AW_isSafe Q 3 [some (.ref 0), some (.ref c1), some (.int v2), some (.int v3), some (.int v4), none] [] (aw_s I L D) :=
  (s_AW_isSafe_3.go [some (.ref 0), some (.ref c1), some (.int v2), some (.int v3), some (.int v4), none] [.ref 1, .int v4] (aw_s I L D) rfl (z_callV (av := []) (st := [.int v4]) ok_Sz_answerRows (Or.inl w_1171) w_1172 w_1173 k_Sz d_AW_isSafe_9 rfl (aw_lt (o := 1) rfl) rfl rfl (Nat.le_of_ble_eq_true rfl) (Nat.le_refl _) (Nat.le_refl _) (h1)))
theorem d_AW_isSafe_12 : decode y_AW_isSafe.2.1 12 = .ok (.if_icmp .ge (42), 3) := by decide +kernel
theorem d_AW_isSafe_54 : decode y_AW_isSafe.2.1 54 = .ok (.iconst 1, 1) := by decide +kernel
theorem s_AW_isSafe_54 : aw_VS y_AW_isSafe 54 [o_c (.int (1 : Int32))] 55 := .cons (v_iconst (v := (1 : Int32)) d_AW_isSafe_54 (by decide +kernel)) .nil
theorem d_AW_isSafe_55 : decode y_AW_isSafe.2.1 55 = .ok (.ireturn, 1) := by decide +kernel
theorem d_AW_isSafe_15 : decode y_AW_isSafe.2.1 15 = .ok (.iload_n 2, 1) := by decide +kernel
theorem d_AW_isSafe_16 : decode y_AW_isSafe.2.1 16 = .ok (.iload 4, 2) := by decide +kernel
theorem d_AW_isSafe_18 : decode y_AW_isSafe.2.1 18 = .ok (.aload_n 0, 1) := by decide +kernel
theorem d_AW_isSafe_19 : decode y_AW_isSafe.2.1 19 = .ok (.getfield 12, 3) := by decide +kernel
theorem s_AW_isSafe_15 : aw_VS y_AW_isSafe 15 [o_ild 2, o_ild 4, o_ald 0, o_getA 0 0] 22 := .cons (v_iload_n (i := 2) d_AW_isSafe_15 rfl) (.cons (v_iload (i := 4) d_AW_isSafe_16) (.cons (v_aload_n (i := 0) d_AW_isSafe_18 rfl) (.cons (v_getA (k := 0) k_AW (by decide) rfl (Or.inl w_490) d_AW_isSafe_19) .nil)))
theorem d_AW_isSafe_22 : decode y_AW_isSafe.2.1 22 = .ok (.invokevirtual 237, 3) := by decide +kernel
theorem b_AW_isSafe_12 {X : aw_X} {d : Nat} {Q : Option Value → aw_H → Prop} {I : Nat → Nat → Int32} {L : Nat → Nat → Int64} {D : Nat → Nat} {c1 : Nat} {v2 : Int32} {v3 : Int32} {v4 : Int32} {s1 : Int32} {s0 : Int32}
    (h1 : s1 ≤ s0 → Q (some (.int (1 : Int32))) (aw_s I L D))
    (h2 : ¬ s1 ≤ s0 → aw_m X d y_Sz_letterRows [.ref 1] (aw_s I L D) (fun r A => aw_z X (d + 1) y_AW_isSafe Q 25 [some (.ref 0), some (.ref c1), some (.int v2), some (.int v3), some (.int v4), none] (r.toList ++ [.int v4, .int v2]) A)) :
    aw_z X (d + 1) y_AW_isSafe Q 12 [some (.ref 0), some (.ref c1), some (.int v2), some (.int v3), some (.int v4), none] [.int s1, .int s0] (aw_s I L D) :=
  (z_icmp_ge (tgt := 54) d_AW_isSafe_12 rfl (fun q1 => (s_AW_isSafe_54.go [some (.ref 0), some (.ref c1), some (.int v2), some (.int v3), some (.int v4), none] [.int (1 : Int32)] (aw_s I L D) rfl (z_iret d_AW_isSafe_55 rfl (aw_nz (by decide +kernel)) (h1 q1)))) (fun q2 => (s_AW_isSafe_15.go [some (.ref 0), some (.ref c1), some (.int v2), some (.int v3), some (.int v4), none] [.ref 1, .int v4, .int v2] (aw_s I L D) rfl (z_callV (av := []) (st := [.int v4, .int v2]) ok_Sz_letterRows (Or.inl w_1163) w_1164 w_1165 k_Sz d_AW_isSafe_22 rfl (aw_lt (o := 1) rfl) rfl rfl (Nat.le_of_ble_eq_true rfl) (Nat.le_refl _) (Nat.le_refl _) (h2 q2)))))
theorem d_AW_isSafe_25 : decode y_AW_isSafe.2.1 25 = .ok (.imul, 1) := by decide +kernel
theorem d_AW_isSafe_26 : decode y_AW_isSafe.2.1 26 = .ok (.iadd, 1) := by decide +kernel
theorem d_AW_isSafe_27 : decode y_AW_isSafe.2.1 27 = .ok (.istore 5, 2) := by decide +kernel
theorem d_AW_isSafe_29 : decode y_AW_isSafe.2.1 29 = .ok (.aload_n 0, 1) := by decide +kernel
theorem d_AW_isSafe_30 : decode y_AW_isSafe.2.1 30 = .ok (.getfield 28, 3) := by decide +kernel
theorem d_AW_isSafe_33 : decode y_AW_isSafe.2.1 33 = .ok (.aload_n 1, 1) := by decide +kernel
theorem d_AW_isSafe_34 : decode y_AW_isSafe.2.1 34 = .ok (.iload 5, 2) := by decide +kernel
theorem d_AW_isSafe_36 : decode y_AW_isSafe.2.1 36 = .ok (.iload_n 3, 1) := by decide +kernel
theorem s_AW_isSafe_25 : aw_VS y_AW_isSafe 25 [o_i2 (fun x z => x * z), o_i2 (fun x z => x + z), o_ist 5, o_ald 0, o_getA 0 2, o_ald 1, o_ild 5, o_ild 3] 37 := .cons (v_imul d_AW_isSafe_25) (.cons (v_iadd d_AW_isSafe_26) (.cons (v_istore d_AW_isSafe_27) (.cons (v_aload_n (i := 0) d_AW_isSafe_29 rfl) (.cons (v_getA (k := 2) k_AW (by decide) rfl (Or.inl w_492) d_AW_isSafe_30) (.cons (v_aload_n (i := 1) d_AW_isSafe_33 rfl) (.cons (v_iload (i := 5) d_AW_isSafe_34) (.cons (v_iload_n (i := 3) d_AW_isSafe_36 rfl) .nil)))))))
theorem d_AW_isSafe_37 : decode y_AW_isSafe.2.1 37 = .ok (.invokevirtual 301, 3) := by decide +kernel
theorem b_AW_isSafe_25 {X : aw_X} {d : Nat} {Q : Option Value → aw_H → Prop} {I : Nat → Nat → Int32} {L : Nat → Nat → Int64} {D : Nat → Nat} {c1 : Nat} {v2 : Int32} {v3 : Int32} {v4 : Int32} {s2 : Int32} {s1 : Int32} {s0 : Int32}
    (h1 : aw_m X d y_Mc_launch [.ref 4, .ref c1, .int (s0 + (s1 * s2)), .int v3] (aw_s I L D) (fun r A => aw_z X (d + 1) y_AW_isSafe Q 40 [some (.ref 0), some (.ref c1), some (.int v2), some (.int v3), some (.int v4), none] (r.toList ++ []) A)) :
    aw_z X (d + 1) y_AW_isSafe Q 25 [some (.ref 0), some (.ref c1), some (.int v2), some (.int v3), some (.int v4), none] [.int s2, .int s1, .int s0] (aw_s I L D) :=
  (s_AW_isSafe_25.go [some (.ref 0), some (.ref c1), some (.int v2), some (.int v3), some (.int v4), some (.int (s0 + (s1 * s2)))] [.int v3, .int (s0 + (s1 * s2)), .ref c1, .ref 4] (aw_s I L D) rfl (z_callV (av := [.ref c1, .int (s0 + (s1 * s2)), .int v3]) (st := []) ok_Mc_launch (Or.inl w_1175) w_894 w_895 k_Mc d_AW_isSafe_37 rfl (aw_lt (o := 4) rfl) rfl rfl (Nat.le_of_ble_eq_true rfl) (Nat.le_refl _) (Nat.le_refl _) (aw_C.mono (h1) (fun _ _ zz => aw_Z.weak (ls' := [some (.ref 0), some (.ref c1), some (.int v2), some (.int v3), some (.int v4), none]) zz (Nat.le_of_ble_eq_true rfl) ⟨Or.inr rfl, ⟨Or.inr rfl, ⟨Or.inr rfl, ⟨Or.inr rfl, ⟨Or.inr rfl, ⟨Or.inl rfl, trivial⟩⟩⟩⟩⟩⟩))))
theorem d_AW_isSafe_40 : decode y_AW_isSafe.2.1 40 = .ok (.invokestatic 324, 3) := by decide +kernel
theorem b_AW_isSafe_40 {X : aw_X} {d : Nat} {Q : Option Value → aw_H → Prop} {I : Nat → Nat → Int32} {L : Nat → Nat → Int64} {D : Nat → Nat} {c1 : Nat} {v2 : Int32} {v3 : Int32} {v4 : Int32} {s0 : Int32}
    (h1 : aw_m X d y_AW_isHarm [.int s0] (aw_s I L D) (fun r A => aw_z X (d + 1) y_AW_isSafe Q 43 [some (.ref 0), some (.ref c1), some (.int v2), some (.int v3), some (.int v4), none] (r.toList ++ []) A)) :
    aw_z X (d + 1) y_AW_isSafe Q 40 [some (.ref 0), some (.ref c1), some (.int v2), some (.int v3), some (.int v4), none] [.int s0] (aw_s I L D) :=
  (z_callS (av := [.int s0]) (st := []) ok_AW_isHarm (Or.inl w_1176) w_1177 d_AW_isSafe_40 rfl rfl (Nat.le_of_ble_eq_true rfl) (Nat.le_refl _) (Nat.le_refl _) (h1))
theorem d_AW_isSafe_43 : decode y_AW_isSafe.2.1 43 = .ok (.ifCond .eq (5), 3) := by decide +kernel
theorem d_AW_isSafe_48 : decode y_AW_isSafe.2.1 48 = .ok (.iinc 4 (1), 3) := by decide +kernel
theorem s_AW_isSafe_48 : aw_VS y_AW_isSafe 48 [o_inc 4 (1 : Int32)] 51 := .cons (v_iinc (k0 := (1 : Int32)) d_AW_isSafe_48 (by decide +kernel)) .nil
theorem d_AW_isSafe_51 : decode y_AW_isSafe.2.1 51 = .ok (.goto (-48), 3) := by decide +kernel
theorem d_AW_isSafe_46 : decode y_AW_isSafe.2.1 46 = .ok (.iconst 0, 1) := by decide +kernel
theorem s_AW_isSafe_46 : aw_VS y_AW_isSafe 46 [o_c (.int (0 : Int32))] 47 := .cons (v_iconst (v := (0 : Int32)) d_AW_isSafe_46 (by decide +kernel)) .nil
theorem d_AW_isSafe_47 : decode y_AW_isSafe.2.1 47 = .ok (.ireturn, 1) := by decide +kernel
theorem b_AW_isSafe_43 {X : aw_X} {d : Nat} {Q : Option Value → aw_H → Prop} {I : Nat → Nat → Int32} {L : Nat → Nat → Int64} {D : Nat → Nat} {c1 : Nat} {v2 : Int32} {v3 : Int32} {v4 : Int32} {s0 : Int32}
    (h1 : s0 = 0 → aw_z X (d + 1) y_AW_isSafe Q 3 [some (.ref 0), some (.ref c1), some (.int v2), some (.int v3), some (.int (v4 + (1 : Int32))), none] [] (aw_s I L D))
    (h2 : ¬ s0 = 0 → Q (some (.int (0 : Int32))) (aw_s I L D)) :
    aw_z X (d + 1) y_AW_isSafe Q 43 [some (.ref 0), some (.ref c1), some (.int v2), some (.int v3), some (.int v4), none] [.int s0] (aw_s I L D) :=
  (z_if_eq (tgt := 48) d_AW_isSafe_43 rfl (fun q1 => (s_AW_isSafe_48.go [some (.ref 0), some (.ref c1), some (.int v2), some (.int v3), some (.int (v4 + (1 : Int32))), none] [] (aw_s I L D) rfl (z_goto (tgt := 3) d_AW_isSafe_51 rfl (h1 q1)))) (fun q2 => (s_AW_isSafe_46.go [some (.ref 0), some (.ref c1), some (.int v2), some (.int v3), some (.int v4), none] [.int (0 : Int32)] (aw_s I L D) rfl (z_iret d_AW_isSafe_47 rfl (aw_nz (by decide +kernel)) (h2 q2)))))
/-! AW_isHarm -/
theorem d_AW_isHarm_0 : decode y_AW_isHarm.2.1 0 = .ok (.iload_n 0, 1) := by decide +kernel
theorem d_AW_isHarm_1 : decode y_AW_isHarm.2.1 1 = .ok (.iconst 1, 1) := by decide +kernel
theorem s_AW_isHarm_0 : aw_VS y_AW_isHarm 0 [o_ild 0, o_c (.int (1 : Int32))] 2 := .cons (v_iload_n (i := 0) d_AW_isHarm_0 rfl) (.cons (v_iconst (v := (1 : Int32)) d_AW_isHarm_1 (by decide +kernel)) .nil)
theorem d_AW_isHarm_2 : decode y_AW_isHarm.2.1 2 = .ok (.if_icmp .eq (13), 3) := by decide +kernel
theorem d_AW_isHarm_15 : decode y_AW_isHarm.2.1 15 = .ok (.iconst 1, 1) := by decide +kernel
theorem s_AW_isHarm_15 : aw_VS y_AW_isHarm 15 [o_c (.int (1 : Int32))] 16 := .cons (v_iconst (v := (1 : Int32)) d_AW_isHarm_15 (by decide +kernel)) .nil
theorem d_AW_isHarm_16 : decode y_AW_isHarm.2.1 16 = .ok (.goto (4), 3) := by decide +kernel
theorem d_AW_isHarm_20 : decode y_AW_isHarm.2.1 20 = .ok (.ireturn, 1) := by decide +kernel
theorem d_AW_isHarm_5 : decode y_AW_isHarm.2.1 5 = .ok (.iload_n 0, 1) := by decide +kernel
theorem d_AW_isHarm_6 : decode y_AW_isHarm.2.1 6 = .ok (.iconst 2, 1) := by decide +kernel
theorem s_AW_isHarm_5 : aw_VS y_AW_isHarm 5 [o_ild 0, o_c (.int (2 : Int32))] 7 := .cons (v_iload_n (i := 0) d_AW_isHarm_5 rfl) (.cons (v_iconst (v := (2 : Int32)) d_AW_isHarm_6 (by decide +kernel)) .nil)
theorem d_AW_isHarm_7 : decode y_AW_isHarm.2.1 7 = .ok (.if_icmp .eq (8), 3) := by decide +kernel
theorem d_AW_isHarm_10 : decode y_AW_isHarm.2.1 10 = .ok (.iload_n 0, 1) := by decide +kernel
theorem d_AW_isHarm_11 : decode y_AW_isHarm.2.1 11 = .ok (.iconst 3, 1) := by decide +kernel
theorem s_AW_isHarm_10 : aw_VS y_AW_isHarm 10 [o_ild 0, o_c (.int (3 : Int32))] 12 := .cons (v_iload_n (i := 0) d_AW_isHarm_10 rfl) (.cons (v_iconst (v := (3 : Int32)) d_AW_isHarm_11 (by decide +kernel)) .nil)
theorem d_AW_isHarm_12 : decode y_AW_isHarm.2.1 12 = .ok (.if_icmp .ne (7), 3) := by decide +kernel
theorem d_AW_isHarm_19 : decode y_AW_isHarm.2.1 19 = .ok (.iconst 0, 1) := by decide +kernel
theorem s_AW_isHarm_19 : aw_VS y_AW_isHarm 19 [o_c (.int (0 : Int32))] 20 := .cons (v_iconst (v := (0 : Int32)) d_AW_isHarm_19 (by decide +kernel)) .nil
theorem b_AW_isHarm_0 {X : aw_X} {d : Nat} {Q : Option Value → aw_H → Prop} {I : Nat → Nat → Int32} {L : Nat → Nat → Int64} {D : Nat → Nat} {v0 : Int32}
    (h1 : v0 = (1 : Int32) → Q (some (.int (1 : Int32))) (aw_s I L D))
    (h2 : ¬ v0 = (1 : Int32) → v0 = (2 : Int32) → Q (some (.int (1 : Int32))) (aw_s I L D))
    (h3 : ¬ v0 = (1 : Int32) → ¬ v0 = (2 : Int32) → ¬ v0 = (3 : Int32) → Q (some (.int (0 : Int32))) (aw_s I L D))
    (h4 : ¬ v0 = (1 : Int32) → ¬ v0 = (2 : Int32) → v0 = (3 : Int32) → Q (some (.int (1 : Int32))) (aw_s I L D)) :
    aw_z X d y_AW_isHarm Q 0 [some (.int v0)] [] (aw_s I L D) :=
  (s_AW_isHarm_0.go [some (.int v0)] [.int (1 : Int32), .int v0] (aw_s I L D) rfl (z_icmp_eq (tgt := 15) d_AW_isHarm_2 rfl (fun q1 => (s_AW_isHarm_15.go [some (.int v0)] [.int (1 : Int32)] (aw_s I L D) rfl (z_goto (tgt := 20) d_AW_isHarm_16 rfl (z_iret d_AW_isHarm_20 rfl (aw_nz (by decide +kernel)) (h1 q1))))) (fun q2 => (s_AW_isHarm_5.go [some (.int v0)] [.int (2 : Int32), .int v0] (aw_s I L D) rfl (z_icmp_eq (tgt := 15) d_AW_isHarm_7 rfl (fun q3 => (s_AW_isHarm_15.go [some (.int v0)] [.int (1 : Int32)] (aw_s I L D) rfl (z_goto (tgt := 20) d_AW_isHarm_16 rfl (z_iret d_AW_isHarm_20 rfl (aw_nz (by decide +kernel)) (h2 q2 q3))))) (fun q4 => (s_AW_isHarm_10.go [some (.int v0)] [.int (3 : Int32), .int v0] (aw_s I L D) rfl (z_icmp_ne (tgt := 19) d_AW_isHarm_12 rfl (fun q5 => (s_AW_isHarm_19.go [some (.int v0)] [.int (0 : Int32)] (aw_s I L D) rfl (z_iret d_AW_isHarm_20 rfl (aw_nz (by decide +kernel)) (h3 q2 q4 q5)))) (fun q6 => (s_AW_isHarm_15.go [some (.int v0)] [.int (1 : Int32)] (aw_s I L D) rfl (z_goto (tgt := 20) d_AW_isHarm_16 rfl (z_iret d_AW_isHarm_20 rfl (aw_nz (by decide +kernel)) (h4 q2 q4 q6)))))))))))))
/-! AW_unsafe -/
theorem d_AW_unsafe_0 : decode y_AW_unsafe.2.1 0 = .ok (.aload_n 0, 1) := by decide +kernel
theorem d_AW_unsafe_1 : decode y_AW_unsafe.2.1 1 = .ok (.getfield 75, 3) := by decide +kernel
theorem s_AW_unsafe_0 : aw_VS y_AW_unsafe 0 [o_ald 0, o_getI 0 12] 4 := .cons (v_aload_n (i := 0) d_AW_unsafe_0 rfl) (.cons (v_getI (k := 12) k_AW (by decide) (Or.inl rfl) (Or.inl w_502) d_AW_unsafe_1) .nil)
theorem d_AW_unsafe_4 : decode y_AW_unsafe.2.1 4 = .ok (.ireturn, 1) := by decide +kernel
theorem b_AW_unsafe_0 {X : aw_X} {d : Nat} {Q : Option Value → aw_H → Prop} {I : Nat → Nat → Int32} {L : Nat → Nat → Int64} {D : Nat → Nat} 
    (h1 : Q (some (.int (I 0 12))) (aw_s I L D)) :
    aw_z X d y_AW_unsafe Q 0 [some (.ref 0)] [] (aw_s I L D) :=
  (s_AW_unsafe_0.go [some (.ref 0)] [.int (I 0 12)] (aw_s I L D) rfl (z_iret d_AW_unsafe_4 rfl rfl (h1)))
/-! AW_rule -/
theorem d_AW_rule_0 : decode y_AW_rule.2.1 0 = .ok (.aload_n 0, 1) := by decide +kernel
theorem d_AW_rule_1 : decode y_AW_rule.2.1 1 = .ok (.iload_n 1, 1) := by decide +kernel
theorem s_AW_rule_0 : aw_VS y_AW_rule 0 [o_ald 0, o_ild 1] 2 := .cons (v_aload_n (i := 0) d_AW_rule_0 rfl) (.cons (v_iload_n (i := 1) d_AW_rule_1 rfl) .nil)
theorem d_AW_rule_2 : decode y_AW_rule.2.1 2 = .ok (.invokevirtual 102, 3) := by decide +kernel
theorem b_AW_rule_0 {X : aw_X} {d : Nat} {Q : Option Value → aw_H → Prop} {I : Nat → Nat → Int32} {L : Nat → Nat → Int64} {D : Nat → Nat} {v1 : Int32} {v2 : Int32}
    (h1 : aw_m X d y_AW_programAt [.ref 0, .int v1] (aw_s I L D) (fun r A => aw_z X (d + 1) y_AW_rule Q 5 [some (.ref 0), none, some (.int v2), none, none, none, none] (r.toList ++ []) A)) :
    aw_z X (d + 1) y_AW_rule Q 0 [some (.ref 0), some (.int v1), some (.int v2), none, none, none, none] [] (aw_s I L D) :=
  (s_AW_rule_0.go [some (.ref 0), some (.int v1), some (.int v2), none, none, none, none] [.int v1, .ref 0] (aw_s I L D) rfl (z_callV (av := [.int v1]) (st := []) ok_AW_programAt (Or.inl w_569) w_571 w_0 k_AW d_AW_rule_2 rfl (aw_lt (o := 0) rfl) rfl rfl (Nat.le_of_ble_eq_true rfl) (Nat.le_refl _) (Nat.le_refl _) (aw_C.mono (h1) (fun _ _ zz => aw_Z.weak (ls' := [some (.ref 0), none, some (.int v2), none, none, none, none]) zz (Nat.le_of_ble_eq_true rfl) ⟨Or.inr rfl, ⟨Or.inl rfl, ⟨Or.inr rfl, ⟨Or.inl rfl, ⟨Or.inl rfl, ⟨Or.inl rfl, ⟨Or.inl rfl, trivial⟩⟩⟩⟩⟩⟩⟩))))
theorem d_AW_rule_5 : decode y_AW_rule.2.1 5 = .ok (.astore_n 3, 1) := by decide +kernel
theorem d_AW_rule_6 : decode y_AW_rule.2.1 6 = .ok (.aload_n 3, 1) := by decide +kernel
theorem s_AW_rule_5 : aw_VS y_AW_rule 5 [o_ast 3, o_ald 3] 7 := .cons (v_astore_n d_AW_rule_5) (.cons (v_aload_n (i := 3) d_AW_rule_6 rfl) .nil)
theorem d_AW_rule_7 : decode y_AW_rule.2.1 7 = .ok (.ifnull (10), 3) := by decide +kernel
theorem d_AW_rule_10 : decode y_AW_rule.2.1 10 = .ok (.iload_n 2, 1) := by decide +kernel
theorem s_AW_rule_10 : aw_VS y_AW_rule 10 [o_ild 2] 11 := .cons (v_iload_n (i := 2) d_AW_rule_10 rfl) .nil
theorem d_AW_rule_11 : decode y_AW_rule.2.1 11 = .ok (.invokestatic 136, 3) := by decide +kernel
theorem b_AW_rule_5 {X : aw_X} {d : Nat} {Q : Option Value → aw_H → Prop} {I : Nat → Nat → Int32} {L : Nat → Nat → Int64} {D : Nat → Nat} {v2 : Int32} {t0 : Nat}
    (h1 : aw_m X d y_AW_isFuel [.int v2] (aw_s I L D) (fun r A => aw_z X (d + 1) y_AW_rule Q 14 [some (.ref 0), none, some (.int v2), some (.ref t0), none, none, none] (r.toList ++ []) A)) :
    aw_z X (d + 1) y_AW_rule Q 5 [some (.ref 0), none, some (.int v2), none, none, none, none] [.ref t0] (aw_s I L D) :=
  (s_AW_rule_5.go [some (.ref 0), none, some (.int v2), some (.ref t0), none, none, none] [.ref t0] (aw_s I L D) rfl (z_ifnull d_AW_rule_7 (s_AW_rule_10.go [some (.ref 0), none, some (.int v2), some (.ref t0), none, none, none] [.int v2] (aw_s I L D) rfl (z_callS (av := [.int v2]) (st := []) ok_AW_isFuel (Or.inl w_874) w_875 d_AW_rule_11 rfl rfl (Nat.le_of_ble_eq_true rfl) (Nat.le_refl _) (Nat.le_refl _) (h1)))))
theorem d_AW_rule_17 : decode y_AW_rule.2.1 17 = .ok (.bipush (-2), 2) := by decide +kernel
theorem s_AW_rule_17 : aw_VS y_AW_rule 17 [o_c (.int (-2 : Int32))] 19 := .cons (v_bipush (v := (-2 : Int32)) d_AW_rule_17 (by decide +kernel)) .nil
theorem d_AW_rule_19 : decode y_AW_rule.2.1 19 = .ok (.ireturn, 1) := by decide +kernel
theorem b_AW_rule_5a {X : aw_X} {d : Nat} {Q : Option Value → aw_H → Prop} {I : Nat → Nat → Int32} {L : Nat → Nat → Int64} {D : Nat → Nat} {v2 : Int32}
    (h1 : Q (some (.int (-2 : Int32))) (aw_s I L D)) :
    aw_z X (d + 1) y_AW_rule Q 5 [some (.ref 0), none, some (.int v2), none, none, none, none] [.null] (aw_s I L D) :=
  (s_AW_rule_5.go [some (.ref 0), none, some (.int v2), some .null, none, none, none] [.null] (aw_s I L D) rfl (z_ifnullN (tgt := 17) d_AW_rule_7 rfl (s_AW_rule_17.go [some (.ref 0), none, some (.int v2), some .null, none, none, none] [.int (-2 : Int32)] (aw_s I L D) rfl (z_iret d_AW_rule_19 rfl rfl (h1)))))
theorem d_AW_rule_14 : decode y_AW_rule.2.1 14 = .ok (.ifCond .ne (6), 3) := by decide +kernel
theorem d_AW_rule_20 : decode y_AW_rule.2.1 20 = .ok (.iconst 0, 1) := by decide +kernel
theorem d_AW_rule_21 : decode y_AW_rule.2.1 21 = .ok (.istore 4, 2) := by decide +kernel
theorem d_AW_rule_23 : decode y_AW_rule.2.1 23 = .ok (.iconst 0, 1) := by decide +kernel
theorem d_AW_rule_24 : decode y_AW_rule.2.1 24 = .ok (.istore 5, 2) := by decide +kernel
theorem s_AW_rule_20 : aw_VS y_AW_rule 20 [o_c (.int (0 : Int32)), o_ist 4, o_c (.int (0 : Int32)), o_ist 5] 26 := .cons (v_iconst (v := (0 : Int32)) d_AW_rule_20 (by decide +kernel)) (.cons (v_istore d_AW_rule_21) (.cons (v_iconst (v := (0 : Int32)) d_AW_rule_23 (by decide +kernel)) (.cons (v_istore d_AW_rule_24) .nil)))
theorem b_AW_rule_14 {X : aw_X} {d : Nat} {Q : Option Value → aw_H → Prop} {I : Nat → Nat → Int32} {L : Nat → Nat → Int64} {D : Nat → Nat} {v2 : Int32} {c3 : Nat} {s0 : Int32}
    (h1 : ¬ s0 = 0 → aw_z X (d + 1) y_AW_rule Q 26 [some (.ref 0), none, some (.int v2), some (.ref c3), some (.int (0 : Int32)), some (.int (0 : Int32)), none] [] (aw_s I L D))
    (h2 : s0 = 0 → Q (some (.int (-2 : Int32))) (aw_s I L D)) :
    aw_z X (d + 1) y_AW_rule Q 14 [some (.ref 0), none, some (.int v2), some (.ref c3), none, none, none] [.int s0] (aw_s I L D) :=
  (z_if_ne (tgt := 20) d_AW_rule_14 rfl (fun q1 => (s_AW_rule_20.go [some (.ref 0), none, some (.int v2), some (.ref c3), some (.int (0 : Int32)), some (.int (0 : Int32)), none] [] (aw_s I L D) rfl (h1 q1))) (fun q2 => (s_AW_rule_17.go [some (.ref 0), none, some (.int v2), some (.ref c3), none, none, none] [.int (-2 : Int32)] (aw_s I L D) rfl (z_iret d_AW_rule_19 rfl rfl (h2 q2)))))
theorem d_AW_rule_26 : decode y_AW_rule.2.1 26 = .ok (.iload 5, 2) := by decide +kernel
theorem d_AW_rule_28 : decode y_AW_rule.2.1 28 = .ok (.aload_n 0, 1) := by decide +kernel
theorem d_AW_rule_29 : decode y_AW_rule.2.1 29 = .ok (.getfield 12, 3) := by decide +kernel
theorem s_AW_rule_26 : aw_VS y_AW_rule 26 [o_ild 5, o_ald 0, o_getA 0 0] 32 := .cons (v_iload (i := 5) d_AW_rule_26) (.cons (v_aload_n (i := 0) d_AW_rule_28 rfl) (.cons (v_getA (k := 0) k_AW (by decide) rfl (Or.inl w_490) d_AW_rule_29) .nil))
theorem d_AW_rule_32 : decode y_AW_rule.2.1 32 = .ok (.invokevirtual 215, 3) := by decide +kernel
theorem b_AW_rule_26 {X : aw_X} {d : Nat} {Q : Option Value → aw_H → Prop} {I : Nat → Nat → Int32} {L : Nat → Nat → Int64} {D : Nat → Nat} {v2 : Int32} {c3 : Nat} {v4 : Int32} {v5 : Int32}
    (h1 : aw_m X d y_Sz_greatest [.ref 1] (aw_s I L D) (fun r A => aw_z X (d + 1) y_AW_rule Q 35 [some (.ref 0), none, some (.int v2), some (.ref c3), some (.int v4), some (.int v5), none] (r.toList ++ [.int v5]) A)) :
    aw_z X (d + 1) y_AW_rule Q 26 [some (.ref 0), none, some (.int v2), some (.ref c3), some (.int v4), some (.int v5), none] [] (aw_s I L D) :=
  (s_AW_rule_26.go [some (.ref 0), none, some (.int v2), some (.ref c3), some (.int v4), some (.int v5), none] [.ref 1, .int v5] (aw_s I L D) rfl (z_callV (av := []) (st := [.int v5]) ok_Sz_greatest (Or.inl w_1121) w_906 w_907 k_Sz d_AW_rule_32 rfl (aw_lt (o := 1) rfl) rfl rfl (Nat.le_of_ble_eq_true rfl) (Nat.le_refl _) (Nat.le_refl _) (h1)))
theorem d_AW_rule_35 : decode y_AW_rule.2.1 35 = .ok (.if_icmp .gt (34), 3) := by decide +kernel
theorem d_AW_rule_69 : decode y_AW_rule.2.1 69 = .ok (.iconst (-1), 1) := by decide +kernel
theorem s_AW_rule_69 : aw_VS y_AW_rule 69 [o_c (.int (-1 : Int32))] 70 := .cons (v_iconst (v := (-1 : Int32)) d_AW_rule_69 (by decide +kernel)) .nil
theorem d_AW_rule_70 : decode y_AW_rule.2.1 70 = .ok (.ireturn, 1) := by decide +kernel
theorem d_AW_rule_38 : decode y_AW_rule.2.1 38 = .ok (.aload_n 0, 1) := by decide +kernel
theorem d_AW_rule_39 : decode y_AW_rule.2.1 39 = .ok (.aload_n 3, 1) := by decide +kernel
theorem d_AW_rule_40 : decode y_AW_rule.2.1 40 = .ok (.iload_n 2, 1) := by decide +kernel
theorem d_AW_rule_41 : decode y_AW_rule.2.1 41 = .ok (.iload 5, 2) := by decide +kernel
theorem d_AW_rule_43 : decode y_AW_rule.2.1 43 = .ok (.iload 4, 2) := by decide +kernel
theorem s_AW_rule_38 : aw_VS y_AW_rule 38 [o_ald 0, o_ald 3, o_ild 2, o_ild 5, o_ild 4] 45 := .cons (v_aload_n (i := 0) d_AW_rule_38 rfl) (.cons (v_aload_n (i := 3) d_AW_rule_39 rfl) (.cons (v_iload_n (i := 2) d_AW_rule_40 rfl) (.cons (v_iload (i := 5) d_AW_rule_41) (.cons (v_iload (i := 4) d_AW_rule_43) .nil))))
theorem d_AW_rule_45 : decode y_AW_rule.2.1 45 = .ok (.invokevirtual 244, 3) := by decide +kernel
theorem b_AW_rule_35 {X : aw_X} {d : Nat} {Q : Option Value → aw_H → Prop} {I : Nat → Nat → Int32} {L : Nat → Nat → Int64} {D : Nat → Nat} {v2 : Int32} {c3 : Nat} {v4 : Int32} {v5 : Int32} {s1 : Int32} {s0 : Int32}
    (h1 : s1 < s0 → Q (some (.int (-1 : Int32))) (aw_s I L D))
    (h2 : ¬ s1 < s0 → aw_m X d y_AW_harmedRow [.ref 0, .ref c3, .int v2, .int v5, .int v4] (aw_s I L D) (fun r A => aw_z X (d + 1) y_AW_rule Q 48 [some (.ref 0), none, some (.int v2), some (.ref c3), none, some (.int v5), none] (r.toList ++ []) A)) :
    aw_z X (d + 1) y_AW_rule Q 35 [some (.ref 0), none, some (.int v2), some (.ref c3), some (.int v4), some (.int v5), none] [.int s1, .int s0] (aw_s I L D) :=
  (z_icmp_gt (tgt := 69) d_AW_rule_35 rfl (fun q1 => (s_AW_rule_69.go [some (.ref 0), none, some (.int v2), some (.ref c3), some (.int v4), some (.int v5), none] [.int (-1 : Int32)] (aw_s I L D) rfl (z_iret d_AW_rule_70 rfl rfl (h1 q1)))) (fun q2 => (s_AW_rule_38.go [some (.ref 0), none, some (.int v2), some (.ref c3), some (.int v4), some (.int v5), none] [.int v4, .int v5, .int v2, .ref c3, .ref 0] (aw_s I L D) rfl (z_callV (av := [.ref c3, .int v2, .int v5, .int v4]) (st := []) ok_AW_harmedRow (Or.inl w_1187) w_1189 w_53 k_AW d_AW_rule_45 rfl (aw_lt (o := 0) rfl) rfl rfl (Nat.le_of_ble_eq_true rfl) (Nat.le_refl _) (Nat.le_refl _) (aw_C.mono (h2 q2) (fun _ _ zz => aw_Z.weak (ls' := [some (.ref 0), none, some (.int v2), some (.ref c3), none, some (.int v5), none]) zz (Nat.le_of_ble_eq_true rfl) ⟨Or.inr rfl, ⟨Or.inl rfl, ⟨Or.inr rfl, ⟨Or.inr rfl, ⟨Or.inl rfl, ⟨Or.inr rfl, ⟨Or.inl rfl, trivial⟩⟩⟩⟩⟩⟩⟩))))))
theorem d_AW_rule_48 : decode y_AW_rule.2.1 48 = .ok (.istore 6, 2) := by decide +kernel
theorem d_AW_rule_50 : decode y_AW_rule.2.1 50 = .ok (.iload 6, 2) := by decide +kernel
theorem d_AW_rule_52 : decode y_AW_rule.2.1 52 = .ok (.iconst (-1), 1) := by decide +kernel
theorem s_AW_rule_48 : aw_VS y_AW_rule 48 [o_ist 6, o_ild 6, o_c (.int (-1 : Int32))] 53 := .cons (v_istore d_AW_rule_48) (.cons (v_iload (i := 6) d_AW_rule_50) (.cons (v_iconst (v := (-1 : Int32)) d_AW_rule_52 (by decide +kernel)) .nil))
theorem d_AW_rule_53 : decode y_AW_rule.2.1 53 = .ok (.if_icmp .ne (6), 3) := by decide +kernel
theorem d_AW_rule_59 : decode y_AW_rule.2.1 59 = .ok (.iload 6, 2) := by decide +kernel
theorem d_AW_rule_61 : decode y_AW_rule.2.1 61 = .ok (.istore 4, 2) := by decide +kernel
theorem d_AW_rule_63 : decode y_AW_rule.2.1 63 = .ok (.iinc 5 (1), 3) := by decide +kernel
theorem s_AW_rule_59 : aw_VS y_AW_rule 59 [o_ild 6, o_ist 4, o_inc 5 (1 : Int32)] 66 := .cons (v_iload (i := 6) d_AW_rule_59) (.cons (v_istore d_AW_rule_61) (.cons (v_iinc (k0 := (1 : Int32)) d_AW_rule_63 (by decide +kernel)) .nil))
theorem d_AW_rule_66 : decode y_AW_rule.2.1 66 = .ok (.goto (-40), 3) := by decide +kernel
theorem d_AW_rule_56 : decode y_AW_rule.2.1 56 = .ok (.iload 5, 2) := by decide +kernel
theorem s_AW_rule_56 : aw_VS y_AW_rule 56 [o_ild 5] 58 := .cons (v_iload (i := 5) d_AW_rule_56) .nil
theorem d_AW_rule_58 : decode y_AW_rule.2.1 58 = .ok (.ireturn, 1) := by decide +kernel
theorem b_AW_rule_48 {X : aw_X} {d : Nat} {Q : Option Value → aw_H → Prop} {I : Nat → Nat → Int32} {L : Nat → Nat → Int64} {D : Nat → Nat} {v2 : Int32} {c3 : Nat} {v5 : Int32} {s0 : Int32}
    (h1 : ¬ s0 = (-1 : Int32) → aw_z X (d + 1) y_AW_rule Q 26 [some (.ref 0), none, some (.int v2), some (.ref c3), some (.int s0), some (.int (v5 + (1 : Int32))), none] [] (aw_s I L D))
    (h2 : s0 = (-1 : Int32) → Q (some (.int v5)) (aw_s I L D)) :
    aw_z X (d + 1) y_AW_rule Q 48 [some (.ref 0), none, some (.int v2), some (.ref c3), none, some (.int v5), none] [.int s0] (aw_s I L D) :=
  (s_AW_rule_48.go [some (.ref 0), none, some (.int v2), some (.ref c3), none, some (.int v5), some (.int s0)] [.int (-1 : Int32), .int s0] (aw_s I L D) rfl (z_icmp_ne (tgt := 59) d_AW_rule_53 rfl (fun q1 => (s_AW_rule_59.go [some (.ref 0), none, some (.int v2), some (.ref c3), some (.int s0), some (.int (v5 + (1 : Int32))), some (.int s0)] [] (aw_s I L D) rfl (z_goto (tgt := 26) d_AW_rule_66 rfl (aw_Z.weak (ls' := [some (.ref 0), none, some (.int v2), some (.ref c3), some (.int s0), some (.int (v5 + (1 : Int32))), none]) (h1 q1) (Nat.le_of_ble_eq_true rfl) ⟨Or.inr rfl, ⟨Or.inl rfl, ⟨Or.inr rfl, ⟨Or.inr rfl, ⟨Or.inr rfl, ⟨Or.inr rfl, ⟨Or.inl rfl, trivial⟩⟩⟩⟩⟩⟩⟩)))) (fun q2 => (s_AW_rule_56.go [some (.ref 0), none, some (.int v2), some (.ref c3), none, some (.int v5), some (.int s0)] [.int v5] (aw_s I L D) rfl (z_iret d_AW_rule_58 rfl rfl (h2 q2))))))
/-! AW_harmedRow -/
theorem d_AW_harmedRow_0 : decode y_AW_harmedRow.2.1 0 = .ok (.iload_n 3, 1) := by decide +kernel
theorem d_AW_harmedRow_1 : decode y_AW_harmedRow.2.1 1 = .ok (.iconst (-1), 1) := by decide +kernel
theorem s_AW_harmedRow_0 : aw_VS y_AW_harmedRow 0 [o_ild 3, o_c (.int (-1 : Int32))] 2 := .cons (v_iload_n (i := 3) d_AW_harmedRow_0 rfl) (.cons (v_iconst (v := (-1 : Int32)) d_AW_harmedRow_1 (by decide +kernel)) .nil)
theorem d_AW_harmedRow_2 : decode y_AW_harmedRow.2.1 2 = .ok (.if_icmp .ne (13), 3) := by decide +kernel
theorem d_AW_harmedRow_15 : decode y_AW_harmedRow.2.1 15 = .ok (.aload_n 0, 1) := by decide +kernel
theorem d_AW_harmedRow_16 : decode y_AW_harmedRow.2.1 16 = .ok (.getfield 12, 3) := by decide +kernel
theorem s_AW_harmedRow_15 : aw_VS y_AW_harmedRow 15 [o_ald 0, o_getA 0 0] 19 := .cons (v_aload_n (i := 0) d_AW_harmedRow_15 rfl) (.cons (v_getA (k := 0) k_AW (by decide) rfl (Or.inl w_490) d_AW_harmedRow_16) .nil)
theorem d_AW_harmedRow_19 : decode y_AW_harmedRow.2.1 19 = .ok (.invokevirtual 237, 3) := by decide +kernel
theorem d_AW_harmedRow_5 : decode y_AW_harmedRow.2.1 5 = .ok (.aload_n 0, 1) := by decide +kernel
theorem d_AW_harmedRow_6 : decode y_AW_harmedRow.2.1 6 = .ok (.getfield 12, 3) := by decide +kernel
theorem s_AW_harmedRow_5 : aw_VS y_AW_harmedRow 5 [o_ald 0, o_getA 0 0] 9 := .cons (v_aload_n (i := 0) d_AW_harmedRow_5 rfl) (.cons (v_getA (k := 0) k_AW (by decide) rfl (Or.inl w_490) d_AW_harmedRow_6) .nil)
theorem d_AW_harmedRow_9 : decode y_AW_harmedRow.2.1 9 = .ok (.invokevirtual 139, 3) := by decide +kernel
theorem b_AW_harmedRow_0 {X : aw_X} {d : Nat} {Q : Option Value → aw_H → Prop} {I : Nat → Nat → Int32} {L : Nat → Nat → Int64} {D : Nat → Nat} {c1 : Nat} {v2 : Int32} {v3 : Int32} {v4 : Int32}
    (h1 : ¬ v3 = (-1 : Int32) → aw_m X d y_Sz_letterRows [.ref 1] (aw_s I L D) (fun r A => aw_z X (d + 1) y_AW_harmedRow Q 22 [some (.ref 0), some (.ref c1), some (.int v2), some (.int v3), some (.int v4), none, none, none] (r.toList ++ []) A))
    (h2 : v3 = (-1 : Int32) → aw_m X d y_Sz_rows [.ref 1] (aw_s I L D) (fun r A => aw_z X (d + 1) y_AW_harmedRow Q 12 [some (.ref 0), some (.ref c1), some (.int v2), some (.int v3), some (.int v4), none, none, none] (r.toList ++ []) A)) :
    aw_z X (d + 1) y_AW_harmedRow Q 0 [some (.ref 0), some (.ref c1), some (.int v2), some (.int v3), some (.int v4), none, none, none] [] (aw_s I L D) :=
  (s_AW_harmedRow_0.go [some (.ref 0), some (.ref c1), some (.int v2), some (.int v3), some (.int v4), none, none, none] [.int (-1 : Int32), .int v3] (aw_s I L D) rfl (z_icmp_ne (tgt := 15) d_AW_harmedRow_2 rfl (fun q1 => (s_AW_harmedRow_15.go [some (.ref 0), some (.ref c1), some (.int v2), some (.int v3), some (.int v4), none, none, none] [.ref 1] (aw_s I L D) rfl (z_callV (av := []) (st := []) ok_Sz_letterRows (Or.inl w_1163) w_1164 w_1165 k_Sz d_AW_harmedRow_19 rfl (aw_lt (o := 1) rfl) rfl rfl (Nat.le_of_ble_eq_true rfl) (Nat.le_refl _) (Nat.le_refl _) (h1 q1)))) (fun q2 => (s_AW_harmedRow_5.go [some (.ref 0), some (.ref c1), some (.int v2), some (.int v3), some (.int v4), none, none, none] [.ref 1] (aw_s I L D) rfl (z_callV (av := []) (st := []) ok_Sz_rows (Or.inl w_877) w_878 w_879 k_Sz d_AW_harmedRow_9 rfl (aw_lt (o := 1) rfl) rfl rfl (Nat.le_of_ble_eq_true rfl) (Nat.le_refl _) (Nat.le_refl _) (h2 q2))))))
theorem d_AW_harmedRow_22 : decode y_AW_harmedRow.2.1 22 = .ok (.istore 5, 2) := by decide +kernel
theorem d_AW_harmedRow_24 : decode y_AW_harmedRow.2.1 24 = .ok (.iconst 0, 1) := by decide +kernel
theorem d_AW_harmedRow_25 : decode y_AW_harmedRow.2.1 25 = .ok (.istore 6, 2) := by decide +kernel
theorem s_AW_harmedRow_22 : aw_VS y_AW_harmedRow 22 [o_ist 5, o_c (.int (0 : Int32)), o_ist 6] 27 := .cons (v_istore d_AW_harmedRow_22) (.cons (v_iconst (v := (0 : Int32)) d_AW_harmedRow_24 (by decide +kernel)) (.cons (v_istore d_AW_harmedRow_25) .nil))
theorem b_AW_harmedRow_22 {X : aw_X} {d : Nat} {Q : Option Value → aw_H → Prop} {I : Nat → Nat → Int32} {L : Nat → Nat → Int64} {D : Nat → Nat} {c1 : Nat} {v2 : Int32} {v3 : Int32} {v4 : Int32} {s0 : Int32}
    (h1 : aw_z X (d + 1) y_AW_harmedRow Q 27 [some (.ref 0), some (.ref c1), some (.int v2), some (.int v3), some (.int v4), some (.int s0), some (.int (0 : Int32)), none] [] (aw_s I L D)) :
    aw_z X (d + 1) y_AW_harmedRow Q 22 [some (.ref 0), some (.ref c1), some (.int v2), some (.int v3), some (.int v4), none, none, none] [.int s0] (aw_s I L D) :=
  (s_AW_harmedRow_22.go [some (.ref 0), some (.ref c1), some (.int v2), some (.int v3), some (.int v4), some (.int s0), some (.int (0 : Int32)), none] [] (aw_s I L D) rfl (h1))
theorem d_AW_harmedRow_12 : decode y_AW_harmedRow.2.1 12 = .ok (.goto (10), 3) := by decide +kernel
theorem b_AW_harmedRow_12 {X : aw_X} {d : Nat} {Q : Option Value → aw_H → Prop} {I : Nat → Nat → Int32} {L : Nat → Nat → Int64} {D : Nat → Nat} {c1 : Nat} {v2 : Int32} {v3 : Int32} {v4 : Int32} {s0 : Int32}
    (h1 : aw_z X (d + 1) y_AW_harmedRow Q 22 [some (.ref 0), some (.ref c1), some (.int v2), some (.int v3), some (.int v4), none, none, none] [.int s0] (aw_s I L D)) :
    aw_z X (d + 1) y_AW_harmedRow Q 12 [some (.ref 0), some (.ref c1), some (.int v2), some (.int v3), some (.int v4), none, none, none] [.int s0] (aw_s I L D) :=
  (z_goto (tgt := 22) d_AW_harmedRow_12 rfl (h1))
theorem d_AW_harmedRow_27 : decode y_AW_harmedRow.2.1 27 = .ok (.iload 6, 2) := by decide +kernel
theorem d_AW_harmedRow_29 : decode y_AW_harmedRow.2.1 29 = .ok (.iload 5, 2) := by decide +kernel
theorem s_AW_harmedRow_27 : aw_VS y_AW_harmedRow 27 [o_ild 6, o_ild 5] 31 := .cons (v_iload (i := 6) d_AW_harmedRow_27) (.cons (v_iload (i := 5) d_AW_harmedRow_29) .nil)
theorem d_AW_harmedRow_31 : decode y_AW_harmedRow.2.1 31 = .ok (.if_icmp .ge (42), 3) := by decide +kernel
theorem d_AW_harmedRow_73 : decode y_AW_harmedRow.2.1 73 = .ok (.iconst (-1), 1) := by decide +kernel
theorem s_AW_harmedRow_73 : aw_VS y_AW_harmedRow 73 [o_c (.int (-1 : Int32))] 74 := .cons (v_iconst (v := (-1 : Int32)) d_AW_harmedRow_73 (by decide +kernel)) .nil
theorem d_AW_harmedRow_74 : decode y_AW_harmedRow.2.1 74 = .ok (.ireturn, 1) := by decide +kernel
theorem d_AW_harmedRow_34 : decode y_AW_harmedRow.2.1 34 = .ok (.iload 4, 2) := by decide +kernel
theorem d_AW_harmedRow_36 : decode y_AW_harmedRow.2.1 36 = .ok (.iload 6, 2) := by decide +kernel
theorem d_AW_harmedRow_38 : decode y_AW_harmedRow.2.1 38 = .ok (.iadd, 1) := by decide +kernel
theorem d_AW_harmedRow_39 : decode y_AW_harmedRow.2.1 39 = .ok (.iload 5, 2) := by decide +kernel
theorem d_AW_harmedRow_41 : decode y_AW_harmedRow.2.1 41 = .ok (.iconst 1, 1) := by decide +kernel
theorem d_AW_harmedRow_42 : decode y_AW_harmedRow.2.1 42 = .ok (.isub, 1) := by decide +kernel
theorem d_AW_harmedRow_43 : decode y_AW_harmedRow.2.1 43 = .ok (.iand, 1) := by decide +kernel
theorem d_AW_harmedRow_44 : decode y_AW_harmedRow.2.1 44 = .ok (.istore 7, 2) := by decide +kernel
theorem d_AW_harmedRow_46 : decode y_AW_harmedRow.2.1 46 = .ok (.aload_n 0, 1) := by decide +kernel
theorem d_AW_harmedRow_47 : decode y_AW_harmedRow.2.1 47 = .ok (.getfield 28, 3) := by decide +kernel
theorem d_AW_harmedRow_50 : decode y_AW_harmedRow.2.1 50 = .ok (.aload_n 1, 1) := by decide +kernel
theorem d_AW_harmedRow_51 : decode y_AW_harmedRow.2.1 51 = .ok (.iload 7, 2) := by decide +kernel
theorem d_AW_harmedRow_53 : decode y_AW_harmedRow.2.1 53 = .ok (.iload_n 2, 1) := by decide +kernel
theorem d_AW_harmedRow_54 : decode y_AW_harmedRow.2.1 54 = .ok (.iload_n 3, 1) := by decide +kernel
theorem s_AW_harmedRow_34 : aw_VS y_AW_harmedRow 34 [o_ild 4, o_ild 6, o_i2 (fun x z => x + z), o_ild 5, o_c (.int (1 : Int32)), o_i2 (fun x z => x - z), o_i2 (fun x z => x &&& z), o_ist 7, o_ald 0, o_getA 0 2, o_ald 1, o_ild 7, o_ild 2, o_ild 3] 55 := .cons (v_iload (i := 4) d_AW_harmedRow_34) (.cons (v_iload (i := 6) d_AW_harmedRow_36) (.cons (v_iadd d_AW_harmedRow_38) (.cons (v_iload (i := 5) d_AW_harmedRow_39) (.cons (v_iconst (v := (1 : Int32)) d_AW_harmedRow_41 (by decide +kernel)) (.cons (v_isub d_AW_harmedRow_42) (.cons (v_iand d_AW_harmedRow_43) (.cons (v_istore d_AW_harmedRow_44) (.cons (v_aload_n (i := 0) d_AW_harmedRow_46 rfl) (.cons (v_getA (k := 2) k_AW (by decide) rfl (Or.inl w_492) d_AW_harmedRow_47) (.cons (v_aload_n (i := 1) d_AW_harmedRow_50 rfl) (.cons (v_iload (i := 7) d_AW_harmedRow_51) (.cons (v_iload_n (i := 2) d_AW_harmedRow_53 rfl) (.cons (v_iload_n (i := 3) d_AW_harmedRow_54 rfl) .nil)))))))))))))
theorem d_AW_harmedRow_55 : decode y_AW_harmedRow.2.1 55 = .ok (.invokevirtual 327, 3) := by decide +kernel
theorem b_AW_harmedRow_27 {X : aw_X} {d : Nat} {Q : Option Value → aw_H → Prop} {I : Nat → Nat → Int32} {L : Nat → Nat → Int64} {D : Nat → Nat} {c1 : Nat} {v2 : Int32} {v3 : Int32} {v4 : Int32} {v5 : Int32} {v6 : Int32}
    (h1 : v5 ≤ v6 → Q (some (.int (-1 : Int32))) (aw_s I L D))
    (h2 : ¬ v5 ≤ v6 → aw_m X d y_Mc_launchAnswered [.ref 4, .ref c1, .int ((v4 + v6) &&& (v5 - (1 : Int32))), .int v2, .int v3] (aw_s I L D) (fun r A => aw_z X (d + 1) y_AW_harmedRow Q 58 [some (.ref 0), some (.ref c1), some (.int v2), some (.int v3), some (.int v4), some (.int v5), some (.int v6), some (.int ((v4 + v6) &&& (v5 - (1 : Int32))))] (r.toList ++ []) A)) :
    aw_z X (d + 1) y_AW_harmedRow Q 27 [some (.ref 0), some (.ref c1), some (.int v2), some (.int v3), some (.int v4), some (.int v5), some (.int v6), none] [] (aw_s I L D) :=
  (s_AW_harmedRow_27.go [some (.ref 0), some (.ref c1), some (.int v2), some (.int v3), some (.int v4), some (.int v5), some (.int v6), none] [.int v5, .int v6] (aw_s I L D) rfl (z_icmp_ge (tgt := 73) d_AW_harmedRow_31 rfl (fun q1 => (s_AW_harmedRow_73.go [some (.ref 0), some (.ref c1), some (.int v2), some (.int v3), some (.int v4), some (.int v5), some (.int v6), none] [.int (-1 : Int32)] (aw_s I L D) rfl (z_iret d_AW_harmedRow_74 rfl rfl (h1 q1)))) (fun q2 => (s_AW_harmedRow_34.go [some (.ref 0), some (.ref c1), some (.int v2), some (.int v3), some (.int v4), some (.int v5), some (.int v6), some (.int ((v4 + v6) &&& (v5 - (1 : Int32))))] [.int v3, .int v2, .int ((v4 + v6) &&& (v5 - (1 : Int32))), .ref c1, .ref 4] (aw_s I L D) rfl (z_callV (av := [.ref c1, .int ((v4 + v6) &&& (v5 - (1 : Int32))), .int v2, .int v3]) (st := []) ok_Mc_launchAnswered (Or.inl w_1191) w_898 w_899 k_Mc d_AW_harmedRow_55 rfl (aw_lt (o := 4) rfl) rfl rfl (Nat.le_of_ble_eq_true rfl) (Nat.le_refl _) (Nat.le_refl _) (h2 q2))))))
theorem d_AW_harmedRow_58 : decode y_AW_harmedRow.2.1 58 = .ok (.invokestatic 324, 3) := by decide +kernel
theorem b_AW_harmedRow_58 {X : aw_X} {d : Nat} {Q : Option Value → aw_H → Prop} {I : Nat → Nat → Int32} {L : Nat → Nat → Int64} {D : Nat → Nat} {c1 : Nat} {v2 : Int32} {v3 : Int32} {v4 : Int32} {v5 : Int32} {v6 : Int32} {v7 : Int32} {s0 : Int32}
    (h1 : aw_m X d y_AW_isHarm [.int s0] (aw_s I L D) (fun r A => aw_z X (d + 1) y_AW_harmedRow Q 61 [some (.ref 0), some (.ref c1), some (.int v2), some (.int v3), some (.int v4), some (.int v5), some (.int v6), some (.int v7)] (r.toList ++ []) A)) :
    aw_z X (d + 1) y_AW_harmedRow Q 58 [some (.ref 0), some (.ref c1), some (.int v2), some (.int v3), some (.int v4), some (.int v5), some (.int v6), some (.int v7)] [.int s0] (aw_s I L D) :=
  (z_callS (av := [.int s0]) (st := []) ok_AW_isHarm (Or.inl w_1176) w_1177 d_AW_harmedRow_58 rfl rfl (Nat.le_of_ble_eq_true rfl) (Nat.le_refl _) (Nat.le_refl _) (h1))
theorem d_AW_harmedRow_61 : decode y_AW_harmedRow.2.1 61 = .ok (.ifCond .eq (6), 3) := by decide +kernel
theorem d_AW_harmedRow_67 : decode y_AW_harmedRow.2.1 67 = .ok (.iinc 6 (1), 3) := by decide +kernel
theorem s_AW_harmedRow_67 : aw_VS y_AW_harmedRow 67 [o_inc 6 (1 : Int32)] 70 := .cons (v_iinc (k0 := (1 : Int32)) d_AW_harmedRow_67 (by decide +kernel)) .nil
theorem d_AW_harmedRow_70 : decode y_AW_harmedRow.2.1 70 = .ok (.goto (-43), 3) := by decide +kernel
theorem d_AW_harmedRow_64 : decode y_AW_harmedRow.2.1 64 = .ok (.iload 7, 2) := by decide +kernel
theorem s_AW_harmedRow_64 : aw_VS y_AW_harmedRow 64 [o_ild 7] 66 := .cons (v_iload (i := 7) d_AW_harmedRow_64) .nil
theorem d_AW_harmedRow_66 : decode y_AW_harmedRow.2.1 66 = .ok (.ireturn, 1) := by decide +kernel
theorem b_AW_harmedRow_61 {X : aw_X} {d : Nat} {Q : Option Value → aw_H → Prop} {I : Nat → Nat → Int32} {L : Nat → Nat → Int64} {D : Nat → Nat} {c1 : Nat} {v2 : Int32} {v3 : Int32} {v4 : Int32} {v5 : Int32} {v6 : Int32} {v7 : Int32} {s0 : Int32}
    (h1 : s0 = 0 → aw_z X (d + 1) y_AW_harmedRow Q 27 [some (.ref 0), some (.ref c1), some (.int v2), some (.int v3), some (.int v4), some (.int v5), some (.int (v6 + (1 : Int32))), none] [] (aw_s I L D))
    (h2 : ¬ s0 = 0 → Q (some (.int v7)) (aw_s I L D)) :
    aw_z X (d + 1) y_AW_harmedRow Q 61 [some (.ref 0), some (.ref c1), some (.int v2), some (.int v3), some (.int v4), some (.int v5), some (.int v6), some (.int v7)] [.int s0] (aw_s I L D) :=
  (z_if_eq (tgt := 67) d_AW_harmedRow_61 rfl (fun q1 => (s_AW_harmedRow_67.go [some (.ref 0), some (.ref c1), some (.int v2), some (.int v3), some (.int v4), some (.int v5), some (.int (v6 + (1 : Int32))), some (.int v7)] [] (aw_s I L D) rfl (z_goto (tgt := 27) d_AW_harmedRow_70 rfl (aw_Z.weak (ls' := [some (.ref 0), some (.ref c1), some (.int v2), some (.int v3), some (.int v4), some (.int v5), some (.int (v6 + (1 : Int32))), none]) (h1 q1) (Nat.le_of_ble_eq_true rfl) ⟨Or.inr rfl, ⟨Or.inr rfl, ⟨Or.inr rfl, ⟨Or.inr rfl, ⟨Or.inr rfl, ⟨Or.inr rfl, ⟨Or.inr rfl, ⟨Or.inl rfl, trivial⟩⟩⟩⟩⟩⟩⟩⟩)))) (fun q2 => (s_AW_harmedRow_64.go [some (.ref 0), some (.ref c1), some (.int v2), some (.int v3), some (.int v4), some (.int v5), some (.int v6), some (.int v7)] [.int v7] (aw_s I L D) rfl (z_iret d_AW_harmedRow_66 rfl rfl (h2 q2)))))
/-! AW_rounds -/
theorem d_AW_rounds_0 : decode y_AW_rounds.2.1 0 = .ok (.aload_n 0, 1) := by decide +kernel
theorem d_AW_rounds_1 : decode y_AW_rounds.2.1 1 = .ok (.getfield 35, 3) := by decide +kernel
theorem d_AW_rounds_4 : decode y_AW_rounds.2.1 4 = .ok (.iload_n 1, 1) := by decide +kernel
theorem s_AW_rounds_0 : aw_VS y_AW_rounds 0 [o_ald 0, o_getA 0 3, o_ild 1] 5 := .cons (v_aload_n (i := 0) d_AW_rounds_0 rfl) (.cons (v_getA (k := 3) k_AW (by decide) rfl (Or.inl w_493) d_AW_rounds_1) (.cons (v_iload_n (i := 1) d_AW_rounds_4 rfl) .nil))
theorem d_AW_rounds_5 : decode y_AW_rounds.2.1 5 = .ok (.invokevirtual 248, 3) := by decide +kernel
theorem b_AW_rounds_0 {X : aw_X} {d : Nat} {Q : Option Value → aw_H → Prop} {I : Nat → Nat → Int32} {L : Nat → Nat → Int64} {D : Nat → Nat} {v1 : Int32} {v2 : Int32}
    (h1 : aw_m X d y_Wk_isWhile [.ref 11, .int v1] (aw_s I L D) (fun r A => aw_z X (d + 1) y_AW_rounds Q 8 [some (.ref 0), some (.int v1), some (.int v2)] (r.toList ++ []) A)) :
    aw_z X (d + 1) y_AW_rounds Q 0 [some (.ref 0), some (.int v1), some (.int v2)] [] (aw_s I L D) :=
  (s_AW_rounds_0.go [some (.ref 0), some (.int v1), some (.int v2)] [.int v1, .ref 11] (aw_s I L D) rfl (z_callV (av := [.int v1]) (st := []) ok_Wk_isWhile (Or.inl w_1196) w_1197 w_1198 k_Wk d_AW_rounds_5 rfl (aw_lt (o := 11) rfl) rfl rfl (Nat.le_of_ble_eq_true rfl) (Nat.le_refl _) (Nat.le_refl _) (h1)))
theorem d_AW_rounds_8 : decode y_AW_rounds.2.1 8 = .ok (.ifCond .ne (5), 3) := by decide +kernel
theorem d_AW_rounds_13 : decode y_AW_rounds.2.1 13 = .ok (.aload_n 0, 1) := by decide +kernel
theorem d_AW_rounds_14 : decode y_AW_rounds.2.1 14 = .ok (.getfield 35, 3) := by decide +kernel
theorem d_AW_rounds_17 : decode y_AW_rounds.2.1 17 = .ok (.iload_n 1, 1) := by decide +kernel
theorem d_AW_rounds_18 : decode y_AW_rounds.2.1 18 = .ok (.iload_n 2, 1) := by decide +kernel
theorem s_AW_rounds_13 : aw_VS y_AW_rounds 13 [o_ald 0, o_getA 0 3, o_ild 1, o_ild 2] 19 := .cons (v_aload_n (i := 0) d_AW_rounds_13 rfl) (.cons (v_getA (k := 3) k_AW (by decide) rfl (Or.inl w_493) d_AW_rounds_14) (.cons (v_iload_n (i := 1) d_AW_rounds_17 rfl) (.cons (v_iload_n (i := 2) d_AW_rounds_18 rfl) .nil)))
theorem d_AW_rounds_19 : decode y_AW_rounds.2.1 19 = .ok (.invokevirtual 251, 3) := by decide +kernel
theorem d_AW_rounds_11 : decode y_AW_rounds.2.1 11 = .ok (.iconst (-1), 1) := by decide +kernel
theorem s_AW_rounds_11 : aw_VS y_AW_rounds 11 [o_c (.int (-1 : Int32))] 12 := .cons (v_iconst (v := (-1 : Int32)) d_AW_rounds_11 (by decide +kernel)) .nil
theorem d_AW_rounds_12 : decode y_AW_rounds.2.1 12 = .ok (.ireturn, 1) := by decide +kernel
theorem b_AW_rounds_8 {X : aw_X} {d : Nat} {Q : Option Value → aw_H → Prop} {I : Nat → Nat → Int32} {L : Nat → Nat → Int64} {D : Nat → Nat} {v1 : Int32} {v2 : Int32} {s0 : Int32}
    (h1 : ¬ s0 = 0 → aw_m X d y_Wk_roundsOf [.ref 11, .int v1, .int v2] (aw_s I L D) (fun r A => aw_z X (d + 1) y_AW_rounds Q 22 [none, none, none] (r.toList ++ []) A))
    (h2 : s0 = 0 → Q (some (.int (-1 : Int32))) (aw_s I L D)) :
    aw_z X (d + 1) y_AW_rounds Q 8 [some (.ref 0), some (.int v1), some (.int v2)] [.int s0] (aw_s I L D) :=
  (z_if_ne (tgt := 13) d_AW_rounds_8 rfl (fun q1 => (s_AW_rounds_13.go [some (.ref 0), some (.int v1), some (.int v2)] [.int v2, .int v1, .ref 11] (aw_s I L D) rfl (z_callV (av := [.int v1, .int v2]) (st := []) ok_Wk_roundsOf (Or.inl w_1200) w_1201 w_1202 k_Wk d_AW_rounds_19 rfl (aw_lt (o := 11) rfl) rfl rfl (Nat.le_of_ble_eq_true rfl) (Nat.le_refl _) (Nat.le_refl _) (aw_C.mono (h1 q1) (fun _ _ zz => aw_Z.weak (ls' := [none, none, none]) zz (Nat.le_of_ble_eq_true rfl) ⟨Or.inl rfl, ⟨Or.inl rfl, ⟨Or.inl rfl, trivial⟩⟩⟩))))) (fun q2 => (s_AW_rounds_11.go [some (.ref 0), some (.int v1), some (.int v2)] [.int (-1 : Int32)] (aw_s I L D) rfl (z_iret d_AW_rounds_12 rfl rfl (h2 q2)))))
theorem d_AW_rounds_22 : decode y_AW_rounds.2.1 22 = .ok (.ireturn, 1) := by decide +kernel
theorem b_AW_rounds_22 {X : aw_X} {d : Nat} {Q : Option Value → aw_H → Prop} {I : Nat → Nat → Int32} {L : Nat → Nat → Int64} {D : Nat → Nat} {s0 : Int32}
    (h1 : Q (some (.int s0)) (aw_s I L D)) :
    aw_z X (d + 1) y_AW_rounds Q 22 [none, none, none] [.int s0] (aw_s I L D) :=
  (z_iret d_AW_rounds_22 rfl rfl (h1))
/-! AW_laws -/
theorem d_AW_laws_0 : decode y_AW_laws.2.1 0 = .ok (.aload_n 0, 1) := by decide +kernel
theorem d_AW_laws_1 : decode y_AW_laws.2.1 1 = .ok (.getfield 35, 3) := by decide +kernel
theorem d_AW_laws_4 : decode y_AW_laws.2.1 4 = .ok (.iload_n 1, 1) := by decide +kernel
theorem s_AW_laws_0 : aw_VS y_AW_laws 0 [o_ald 0, o_getA 0 3, o_ild 1] 5 := .cons (v_aload_n (i := 0) d_AW_laws_0 rfl) (.cons (v_getA (k := 3) k_AW (by decide) rfl (Or.inl w_493) d_AW_laws_1) (.cons (v_iload_n (i := 1) d_AW_laws_4 rfl) .nil))
theorem d_AW_laws_5 : decode y_AW_laws.2.1 5 = .ok (.invokevirtual 185, 3) := by decide +kernel
theorem b_AW_laws_0 {X : aw_X} {d : Nat} {Q : Option Value → aw_H → Prop} {I : Nat → Nat → Int32} {L : Nat → Nat → Int64} {D : Nat → Nat} {v1 : Int32}
    (h1 : aw_m X d y_Wk_isBegun [.ref 11, .int v1] (aw_s I L D) (fun r A => aw_z X (d + 1) y_AW_laws Q 8 [some (.ref 0), some (.int v1), none, none] (r.toList ++ []) A)) :
    aw_z X (d + 1) y_AW_laws Q 0 [some (.ref 0), some (.int v1), none, none] [] (aw_s I L D) :=
  (s_AW_laws_0.go [some (.ref 0), some (.int v1), none, none] [.int v1, .ref 11] (aw_s I L D) rfl (z_callV (av := [.int v1]) (st := []) ok_Wk_isBegun (Or.inl w_1080) w_1081 w_1082 k_Wk d_AW_laws_5 rfl (aw_lt (o := 11) rfl) rfl rfl (Nat.le_of_ble_eq_true rfl) (Nat.le_refl _) (Nat.le_refl _) (h1)))
theorem d_AW_laws_8 : decode y_AW_laws.2.1 8 = .ok (.ifCond .ne (5), 3) := by decide +kernel
theorem d_AW_laws_13 : decode y_AW_laws.2.1 13 = .ok (.aload_n 0, 1) := by decide +kernel
theorem d_AW_laws_14 : decode y_AW_laws.2.1 14 = .ok (.iconst 0, 1) := by decide +kernel
theorem d_AW_laws_15 : decode y_AW_laws.2.1 15 = .ok (.putfield 254, 3) := by decide +kernel
theorem d_AW_laws_18 : decode y_AW_laws.2.1 18 = .ok (.iconst 0, 1) := by decide +kernel
theorem d_AW_laws_19 : decode y_AW_laws.2.1 19 = .ok (.istore_n 2, 1) := by decide +kernel
theorem s_AW_laws_13 : aw_VS y_AW_laws 13 [o_ald 0, o_c (.int (0 : Int32)), o_putI 0 14, o_c (.int (0 : Int32)), o_ist 2] 20 := .cons (v_aload_n (i := 0) d_AW_laws_13 rfl) (.cons (v_iconst (v := (0 : Int32)) d_AW_laws_14 (by decide +kernel)) (.cons (v_putI (k := 14) k_AW (by decide) rfl (Or.inl ⟨rfl, Or.inl w_504⟩) d_AW_laws_15) (.cons (v_iconst (v := (0 : Int32)) d_AW_laws_18 (by decide +kernel)) (.cons (v_istore_n d_AW_laws_19) .nil))))
theorem d_AW_laws_11 : decode y_AW_laws.2.1 11 = .ok (.iconst (-1), 1) := by decide +kernel
theorem s_AW_laws_11 : aw_VS y_AW_laws 11 [o_c (.int (-1 : Int32))] 12 := .cons (v_iconst (v := (-1 : Int32)) d_AW_laws_11 (by decide +kernel)) .nil
theorem d_AW_laws_12 : decode y_AW_laws.2.1 12 = .ok (.ireturn, 1) := by decide +kernel
theorem b_AW_laws_8 {X : aw_X} {d : Nat} {Q : Option Value → aw_H → Prop} {I : Nat → Nat → Int32} {L : Nat → Nat → Int64} {D : Nat → Nat} {v1 : Int32} {s0 : Int32}
    (h1 : ¬ s0 = 0 → aw_z X (d + 1) y_AW_laws Q 20 [some (.ref 0), some (.int v1), some (.int (0 : Int32)), none] [] (aw_s (aw_u I 0 14 (0 : Int32)) L D))
    (h2 : s0 = 0 → Q (some (.int (-1 : Int32))) (aw_s I L D)) :
    aw_z X (d + 1) y_AW_laws Q 8 [some (.ref 0), some (.int v1), none, none] [.int s0] (aw_s I L D) :=
  (z_if_ne (tgt := 13) d_AW_laws_8 rfl (fun q1 => (s_AW_laws_13.go [some (.ref 0), some (.int v1), some (.int (0 : Int32)), none] [] (aw_s (aw_u I 0 14 (0 : Int32)) L D) rfl (h1 q1))) (fun q2 => (s_AW_laws_11.go [some (.ref 0), some (.int v1), none, none] [.int (-1 : Int32)] (aw_s I L D) rfl (z_iret d_AW_laws_12 rfl rfl (h2 q2)))))
theorem d_AW_laws_20 : decode y_AW_laws.2.1 20 = .ok (.iload_n 2, 1) := by decide +kernel
theorem d_AW_laws_21 : decode y_AW_laws.2.1 21 = .ok (.bipush 8, 2) := by decide +kernel
theorem s_AW_laws_20 : aw_VS y_AW_laws 20 [o_ild 2, o_c (.int (8 : Int32))] 23 := .cons (v_iload_n (i := 2) d_AW_laws_20 rfl) (.cons (v_bipush (v := (8 : Int32)) d_AW_laws_21 (by decide +kernel)) .nil)
theorem d_AW_laws_23 : decode y_AW_laws.2.1 23 = .ok (.if_icmp .ge (41), 3) := by decide +kernel
theorem d_AW_laws_64 : decode y_AW_laws.2.1 64 = .ok (.aload_n 0, 1) := by decide +kernel
theorem d_AW_laws_65 : decode y_AW_laws.2.1 65 = .ok (.getfield 254, 3) := by decide +kernel
theorem s_AW_laws_64 : aw_VS y_AW_laws 64 [o_ald 0, o_getI 0 14] 68 := .cons (v_aload_n (i := 0) d_AW_laws_64 rfl) (.cons (v_getI (k := 14) k_AW (by decide) (Or.inl rfl) (Or.inl w_504) d_AW_laws_65) .nil)
theorem d_AW_laws_68 : decode y_AW_laws.2.1 68 = .ok (.ireturn, 1) := by decide +kernel
theorem d_AW_laws_26 : decode y_AW_laws.2.1 26 = .ok (.iload_n 2, 1) := by decide +kernel
theorem d_AW_laws_27 : decode y_AW_laws.2.1 27 = .ok (.iconst 1, 1) := by decide +kernel
theorem d_AW_laws_28 : decode y_AW_laws.2.1 28 = .ok (.iadd, 1) := by decide +kernel
theorem d_AW_laws_29 : decode y_AW_laws.2.1 29 = .ok (.istore_n 3, 1) := by decide +kernel
theorem s_AW_laws_26 : aw_VS y_AW_laws 26 [o_ild 2, o_c (.int (1 : Int32)), o_i2 (fun x z => x + z), o_ist 3] 30 := .cons (v_iload_n (i := 2) d_AW_laws_26 rfl) (.cons (v_iconst (v := (1 : Int32)) d_AW_laws_27 (by decide +kernel)) (.cons (v_iadd d_AW_laws_28) (.cons (v_istore_n d_AW_laws_29) .nil)))
theorem b_AW_laws_20 {X : aw_X} {d : Nat} {Q : Option Value → aw_H → Prop} {I : Nat → Nat → Int32} {L : Nat → Nat → Int64} {D : Nat → Nat} {v1 : Int32} {v2 : Int32}
    (h1 : (8 : Int32) ≤ v2 → Q (some (.int (I 0 14))) (aw_s I L D))
    (h2 : ¬ (8 : Int32) ≤ v2 → aw_z X (d + 1) y_AW_laws Q 30 [some (.ref 0), some (.int v1), some (.int v2), some (.int (v2 + (1 : Int32)))] [] (aw_s I L D)) :
    aw_z X (d + 1) y_AW_laws Q 20 [some (.ref 0), some (.int v1), some (.int v2), none] [] (aw_s I L D) :=
  (s_AW_laws_20.go [some (.ref 0), some (.int v1), some (.int v2), none] [.int (8 : Int32), .int v2] (aw_s I L D) rfl (z_icmp_ge (tgt := 64) d_AW_laws_23 rfl (fun q1 => (s_AW_laws_64.go [some (.ref 0), some (.int v1), some (.int v2), none] [.int (I 0 14)] (aw_s I L D) rfl (z_iret d_AW_laws_68 rfl rfl (h1 q1)))) (fun q2 => (s_AW_laws_26.go [some (.ref 0), some (.int v1), some (.int v2), some (.int (v2 + (1 : Int32)))] [] (aw_s I L D) rfl (h2 q2)))))
theorem d_AW_laws_30 : decode y_AW_laws.2.1 30 = .ok (.iload_n 3, 1) := by decide +kernel
theorem d_AW_laws_31 : decode y_AW_laws.2.1 31 = .ok (.bipush 8, 2) := by decide +kernel
theorem s_AW_laws_30 : aw_VS y_AW_laws 30 [o_ild 3, o_c (.int (8 : Int32))] 33 := .cons (v_iload_n (i := 3) d_AW_laws_30 rfl) (.cons (v_bipush (v := (8 : Int32)) d_AW_laws_31 (by decide +kernel)) .nil)
theorem d_AW_laws_33 : decode y_AW_laws.2.1 33 = .ok (.if_icmp .ge (25), 3) := by decide +kernel
theorem d_AW_laws_58 : decode y_AW_laws.2.1 58 = .ok (.iinc 2 (1), 3) := by decide +kernel
theorem s_AW_laws_58 : aw_VS y_AW_laws 58 [o_inc 2 (1 : Int32)] 61 := .cons (v_iinc (k0 := (1 : Int32)) d_AW_laws_58 (by decide +kernel)) .nil
theorem d_AW_laws_61 : decode y_AW_laws.2.1 61 = .ok (.goto (-41), 3) := by decide +kernel
theorem d_AW_laws_36 : decode y_AW_laws.2.1 36 = .ok (.aload_n 0, 1) := by decide +kernel
theorem d_AW_laws_37 : decode y_AW_laws.2.1 37 = .ok (.iload_n 2, 1) := by decide +kernel
theorem d_AW_laws_38 : decode y_AW_laws.2.1 38 = .ok (.iload_n 3, 1) := by decide +kernel
theorem d_AW_laws_39 : decode y_AW_laws.2.1 39 = .ok (.aload_n 0, 1) := by decide +kernel
theorem d_AW_laws_40 : decode y_AW_laws.2.1 40 = .ok (.getfield 35, 3) := by decide +kernel
theorem d_AW_laws_43 : decode y_AW_laws.2.1 43 = .ok (.iload_n 1, 1) := by decide +kernel
theorem d_AW_laws_44 : decode y_AW_laws.2.1 44 = .ok (.iload_n 2, 1) := by decide +kernel
theorem d_AW_laws_45 : decode y_AW_laws.2.1 45 = .ok (.iload_n 3, 1) := by decide +kernel
theorem s_AW_laws_36 : aw_VS y_AW_laws 36 [o_ald 0, o_ild 2, o_ild 3, o_ald 0, o_getA 0 3, o_ild 1, o_ild 2, o_ild 3] 46 := .cons (v_aload_n (i := 0) d_AW_laws_36 rfl) (.cons (v_iload_n (i := 2) d_AW_laws_37 rfl) (.cons (v_iload_n (i := 3) d_AW_laws_38 rfl) (.cons (v_aload_n (i := 0) d_AW_laws_39 rfl) (.cons (v_getA (k := 3) k_AW (by decide) rfl (Or.inl w_493) d_AW_laws_40) (.cons (v_iload_n (i := 1) d_AW_laws_43 rfl) (.cons (v_iload_n (i := 2) d_AW_laws_44 rfl) (.cons (v_iload_n (i := 3) d_AW_laws_45 rfl) .nil)))))))
theorem d_AW_laws_46 : decode y_AW_laws.2.1 46 = .ok (.invokevirtual 207, 3) := by decide +kernel
theorem b_AW_laws_30 {X : aw_X} {d : Nat} {Q : Option Value → aw_H → Prop} {I : Nat → Nat → Int32} {L : Nat → Nat → Int64} {D : Nat → Nat} {v1 : Int32} {v2 : Int32} {v3 : Int32}
    (h1 : (8 : Int32) ≤ v3 → aw_z X (d + 1) y_AW_laws Q 20 [some (.ref 0), some (.int v1), some (.int (v2 + (1 : Int32))), none] [] (aw_s I L D))
    (h2 : ¬ (8 : Int32) ≤ v3 → aw_m X d y_Wk_relationsOf [.ref 11, .int v1, .int v2, .int v3] (aw_s I L D) (fun r A => aw_z X (d + 1) y_AW_laws Q 49 [some (.ref 0), some (.int v1), some (.int v2), some (.int v3)] (r.toList ++ [.int v3, .int v2, .ref 0]) A)) :
    aw_z X (d + 1) y_AW_laws Q 30 [some (.ref 0), some (.int v1), some (.int v2), some (.int v3)] [] (aw_s I L D) :=
  (s_AW_laws_30.go [some (.ref 0), some (.int v1), some (.int v2), some (.int v3)] [.int (8 : Int32), .int v3] (aw_s I L D) rfl (z_icmp_ge (tgt := 58) d_AW_laws_33 rfl (fun q1 => (s_AW_laws_58.go [some (.ref 0), some (.int v1), some (.int (v2 + (1 : Int32))), some (.int v3)] [] (aw_s I L D) rfl (z_goto (tgt := 20) d_AW_laws_61 rfl (aw_Z.weak (ls' := [some (.ref 0), some (.int v1), some (.int (v2 + (1 : Int32))), none]) (h1 q1) (Nat.le_of_ble_eq_true rfl) ⟨Or.inr rfl, ⟨Or.inr rfl, ⟨Or.inr rfl, ⟨Or.inl rfl, trivial⟩⟩⟩⟩)))) (fun q2 => (s_AW_laws_36.go [some (.ref 0), some (.int v1), some (.int v2), some (.int v3)] [.int v3, .int v2, .int v1, .ref 11, .int v3, .int v2, .ref 0] (aw_s I L D) rfl (z_callV (av := [.int v1, .int v2, .int v3]) (st := [.int v3, .int v2, .ref 0]) ok_Wk_relationsOf (Or.inl w_1114) w_1115 w_1116 k_Wk d_AW_laws_46 rfl (aw_lt (o := 11) rfl) rfl rfl (Nat.le_of_ble_eq_true rfl) (Nat.le_refl _) (Nat.le_refl _) (h2 q2))))))
theorem d_AW_laws_49 : decode y_AW_laws.2.1 49 = .ok (.invokevirtual 257, 3) := by decide +kernel
theorem b_AW_laws_49 {X : aw_X} {d : Nat} {Q : Option Value → aw_H → Prop} {I : Nat → Nat → Int32} {L : Nat → Nat → Int64} {D : Nat → Nat} {v1 : Int32} {v2 : Int32} {v3 : Int32} {s3 : Int32} {s2 : Int32} {s1 : Int32}
    (h1 : aw_m X d y_AW_noteLaw [.ref 0, .int s1, .int s2, .int s3] (aw_s I L D) (fun r A => aw_z X (d + 1) y_AW_laws Q 52 [some (.ref 0), some (.int v1), some (.int v2), some (.int v3)] (r.toList ++ []) A)) :
    aw_z X (d + 1) y_AW_laws Q 49 [some (.ref 0), some (.int v1), some (.int v2), some (.int v3)] [.int s3, .int s2, .int s1, .ref 0] (aw_s I L D) :=
  (z_callV (av := [.int s1, .int s2, .int s3]) (st := []) ok_AW_noteLaw (Or.inl w_1208) w_1210 w_54 k_AW d_AW_laws_49 rfl (aw_lt (o := 0) rfl) rfl rfl (Nat.le_of_ble_eq_true rfl) (Nat.le_refl _) (Nat.le_refl _) (h1))
theorem d_AW_laws_52 : decode y_AW_laws.2.1 52 = .ok (.iinc 3 (1), 3) := by decide +kernel
theorem s_AW_laws_52 : aw_VS y_AW_laws 52 [o_inc 3 (1 : Int32)] 55 := .cons (v_iinc (k0 := (1 : Int32)) d_AW_laws_52 (by decide +kernel)) .nil
theorem d_AW_laws_55 : decode y_AW_laws.2.1 55 = .ok (.goto (-25), 3) := by decide +kernel
theorem b_AW_laws_52 {X : aw_X} {d : Nat} {Q : Option Value → aw_H → Prop} {I : Nat → Nat → Int32} {L : Nat → Nat → Int64} {D : Nat → Nat} {v1 : Int32} {v2 : Int32} {v3 : Int32}
    (h1 : aw_z X (d + 1) y_AW_laws Q 30 [some (.ref 0), some (.int v1), some (.int v2), some (.int (v3 + (1 : Int32)))] [] (aw_s I L D)) :
    aw_z X (d + 1) y_AW_laws Q 52 [some (.ref 0), some (.int v1), some (.int v2), some (.int v3)] [] (aw_s I L D) :=
  (s_AW_laws_52.go [some (.ref 0), some (.int v1), some (.int v2), some (.int (v3 + (1 : Int32)))] [] (aw_s I L D) rfl (z_goto (tgt := 30) d_AW_laws_55 rfl (h1)))
/-! AW_noteLaw -/
theorem d_AW_noteLaw_0 : decode y_AW_noteLaw.2.1 0 = .ok (.iconst 0, 1) := by decide +kernel
theorem d_AW_noteLaw_1 : decode y_AW_noteLaw.2.1 1 = .ok (.istore 4, 2) := by decide +kernel
theorem s_AW_noteLaw_0 : aw_VS y_AW_noteLaw 0 [o_c (.int (0 : Int32)), o_ist 4] 3 := .cons (v_iconst (v := (0 : Int32)) d_AW_noteLaw_0 (by decide +kernel)) (.cons (v_istore d_AW_noteLaw_1) .nil)
theorem b_AW_noteLaw_0 {X : aw_X} {d : Nat} {Q : Option Value → aw_H → Prop} {I : Nat → Nat → Int32} {L : Nat → Nat → Int64} {D : Nat → Nat} {v1 : Int32} {v2 : Int32} {v3 : Int32}
    (h1 : aw_z X (d + 1) y_AW_noteLaw Q 3 [some (.ref 0), some (.int v1), some (.int v2), some (.int v3), some (.int (0 : Int32))] [] (aw_s I L D)) :
    aw_z X (d + 1) y_AW_noteLaw Q 0 [some (.ref 0), some (.int v1), some (.int v2), some (.int v3), none] [] (aw_s I L D) :=
  (s_AW_noteLaw_0.go [some (.ref 0), some (.int v1), some (.int v2), some (.int v3), some (.int (0 : Int32))] [] (aw_s I L D) rfl (h1))
theorem d_AW_noteLaw_3 : decode y_AW_noteLaw.2.1 3 = .ok (.iload 4, 2) := by decide +kernel
theorem d_AW_noteLaw_5 : decode y_AW_noteLaw.2.1 5 = .ok (.iconst 2, 1) := by decide +kernel
theorem s_AW_noteLaw_3 : aw_VS y_AW_noteLaw 3 [o_ild 4, o_c (.int (2 : Int32))] 6 := .cons (v_iload (i := 4) d_AW_noteLaw_3) (.cons (v_iconst (v := (2 : Int32)) d_AW_noteLaw_5 (by decide +kernel)) .nil)
theorem d_AW_noteLaw_6 : decode y_AW_noteLaw.2.1 6 = .ok (.if_icmp .gt (68), 3) := by decide +kernel
theorem d_AW_noteLaw_74 : decode y_AW_noteLaw.2.1 74 = .ok (.return_, 1) := by decide +kernel
theorem d_AW_noteLaw_9 : decode y_AW_noteLaw.2.1 9 = .ok (.iload_n 3, 1) := by decide +kernel
theorem d_AW_noteLaw_10 : decode y_AW_noteLaw.2.1 10 = .ok (.iload 4, 2) := by decide +kernel
theorem s_AW_noteLaw_9 : aw_VS y_AW_noteLaw 9 [o_ild 3, o_ild 4] 12 := .cons (v_iload_n (i := 3) d_AW_noteLaw_9 rfl) (.cons (v_iload (i := 4) d_AW_noteLaw_10) .nil)
theorem d_AW_noteLaw_12 : decode y_AW_noteLaw.2.1 12 = .ok (.invokestatic 211, 3) := by decide +kernel
theorem b_AW_noteLaw_3 {X : aw_X} {d : Nat} {Q : Option Value → aw_H → Prop} {I : Nat → Nat → Int32} {L : Nat → Nat → Int64} {D : Nat → Nat} {v1 : Int32} {v2 : Int32} {v3 : Int32} {v4 : Int32}
    (h1 : (2 : Int32) < v4 → Q none (aw_s I L D))
    (h2 : ¬ (2 : Int32) < v4 → aw_m X d y_AW_holdsAlways [.int v3, .int v4] (aw_s I L D) (fun r A => aw_z X (d + 1) y_AW_noteLaw Q 15 [some (.ref 0), some (.int v1), some (.int v2), some (.int v3), some (.int v4)] (r.toList ++ []) A)) :
    aw_z X (d + 1) y_AW_noteLaw Q 3 [some (.ref 0), some (.int v1), some (.int v2), some (.int v3), some (.int v4)] [] (aw_s I L D) :=
  (s_AW_noteLaw_3.go [some (.ref 0), some (.int v1), some (.int v2), some (.int v3), some (.int v4)] [.int (2 : Int32), .int v4] (aw_s I L D) rfl (z_icmp_gt (tgt := 74) d_AW_noteLaw_6 rfl (fun q1 => (z_vret d_AW_noteLaw_74 rfl (h1 q1))) (fun q2 => (s_AW_noteLaw_9.go [some (.ref 0), some (.int v1), some (.int v2), some (.int v3), some (.int v4)] [.int v4, .int v3] (aw_s I L D) rfl (z_callS (av := [.int v3, .int v4]) (st := []) ok_AW_holdsAlways (Or.inl w_1118) w_1119 d_AW_noteLaw_12 rfl rfl (Nat.le_of_ble_eq_true rfl) (Nat.le_refl _) (Nat.le_refl _) (h2 q2))))))
theorem d_AW_noteLaw_15 : decode y_AW_noteLaw.2.1 15 = .ok (.ifCond .eq (53), 3) := by decide +kernel
theorem d_AW_noteLaw_68 : decode y_AW_noteLaw.2.1 68 = .ok (.iinc 4 (1), 3) := by decide +kernel
theorem s_AW_noteLaw_68 : aw_VS y_AW_noteLaw 68 [o_inc 4 (1 : Int32)] 71 := .cons (v_iinc (k0 := (1 : Int32)) d_AW_noteLaw_68 (by decide +kernel)) .nil
theorem d_AW_noteLaw_71 : decode y_AW_noteLaw.2.1 71 = .ok (.goto (-68), 3) := by decide +kernel
theorem d_AW_noteLaw_18 : decode y_AW_noteLaw.2.1 18 = .ok (.aload_n 0, 1) := by decide +kernel
theorem d_AW_noteLaw_19 : decode y_AW_noteLaw.2.1 19 = .ok (.getfield 254, 3) := by decide +kernel
theorem s_AW_noteLaw_18 : aw_VS y_AW_noteLaw 18 [o_ald 0, o_getI 0 14] 22 := .cons (v_aload_n (i := 0) d_AW_noteLaw_18 rfl) (.cons (v_getI (k := 14) k_AW (by decide) (Or.inl rfl) (Or.inl w_504) d_AW_noteLaw_19) .nil)
theorem d_AW_noteLaw_22 : decode y_AW_noteLaw.2.1 22 = .ok (.ifCond .lt (46), 3) := by decide +kernel
theorem d_AW_noteLaw_25 : decode y_AW_noteLaw.2.1 25 = .ok (.aload_n 0, 1) := by decide +kernel
theorem d_AW_noteLaw_26 : decode y_AW_noteLaw.2.1 26 = .ok (.getfield 254, 3) := by decide +kernel
theorem d_AW_noteLaw_29 : decode y_AW_noteLaw.2.1 29 = .ok (.aload_n 0, 1) := by decide +kernel
theorem d_AW_noteLaw_30 : decode y_AW_noteLaw.2.1 30 = .ok (.getfield 79, 3) := by decide +kernel
theorem d_AW_noteLaw_33 : decode y_AW_noteLaw.2.1 33 = .ok (.arraylength, 1) := by decide +kernel
theorem s_AW_noteLaw_25 : aw_VS y_AW_noteLaw 25 [o_ald 0, o_getI 0 14, o_ald 0, o_getA 0 13, o_alen] 34 := .cons (v_aload_n (i := 0) d_AW_noteLaw_25 rfl) (.cons (v_getI (k := 14) k_AW (by decide) (Or.inl rfl) (Or.inl w_504) d_AW_noteLaw_26) (.cons (v_aload_n (i := 0) d_AW_noteLaw_29 rfl) (.cons (v_getA (k := 13) k_AW (by decide) rfl (Or.inl w_503) d_AW_noteLaw_30) (.cons (v_alen d_AW_noteLaw_33) .nil))))
theorem d_AW_noteLaw_34 : decode y_AW_noteLaw.2.1 34 = .ok (.if_icmp .ge (34), 3) := by decide +kernel
theorem d_AW_noteLaw_37 : decode y_AW_noteLaw.2.1 37 = .ok (.aload_n 0, 1) := by decide +kernel
theorem d_AW_noteLaw_38 : decode y_AW_noteLaw.2.1 38 = .ok (.getfield 79, 3) := by decide +kernel
theorem d_AW_noteLaw_41 : decode y_AW_noteLaw.2.1 41 = .ok (.aload_n 0, 1) := by decide +kernel
theorem d_AW_noteLaw_42 : decode y_AW_noteLaw.2.1 42 = .ok (.getfield 254, 3) := by decide +kernel
theorem d_AW_noteLaw_45 : decode y_AW_noteLaw.2.1 45 = .ok (.bipush 100, 2) := by decide +kernel
theorem d_AW_noteLaw_47 : decode y_AW_noteLaw.2.1 47 = .ok (.iload_n 1, 1) := by decide +kernel
theorem d_AW_noteLaw_48 : decode y_AW_noteLaw.2.1 48 = .ok (.imul, 1) := by decide +kernel
theorem d_AW_noteLaw_49 : decode y_AW_noteLaw.2.1 49 = .ok (.bipush 10, 2) := by decide +kernel
theorem d_AW_noteLaw_51 : decode y_AW_noteLaw.2.1 51 = .ok (.iload_n 2, 1) := by decide +kernel
theorem d_AW_noteLaw_52 : decode y_AW_noteLaw.2.1 52 = .ok (.imul, 1) := by decide +kernel
theorem d_AW_noteLaw_53 : decode y_AW_noteLaw.2.1 53 = .ok (.iadd, 1) := by decide +kernel
theorem d_AW_noteLaw_54 : decode y_AW_noteLaw.2.1 54 = .ok (.iload 4, 2) := by decide +kernel
theorem d_AW_noteLaw_56 : decode y_AW_noteLaw.2.1 56 = .ok (.iadd, 1) := by decide +kernel
theorem s_AW_noteLaw_37 : aw_VS y_AW_noteLaw 37 [o_ald 0, o_getA 0 13, o_ald 0, o_getI 0 14, o_c (.int (100 : Int32)), o_ild 1, o_i2 (fun x z => x * z), o_c (.int (10 : Int32)), o_ild 2, o_i2 (fun x z => x * z), o_i2 (fun x z => x + z), o_ild 4, o_i2 (fun x z => x + z)] 57 := .cons (v_aload_n (i := 0) d_AW_noteLaw_37 rfl) (.cons (v_getA (k := 13) k_AW (by decide) rfl (Or.inl w_503) d_AW_noteLaw_38) (.cons (v_aload_n (i := 0) d_AW_noteLaw_41 rfl) (.cons (v_getI (k := 14) k_AW (by decide) (Or.inl rfl) (Or.inl w_504) d_AW_noteLaw_42) (.cons (v_bipush (v := (100 : Int32)) d_AW_noteLaw_45 (by decide +kernel)) (.cons (v_iload_n (i := 1) d_AW_noteLaw_47 rfl) (.cons (v_imul d_AW_noteLaw_48) (.cons (v_bipush (v := (10 : Int32)) d_AW_noteLaw_49 (by decide +kernel)) (.cons (v_iload_n (i := 2) d_AW_noteLaw_51 rfl) (.cons (v_imul d_AW_noteLaw_52) (.cons (v_iadd d_AW_noteLaw_53) (.cons (v_iload (i := 4) d_AW_noteLaw_54) (.cons (v_iadd d_AW_noteLaw_56) .nil))))))))))))
theorem d_AW_noteLaw_57 : decode y_AW_noteLaw.2.1 57 = .ok (.iastore, 1) := by decide +kernel
theorem d_AW_noteLaw_58 : decode y_AW_noteLaw.2.1 58 = .ok (.aload_n 0, 1) := by decide +kernel
theorem d_AW_noteLaw_59 : decode y_AW_noteLaw.2.1 59 = .ok (.dup, 1) := by decide +kernel
theorem d_AW_noteLaw_60 : decode y_AW_noteLaw.2.1 60 = .ok (.getfield 254, 3) := by decide +kernel
theorem d_AW_noteLaw_63 : decode y_AW_noteLaw.2.1 63 = .ok (.iconst 1, 1) := by decide +kernel
theorem d_AW_noteLaw_64 : decode y_AW_noteLaw.2.1 64 = .ok (.iadd, 1) := by decide +kernel
theorem d_AW_noteLaw_65 : decode y_AW_noteLaw.2.1 65 = .ok (.putfield 254, 3) := by decide +kernel
theorem s_AW_noteLaw_58 : aw_VS y_AW_noteLaw 58 [o_ald 0, o_dup, o_getI 0 14, o_c (.int (1 : Int32)), o_i2 (fun x z => x + z), o_putI 0 14] 68 := .cons (v_aload_n (i := 0) d_AW_noteLaw_58 rfl) (.cons (v_dup d_AW_noteLaw_59) (.cons (v_getI (k := 14) k_AW (by decide) (Or.inl rfl) (Or.inl w_504) d_AW_noteLaw_60) (.cons (v_iconst (v := (1 : Int32)) d_AW_noteLaw_63 (by decide +kernel)) (.cons (v_iadd d_AW_noteLaw_64) (.cons (v_putI (k := 14) k_AW (by decide) rfl (Or.inl ⟨rfl, Or.inl w_504⟩) d_AW_noteLaw_65) .nil)))))
theorem b_AW_noteLaw_15 {X : aw_X} {d : Nat} {Q : Option Value → aw_H → Prop} {I : Nat → Nat → Int32} {L : Nat → Nat → Int64} {D : Nat → Nat} {v1 : Int32} {v2 : Int32} {v3 : Int32} {v4 : Int32} {s0 : Int32}
    (h1 : s0 = 0 → aw_z X (d + 1) y_AW_noteLaw Q 3 [some (.ref 0), some (.int v1), some (.int v2), some (.int v3), some (.int (v4 + (1 : Int32)))] [] (aw_s I L D))
    (h2 : ¬ s0 = 0 → (I 0 14) < 0 → aw_z X (d + 1) y_AW_noteLaw Q 3 [some (.ref 0), some (.int v1), some (.int v2), some (.int v3), some (.int (v4 + (1 : Int32)))] [] (aw_s I L D))
    (h3 : ¬ s0 = 0 → ¬ (I 0 14) < 0 → (28 : Int32) ≤ (I 0 14) → aw_z X (d + 1) y_AW_noteLaw Q 3 [some (.ref 0), some (.int v1), some (.int v2), some (.int v3), some (.int (v4 + (1 : Int32)))] [] (aw_s I L D))
    (h4 : ¬ s0 = 0 → ¬ (I 0 14) < 0 → ¬ (28 : Int32) ≤ (I 0 14) → vp_in (I 0 14) 28)
    (h5 : ¬ s0 = 0 → ¬ (I 0 14) < 0 → ¬ (28 : Int32) ≤ (I 0 14) → aw_z X (d + 1) y_AW_noteLaw Q 3 [some (.ref 0), some (.int v1), some (.int v2), some (.int v3), some (.int (v4 + (1 : Int32)))] [] (aw_s (aw_u (aw_u I 67 ((I 0 14).toNatClampNeg) ((((100 : Int32) * v1) + ((10 : Int32) * v2)) + v4)) 0 14 ((I 0 14) + (1 : Int32))) L D)) :
    aw_z X (d + 1) y_AW_noteLaw Q 15 [some (.ref 0), some (.int v1), some (.int v2), some (.int v3), some (.int v4)] [.int s0] (aw_s I L D) :=
  (z_if_eq (tgt := 68) d_AW_noteLaw_15 rfl (fun q1 => (s_AW_noteLaw_68.go [some (.ref 0), some (.int v1), some (.int v2), some (.int v3), some (.int (v4 + (1 : Int32)))] [] (aw_s I L D) rfl (z_goto (tgt := 3) d_AW_noteLaw_71 rfl (h1 q1)))) (fun q2 => (s_AW_noteLaw_18.go [some (.ref 0), some (.int v1), some (.int v2), some (.int v3), some (.int v4)] [.int (I 0 14)] (aw_s I L D) rfl (z_if_lt (tgt := 68) d_AW_noteLaw_22 rfl (fun q3 => (s_AW_noteLaw_68.go [some (.ref 0), some (.int v1), some (.int v2), some (.int v3), some (.int (v4 + (1 : Int32)))] [] (aw_s I L D) rfl (z_goto (tgt := 3) d_AW_noteLaw_71 rfl (h2 q2 q3)))) (fun q4 => (s_AW_noteLaw_25.go [some (.ref 0), some (.int v1), some (.int v2), some (.int v3), some (.int v4)] [.int (28 : Int32), .int (I 0 14)] (aw_s I L D) rfl (z_icmp_ge (tgt := 68) d_AW_noteLaw_34 rfl (fun q5 => (s_AW_noteLaw_68.go [some (.ref 0), some (.int v1), some (.int v2), some (.int v3), some (.int (v4 + (1 : Int32)))] [] (aw_s I L D) rfl (z_goto (tgt := 3) d_AW_noteLaw_71 rfl (h3 q2 q4 q5)))) (fun q6 => (s_AW_noteLaw_37.go [some (.ref 0), some (.int v1), some (.int v2), some (.int v3), some (.int v4)] [.int ((((100 : Int32) * v1) + ((10 : Int32) * v2)) + v4), .int (I 0 14), .ref 67] (aw_s I L D) rfl (z_iast (n := 28) rfl (aw_lt (o := 67) rfl) (h4 q2 q4 q6) d_AW_noteLaw_57 (s_AW_noteLaw_58.go [some (.ref 0), some (.int v1), some (.int v2), some (.int v3), some (.int v4)] [] (aw_s (aw_u (aw_u I 67 ((I 0 14).toNatClampNeg) ((((100 : Int32) * v1) + ((10 : Int32) * v2)) + v4)) 0 14 ((I 0 14) + (1 : Int32))) L D) rfl (s_AW_noteLaw_68.go [some (.ref 0), some (.int v1), some (.int v2), some (.int v3), some (.int (v4 + (1 : Int32)))] [] (aw_s (aw_u (aw_u I 67 ((I 0 14).toNatClampNeg) ((((100 : Int32) * v1) + ((10 : Int32) * v2)) + v4)) 0 14 ((I 0 14) + (1 : Int32))) L D) rfl (z_goto (tgt := 3) d_AW_noteLaw_71 rfl (h5 q2 q4 q6))))))))))))))
/-! AW_lawAt -/
theorem d_AW_lawAt_0 : decode y_AW_lawAt.2.1 0 = .ok (.iload_n 1, 1) := by decide +kernel
theorem s_AW_lawAt_0 : aw_VS y_AW_lawAt 0 [o_ild 1] 1 := .cons (v_iload_n (i := 1) d_AW_lawAt_0 rfl) .nil
theorem d_AW_lawAt_1 : decode y_AW_lawAt.2.1 1 = .ok (.ifCond .lt (29), 3) := by decide +kernel
theorem d_AW_lawAt_30 : decode y_AW_lawAt.2.1 30 = .ok (.iconst (-1), 1) := by decide +kernel
theorem s_AW_lawAt_30 : aw_VS y_AW_lawAt 30 [o_c (.int (-1 : Int32))] 31 := .cons (v_iconst (v := (-1 : Int32)) d_AW_lawAt_30 (by decide +kernel)) .nil
theorem d_AW_lawAt_31 : decode y_AW_lawAt.2.1 31 = .ok (.ireturn, 1) := by decide +kernel
theorem d_AW_lawAt_4 : decode y_AW_lawAt.2.1 4 = .ok (.iload_n 1, 1) := by decide +kernel
theorem d_AW_lawAt_5 : decode y_AW_lawAt.2.1 5 = .ok (.aload_n 0, 1) := by decide +kernel
theorem d_AW_lawAt_6 : decode y_AW_lawAt.2.1 6 = .ok (.getfield 254, 3) := by decide +kernel
theorem s_AW_lawAt_4 : aw_VS y_AW_lawAt 4 [o_ild 1, o_ald 0, o_getI 0 14] 9 := .cons (v_iload_n (i := 1) d_AW_lawAt_4 rfl) (.cons (v_aload_n (i := 0) d_AW_lawAt_5 rfl) (.cons (v_getI (k := 14) k_AW (by decide) (Or.inl rfl) (Or.inl w_504) d_AW_lawAt_6) .nil))
theorem d_AW_lawAt_9 : decode y_AW_lawAt.2.1 9 = .ok (.if_icmp .ge (21), 3) := by decide +kernel
theorem d_AW_lawAt_12 : decode y_AW_lawAt.2.1 12 = .ok (.iload_n 1, 1) := by decide +kernel
theorem d_AW_lawAt_13 : decode y_AW_lawAt.2.1 13 = .ok (.aload_n 0, 1) := by decide +kernel
theorem d_AW_lawAt_14 : decode y_AW_lawAt.2.1 14 = .ok (.getfield 79, 3) := by decide +kernel
theorem d_AW_lawAt_17 : decode y_AW_lawAt.2.1 17 = .ok (.arraylength, 1) := by decide +kernel
theorem s_AW_lawAt_12 : aw_VS y_AW_lawAt 12 [o_ild 1, o_ald 0, o_getA 0 13, o_alen] 18 := .cons (v_iload_n (i := 1) d_AW_lawAt_12 rfl) (.cons (v_aload_n (i := 0) d_AW_lawAt_13 rfl) (.cons (v_getA (k := 13) k_AW (by decide) rfl (Or.inl w_503) d_AW_lawAt_14) (.cons (v_alen d_AW_lawAt_17) .nil)))
theorem d_AW_lawAt_18 : decode y_AW_lawAt.2.1 18 = .ok (.if_icmp .ge (12), 3) := by decide +kernel
theorem d_AW_lawAt_21 : decode y_AW_lawAt.2.1 21 = .ok (.aload_n 0, 1) := by decide +kernel
theorem d_AW_lawAt_22 : decode y_AW_lawAt.2.1 22 = .ok (.getfield 79, 3) := by decide +kernel
theorem d_AW_lawAt_25 : decode y_AW_lawAt.2.1 25 = .ok (.iload_n 1, 1) := by decide +kernel
theorem s_AW_lawAt_21 : aw_VS y_AW_lawAt 21 [o_ald 0, o_getA 0 13, o_ild 1] 26 := .cons (v_aload_n (i := 0) d_AW_lawAt_21 rfl) (.cons (v_getA (k := 13) k_AW (by decide) rfl (Or.inl w_503) d_AW_lawAt_22) (.cons (v_iload_n (i := 1) d_AW_lawAt_25 rfl) .nil))
theorem d_AW_lawAt_26 : decode y_AW_lawAt.2.1 26 = .ok (.iaload, 1) := by decide +kernel
theorem d_AW_lawAt_27 : decode y_AW_lawAt.2.1 27 = .ok (.goto (4), 3) := by decide +kernel
theorem b_AW_lawAt_0 {X : aw_X} {d : Nat} {Q : Option Value → aw_H → Prop} {I : Nat → Nat → Int32} {L : Nat → Nat → Int64} {D : Nat → Nat} {v1 : Int32}
    (h1 : v1 < 0 → Q (some (.int (-1 : Int32))) (aw_s I L D))
    (h2 : ¬ v1 < 0 → (I 0 14) ≤ v1 → Q (some (.int (-1 : Int32))) (aw_s I L D))
    (h3 : ¬ v1 < 0 → ¬ (I 0 14) ≤ v1 → (28 : Int32) ≤ v1 → Q (some (.int (-1 : Int32))) (aw_s I L D))
    (h4 : ¬ v1 < 0 → ¬ (I 0 14) ≤ v1 → ¬ (28 : Int32) ≤ v1 → vp_in v1 28)
    (h5 : ¬ v1 < 0 → ¬ (I 0 14) ≤ v1 → ¬ (28 : Int32) ≤ v1 → Q (some (.int (I 67 v1.toNatClampNeg))) (aw_s I L D)) :
    aw_z X d y_AW_lawAt Q 0 [some (.ref 0), some (.int v1)] [] (aw_s I L D) :=
  (s_AW_lawAt_0.go [some (.ref 0), some (.int v1)] [.int v1] (aw_s I L D) rfl (z_if_lt (tgt := 30) d_AW_lawAt_1 rfl (fun q1 => (s_AW_lawAt_30.go [some (.ref 0), some (.int v1)] [.int (-1 : Int32)] (aw_s I L D) rfl (z_iret d_AW_lawAt_31 rfl rfl (h1 q1)))) (fun q2 => (s_AW_lawAt_4.go [some (.ref 0), some (.int v1)] [.int (I 0 14), .int v1] (aw_s I L D) rfl (z_icmp_ge (tgt := 30) d_AW_lawAt_9 rfl (fun q3 => (s_AW_lawAt_30.go [some (.ref 0), some (.int v1)] [.int (-1 : Int32)] (aw_s I L D) rfl (z_iret d_AW_lawAt_31 rfl rfl (h2 q2 q3)))) (fun q4 => (s_AW_lawAt_12.go [some (.ref 0), some (.int v1)] [.int (28 : Int32), .int v1] (aw_s I L D) rfl (z_icmp_ge (tgt := 30) d_AW_lawAt_18 rfl (fun q5 => (s_AW_lawAt_30.go [some (.ref 0), some (.int v1)] [.int (-1 : Int32)] (aw_s I L D) rfl (z_iret d_AW_lawAt_31 rfl rfl (h3 q2 q4 q5)))) (fun q6 => (s_AW_lawAt_21.go [some (.ref 0), some (.int v1)] [.int v1, .ref 67] (aw_s I L D) rfl (z_iald (n := 28) rfl (aw_lt (o := 67) rfl) (h4 q2 q4 q6) d_AW_lawAt_26 (z_goto (tgt := 31) d_AW_lawAt_27 rfl (z_iret d_AW_lawAt_31 rfl rfl (h5 q2 q4 q6))))))))))))))
/-! AW_hangs -/
theorem d_AW_hangs_0 : decode y_AW_hangs.2.1 0 = .ok (.aload_n 0, 1) := by decide +kernel
theorem d_AW_hangs_1 : decode y_AW_hangs.2.1 1 = .ok (.iload_n 1, 1) := by decide +kernel
theorem s_AW_hangs_0 : aw_VS y_AW_hangs 0 [o_ald 0, o_ild 1] 2 := .cons (v_aload_n (i := 0) d_AW_hangs_0 rfl) (.cons (v_iload_n (i := 1) d_AW_hangs_1 rfl) .nil)
theorem d_AW_hangs_2 : decode y_AW_hangs.2.1 2 = .ok (.invokevirtual 102, 3) := by decide +kernel
theorem b_AW_hangs_0 {X : aw_X} {d : Nat} {Q : Option Value → aw_H → Prop} {I : Nat → Nat → Int32} {L : Nat → Nat → Int64} {D : Nat → Nat} {v1 : Int32} {v2 : Int32} {v3 : Int32}
    (h1 : aw_m X d y_AW_programAt [.ref 0, .int v1] (aw_s I L D) (fun r A => aw_z X (d + 1) y_AW_hangs Q 5 [some (.ref 0), none, some (.int v2), some (.int v3), none, none, none, none] (r.toList ++ []) A)) :
    aw_z X (d + 1) y_AW_hangs Q 0 [some (.ref 0), some (.int v1), some (.int v2), some (.int v3), none, none, none, none] [] (aw_s I L D) :=
  (s_AW_hangs_0.go [some (.ref 0), some (.int v1), some (.int v2), some (.int v3), none, none, none, none] [.int v1, .ref 0] (aw_s I L D) rfl (z_callV (av := [.int v1]) (st := []) ok_AW_programAt (Or.inl w_569) w_571 w_0 k_AW d_AW_hangs_2 rfl (aw_lt (o := 0) rfl) rfl rfl (Nat.le_of_ble_eq_true rfl) (Nat.le_refl _) (Nat.le_refl _) (aw_C.mono (h1) (fun _ _ zz => aw_Z.weak (ls' := [some (.ref 0), none, some (.int v2), some (.int v3), none, none, none, none]) zz (Nat.le_of_ble_eq_true rfl) ⟨Or.inr rfl, ⟨Or.inl rfl, ⟨Or.inr rfl, ⟨Or.inr rfl, ⟨Or.inl rfl, ⟨Or.inl rfl, ⟨Or.inl rfl, ⟨Or.inl rfl, trivial⟩⟩⟩⟩⟩⟩⟩⟩))))
theorem d_AW_hangs_5 : decode y_AW_hangs.2.1 5 = .ok (.astore 4, 2) := by decide +kernel
theorem d_AW_hangs_7 : decode y_AW_hangs.2.1 7 = .ok (.aload 4, 2) := by decide +kernel
theorem s_AW_hangs_5 : aw_VS y_AW_hangs 5 [o_ast 4, o_ald 4] 9 := .cons (v_astore d_AW_hangs_5) (.cons (v_aload (i := 4) d_AW_hangs_7) .nil)
theorem d_AW_hangs_9 : decode y_AW_hangs.2.1 9 = .ok (.ifnull (25), 3) := by decide +kernel
theorem d_AW_hangs_12 : decode y_AW_hangs.2.1 12 = .ok (.iload_n 2, 1) := by decide +kernel
theorem s_AW_hangs_12 : aw_VS y_AW_hangs 12 [o_ild 2] 13 := .cons (v_iload_n (i := 2) d_AW_hangs_12 rfl) .nil
theorem d_AW_hangs_13 : decode y_AW_hangs.2.1 13 = .ok (.ifCond .lt (21), 3) := by decide +kernel
theorem d_AW_hangs_34 : decode y_AW_hangs.2.1 34 = .ok (.bipush (-2), 2) := by decide +kernel
theorem s_AW_hangs_34 : aw_VS y_AW_hangs 34 [o_c (.int (-2 : Int32))] 36 := .cons (v_bipush (v := (-2 : Int32)) d_AW_hangs_34 (by decide +kernel)) .nil
theorem d_AW_hangs_36 : decode y_AW_hangs.2.1 36 = .ok (.ireturn, 1) := by decide +kernel
theorem d_AW_hangs_16 : decode y_AW_hangs.2.1 16 = .ok (.iload_n 2, 1) := by decide +kernel
theorem d_AW_hangs_17 : decode y_AW_hangs.2.1 17 = .ok (.aload_n 0, 1) := by decide +kernel
theorem d_AW_hangs_18 : decode y_AW_hangs.2.1 18 = .ok (.getfield 12, 3) := by decide +kernel
theorem d_AW_hangs_21 : decode y_AW_hangs.2.1 21 = .ok (.getfield 261, 3) := by decide +kernel
theorem s_AW_hangs_16 : aw_VS y_AW_hangs 16 [o_ild 2, o_ald 0, o_getA 0 0, o_getI 1 1] 24 := .cons (v_iload_n (i := 2) d_AW_hangs_16 rfl) (.cons (v_aload_n (i := 0) d_AW_hangs_17 rfl) (.cons (v_getA (k := 0) k_AW (by decide) rfl (Or.inl w_490) d_AW_hangs_18) (.cons (v_getI (k := 1) k_Sz (by decide) (Or.inl rfl) (Or.inr ⟨"AllWays", w_175⟩) d_AW_hangs_21) .nil)))
theorem d_AW_hangs_24 : decode y_AW_hangs.2.1 24 = .ok (.if_icmp .ge (10), 3) := by decide +kernel
theorem d_AW_hangs_27 : decode y_AW_hangs.2.1 27 = .ok (.iload_n 3, 1) := by decide +kernel
theorem s_AW_hangs_27 : aw_VS y_AW_hangs 27 [o_ild 3] 28 := .cons (v_iload_n (i := 3) d_AW_hangs_27 rfl) .nil
theorem d_AW_hangs_28 : decode y_AW_hangs.2.1 28 = .ok (.invokestatic 136, 3) := by decide +kernel
theorem b_AW_hangs_5 {X : aw_X} {d : Nat} {Q : Option Value → aw_H → Prop} {I : Nat → Nat → Int32} {L : Nat → Nat → Int64} {D : Nat → Nat} {v2 : Int32} {v3 : Int32} {t0 : Nat}
    (h1 : v2 < 0 → Q (some (.int (-2 : Int32))) (aw_s I L D))
    (h2 : ¬ v2 < 0 → (I 1 1) ≤ v2 → Q (some (.int (-2 : Int32))) (aw_s I L D))
    (h3 : ¬ v2 < 0 → ¬ (I 1 1) ≤ v2 → aw_m X d y_AW_isFuel [.int v3] (aw_s I L D) (fun r A => aw_z X (d + 1) y_AW_hangs Q 31 [some (.ref 0), none, some (.int v2), some (.int v3), some (.ref t0), none, none, none] (r.toList ++ []) A)) :
    aw_z X (d + 1) y_AW_hangs Q 5 [some (.ref 0), none, some (.int v2), some (.int v3), none, none, none, none] [.ref t0] (aw_s I L D) :=
  (s_AW_hangs_5.go [some (.ref 0), none, some (.int v2), some (.int v3), some (.ref t0), none, none, none] [.ref t0] (aw_s I L D) rfl (z_ifnull d_AW_hangs_9 (s_AW_hangs_12.go [some (.ref 0), none, some (.int v2), some (.int v3), some (.ref t0), none, none, none] [.int v2] (aw_s I L D) rfl (z_if_lt (tgt := 34) d_AW_hangs_13 rfl (fun q1 => (s_AW_hangs_34.go [some (.ref 0), none, some (.int v2), some (.int v3), some (.ref t0), none, none, none] [.int (-2 : Int32)] (aw_s I L D) rfl (z_iret d_AW_hangs_36 rfl rfl (h1 q1)))) (fun q2 => (s_AW_hangs_16.go [some (.ref 0), none, some (.int v2), some (.int v3), some (.ref t0), none, none, none] [.int (I 1 1), .int v2] (aw_s I L D) rfl (z_icmp_ge (tgt := 34) d_AW_hangs_24 rfl (fun q3 => (s_AW_hangs_34.go [some (.ref 0), none, some (.int v2), some (.int v3), some (.ref t0), none, none, none] [.int (-2 : Int32)] (aw_s I L D) rfl (z_iret d_AW_hangs_36 rfl rfl (h2 q2 q3)))) (fun q4 => (s_AW_hangs_27.go [some (.ref 0), none, some (.int v2), some (.int v3), some (.ref t0), none, none, none] [.int v3] (aw_s I L D) rfl (z_callS (av := [.int v3]) (st := []) ok_AW_isFuel (Or.inl w_874) w_875 d_AW_hangs_28 rfl rfl (Nat.le_of_ble_eq_true rfl) (Nat.le_refl _) (Nat.le_refl _) (h3 q2 q4)))))))))))
theorem b_AW_hangs_5a {X : aw_X} {d : Nat} {Q : Option Value → aw_H → Prop} {I : Nat → Nat → Int32} {L : Nat → Nat → Int64} {D : Nat → Nat} {v2 : Int32} {v3 : Int32}
    (h1 : Q (some (.int (-2 : Int32))) (aw_s I L D)) :
    aw_z X (d + 1) y_AW_hangs Q 5 [some (.ref 0), none, some (.int v2), some (.int v3), none, none, none, none] [.null] (aw_s I L D) :=
  (s_AW_hangs_5.go [some (.ref 0), none, some (.int v2), some (.int v3), some .null, none, none, none] [.null] (aw_s I L D) rfl (z_ifnullN (tgt := 34) d_AW_hangs_9 rfl (s_AW_hangs_34.go [some (.ref 0), none, some (.int v2), some (.int v3), some .null, none, none, none] [.int (-2 : Int32)] (aw_s I L D) rfl (z_iret d_AW_hangs_36 rfl rfl (h1)))))
theorem d_AW_hangs_31 : decode y_AW_hangs.2.1 31 = .ok (.ifCond .ne (6), 3) := by decide +kernel
theorem d_AW_hangs_37 : decode y_AW_hangs.2.1 37 = .ok (.iconst 1, 1) := by decide +kernel
theorem d_AW_hangs_38 : decode y_AW_hangs.2.1 38 = .ok (.aload_n 0, 1) := by decide +kernel
theorem d_AW_hangs_39 : decode y_AW_hangs.2.1 39 = .ok (.getfield 12, 3) := by decide +kernel
theorem d_AW_hangs_42 : decode y_AW_hangs.2.1 42 = .ok (.getfield 264, 3) := by decide +kernel
theorem d_AW_hangs_45 : decode y_AW_hangs.2.1 45 = .ok (.iload_n 2, 1) := by decide +kernel
theorem d_AW_hangs_46 : decode y_AW_hangs.2.1 46 = .ok (.imul, 1) := by decide +kernel
theorem d_AW_hangs_47 : decode y_AW_hangs.2.1 47 = .ok (.ishl, 1) := by decide +kernel
theorem d_AW_hangs_48 : decode y_AW_hangs.2.1 48 = .ok (.istore 5, 2) := by decide +kernel
theorem d_AW_hangs_50 : decode y_AW_hangs.2.1 50 = .ok (.iconst 0, 1) := by decide +kernel
theorem d_AW_hangs_51 : decode y_AW_hangs.2.1 51 = .ok (.istore 6, 2) := by decide +kernel
theorem s_AW_hangs_37 : aw_VS y_AW_hangs 37 [o_c (.int (1 : Int32)), o_ald 0, o_getA 0 0, o_getI 1 0, o_ild 2, o_i2 (fun x z => x * z), o_i2 (fun x z => x <<< (z &&& 31)), o_ist 5, o_c (.int (0 : Int32)), o_ist 6] 53 := .cons (v_iconst (v := (1 : Int32)) d_AW_hangs_37 (by decide +kernel)) (.cons (v_aload_n (i := 0) d_AW_hangs_38 rfl) (.cons (v_getA (k := 0) k_AW (by decide) rfl (Or.inl w_490) d_AW_hangs_39) (.cons (v_getI (k := 0) k_Sz (by decide) (Or.inl rfl) (Or.inr ⟨"AllWays", w_172⟩) d_AW_hangs_42) (.cons (v_iload_n (i := 2) d_AW_hangs_45 rfl) (.cons (v_imul d_AW_hangs_46) (.cons (v_ishl d_AW_hangs_47) (.cons (v_istore d_AW_hangs_48) (.cons (v_iconst (v := (0 : Int32)) d_AW_hangs_50 (by decide +kernel)) (.cons (v_istore d_AW_hangs_51) .nil)))))))))
theorem b_AW_hangs_31 {X : aw_X} {d : Nat} {Q : Option Value → aw_H → Prop} {I : Nat → Nat → Int32} {L : Nat → Nat → Int64} {D : Nat → Nat} {v2 : Int32} {v3 : Int32} {c4 : Nat} {s0 : Int32}
    (h1 : ¬ s0 = 0 → aw_z X (d + 1) y_AW_hangs Q 53 [some (.ref 0), none, none, some (.int v3), some (.ref c4), some (.int ((1 : Int32) <<< (((I 1 0) * v2) &&& 31))), some (.int (0 : Int32)), none] [] (aw_s I L D))
    (h2 : s0 = 0 → Q (some (.int (-2 : Int32))) (aw_s I L D)) :
    aw_z X (d + 1) y_AW_hangs Q 31 [some (.ref 0), none, some (.int v2), some (.int v3), some (.ref c4), none, none, none] [.int s0] (aw_s I L D) :=
  (z_if_ne (tgt := 37) d_AW_hangs_31 rfl (fun q1 => (s_AW_hangs_37.go [some (.ref 0), none, some (.int v2), some (.int v3), some (.ref c4), some (.int ((1 : Int32) <<< (((I 1 0) * v2) &&& 31))), some (.int (0 : Int32)), none] [] (aw_s I L D) rfl (aw_Z.weak (ls' := [some (.ref 0), none, none, some (.int v3), some (.ref c4), some (.int ((1 : Int32) <<< (((I 1 0) * v2) &&& 31))), some (.int (0 : Int32)), none]) (h1 q1) (Nat.le_of_ble_eq_true rfl) ⟨Or.inr rfl, ⟨Or.inl rfl, ⟨Or.inl rfl, ⟨Or.inr rfl, ⟨Or.inr rfl, ⟨Or.inr rfl, ⟨Or.inr rfl, ⟨Or.inl rfl, trivial⟩⟩⟩⟩⟩⟩⟩⟩))) (fun q2 => (s_AW_hangs_34.go [some (.ref 0), none, some (.int v2), some (.int v3), some (.ref c4), none, none, none] [.int (-2 : Int32)] (aw_s I L D) rfl (z_iret d_AW_hangs_36 rfl rfl (h2 q2)))))
theorem d_AW_hangs_53 : decode y_AW_hangs.2.1 53 = .ok (.iload 6, 2) := by decide +kernel
theorem d_AW_hangs_55 : decode y_AW_hangs.2.1 55 = .ok (.aload_n 0, 1) := by decide +kernel
theorem d_AW_hangs_56 : decode y_AW_hangs.2.1 56 = .ok (.getfield 12, 3) := by decide +kernel
theorem s_AW_hangs_53 : aw_VS y_AW_hangs 53 [o_ild 6, o_ald 0, o_getA 0 0] 59 := .cons (v_iload (i := 6) d_AW_hangs_53) (.cons (v_aload_n (i := 0) d_AW_hangs_55 rfl) (.cons (v_getA (k := 0) k_AW (by decide) rfl (Or.inl w_490) d_AW_hangs_56) .nil))
theorem d_AW_hangs_59 : decode y_AW_hangs.2.1 59 = .ok (.invokevirtual 139, 3) := by decide +kernel
theorem b_AW_hangs_53 {X : aw_X} {d : Nat} {Q : Option Value → aw_H → Prop} {I : Nat → Nat → Int32} {L : Nat → Nat → Int64} {D : Nat → Nat} {v3 : Int32} {c4 : Nat} {v5 : Int32} {v6 : Int32}
    (h1 : aw_m X d y_Sz_rows [.ref 1] (aw_s I L D) (fun r A => aw_z X (d + 1) y_AW_hangs Q 62 [some (.ref 0), none, none, some (.int v3), some (.ref c4), some (.int v5), some (.int v6), none] (r.toList ++ [.int v6]) A)) :
    aw_z X (d + 1) y_AW_hangs Q 53 [some (.ref 0), none, none, some (.int v3), some (.ref c4), some (.int v5), some (.int v6), none] [] (aw_s I L D) :=
  (s_AW_hangs_53.go [some (.ref 0), none, none, some (.int v3), some (.ref c4), some (.int v5), some (.int v6), none] [.ref 1, .int v6] (aw_s I L D) rfl (z_callV (av := []) (st := [.int v6]) ok_Sz_rows (Or.inl w_877) w_878 w_879 k_Sz d_AW_hangs_59 rfl (aw_lt (o := 1) rfl) rfl rfl (Nat.le_of_ble_eq_true rfl) (Nat.le_refl _) (Nat.le_refl _) (h1)))
theorem d_AW_hangs_62 : decode y_AW_hangs.2.1 62 = .ok (.if_icmp .ge (54), 3) := by decide +kernel
theorem d_AW_hangs_116 : decode y_AW_hangs.2.1 116 = .ok (.iconst (-1), 1) := by decide +kernel
theorem s_AW_hangs_116 : aw_VS y_AW_hangs 116 [o_c (.int (-1 : Int32))] 117 := .cons (v_iconst (v := (-1 : Int32)) d_AW_hangs_116 (by decide +kernel)) .nil
theorem d_AW_hangs_117 : decode y_AW_hangs.2.1 117 = .ok (.ireturn, 1) := by decide +kernel
theorem d_AW_hangs_65 : decode y_AW_hangs.2.1 65 = .ok (.iload 6, 2) := by decide +kernel
theorem d_AW_hangs_67 : decode y_AW_hangs.2.1 67 = .ok (.iload 5, 2) := by decide +kernel
theorem d_AW_hangs_69 : decode y_AW_hangs.2.1 69 = .ok (.aload_n 0, 1) := by decide +kernel
theorem d_AW_hangs_70 : decode y_AW_hangs.2.1 70 = .ok (.getfield 12, 3) := by decide +kernel
theorem s_AW_hangs_65 : aw_VS y_AW_hangs 65 [o_ild 6, o_ild 5, o_ald 0, o_getA 0 0] 73 := .cons (v_iload (i := 6) d_AW_hangs_65) (.cons (v_iload (i := 5) d_AW_hangs_67) (.cons (v_aload_n (i := 0) d_AW_hangs_69 rfl) (.cons (v_getA (k := 0) k_AW (by decide) rfl (Or.inl w_490) d_AW_hangs_70) .nil)))
theorem d_AW_hangs_73 : decode y_AW_hangs.2.1 73 = .ok (.invokevirtual 215, 3) := by decide +kernel
theorem b_AW_hangs_62 {X : aw_X} {d : Nat} {Q : Option Value → aw_H → Prop} {I : Nat → Nat → Int32} {L : Nat → Nat → Int64} {D : Nat → Nat} {v3 : Int32} {c4 : Nat} {v5 : Int32} {v6 : Int32} {s1 : Int32} {s0 : Int32}
    (h1 : s1 ≤ s0 → Q (some (.int (-1 : Int32))) (aw_s I L D))
    (h2 : ¬ s1 ≤ s0 → aw_m X d y_Sz_greatest [.ref 1] (aw_s I L D) (fun r A => aw_z X (d + 1) y_AW_hangs Q 76 [some (.ref 0), none, none, some (.int v3), some (.ref c4), some (.int v5), some (.int v6), none] (r.toList ++ [.int v5, .int v6]) A)) :
    aw_z X (d + 1) y_AW_hangs Q 62 [some (.ref 0), none, none, some (.int v3), some (.ref c4), some (.int v5), some (.int v6), none] [.int s1, .int s0] (aw_s I L D) :=
  (z_icmp_ge (tgt := 116) d_AW_hangs_62 rfl (fun q1 => (s_AW_hangs_116.go [some (.ref 0), none, none, some (.int v3), some (.ref c4), some (.int v5), some (.int v6), none] [.int (-1 : Int32)] (aw_s I L D) rfl (z_iret d_AW_hangs_117 rfl rfl (h1 q1)))) (fun q2 => (s_AW_hangs_65.go [some (.ref 0), none, none, some (.int v3), some (.ref c4), some (.int v5), some (.int v6), none] [.ref 1, .int v5, .int v6] (aw_s I L D) rfl (z_callV (av := []) (st := [.int v5, .int v6]) ok_Sz_greatest (Or.inl w_1121) w_906 w_907 k_Sz d_AW_hangs_73 rfl (aw_lt (o := 1) rfl) rfl rfl (Nat.le_of_ble_eq_true rfl) (Nat.le_refl _) (Nat.le_refl _) (h2 q2)))))
theorem d_AW_hangs_76 : decode y_AW_hangs.2.1 76 = .ok (.imul, 1) := by decide +kernel
theorem d_AW_hangs_77 : decode y_AW_hangs.2.1 77 = .ok (.iand, 1) := by decide +kernel
theorem s_AW_hangs_76 : aw_VS y_AW_hangs 76 [o_i2 (fun x z => x * z), o_i2 (fun x z => x &&& z)] 78 := .cons (v_imul d_AW_hangs_76) (.cons (v_iand d_AW_hangs_77) .nil)
theorem d_AW_hangs_78 : decode y_AW_hangs.2.1 78 = .ok (.ifCond .ne (7), 3) := by decide +kernel
theorem d_AW_hangs_85 : decode y_AW_hangs.2.1 85 = .ok (.iconst 0, 1) := by decide +kernel
theorem s_AW_hangs_85 : aw_VS y_AW_hangs 85 [o_c (.int (0 : Int32))] 86 := .cons (v_iconst (v := (0 : Int32)) d_AW_hangs_85 (by decide +kernel)) .nil
theorem d_AW_hangs_81 : decode y_AW_hangs.2.1 81 = .ok (.iconst 1, 1) := by decide +kernel
theorem s_AW_hangs_81 : aw_VS y_AW_hangs 81 [o_c (.int (1 : Int32))] 82 := .cons (v_iconst (v := (1 : Int32)) d_AW_hangs_81 (by decide +kernel)) .nil
theorem d_AW_hangs_82 : decode y_AW_hangs.2.1 82 = .ok (.goto (4), 3) := by decide +kernel
theorem b_AW_hangs_76 {X : aw_X} {d : Nat} {Q : Option Value → aw_H → Prop} {I : Nat → Nat → Int32} {L : Nat → Nat → Int64} {D : Nat → Nat} {v3 : Int32} {c4 : Nat} {v5 : Int32} {v6 : Int32} {s2 : Int32} {s1 : Int32} {s0 : Int32}
    (h1 : ¬ (s0 &&& (s1 * s2)) = 0 → aw_z X (d + 1) y_AW_hangs Q 86 [some (.ref 0), none, none, some (.int v3), some (.ref c4), some (.int v5), some (.int v6), none] [.int (0 : Int32)] (aw_s I L D))
    (h2 : (s0 &&& (s1 * s2)) = 0 → aw_z X (d + 1) y_AW_hangs Q 86 [some (.ref 0), none, none, some (.int v3), some (.ref c4), some (.int v5), some (.int v6), none] [.int (1 : Int32)] (aw_s I L D)) :
    aw_z X (d + 1) y_AW_hangs Q 76 [some (.ref 0), none, none, some (.int v3), some (.ref c4), some (.int v5), some (.int v6), none] [.int s2, .int s1, .int s0] (aw_s I L D) :=
  (s_AW_hangs_76.go [some (.ref 0), none, none, some (.int v3), some (.ref c4), some (.int v5), some (.int v6), none] [.int (s0 &&& (s1 * s2))] (aw_s I L D) rfl (z_if_ne (tgt := 85) d_AW_hangs_78 rfl (fun q1 => (s_AW_hangs_85.go [some (.ref 0), none, none, some (.int v3), some (.ref c4), some (.int v5), some (.int v6), none] [.int (0 : Int32)] (aw_s I L D) rfl (h1 q1))) (fun q2 => (s_AW_hangs_81.go [some (.ref 0), none, none, some (.int v3), some (.ref c4), some (.int v5), some (.int v6), none] [.int (1 : Int32)] (aw_s I L D) rfl (z_goto (tgt := 86) d_AW_hangs_82 rfl (h2 q2))))))
theorem d_AW_hangs_86 : decode y_AW_hangs.2.1 86 = .ok (.istore 7, 2) := by decide +kernel
theorem d_AW_hangs_88 : decode y_AW_hangs.2.1 88 = .ok (.iload 7, 2) := by decide +kernel
theorem s_AW_hangs_86 : aw_VS y_AW_hangs 86 [o_ist 7, o_ild 7] 90 := .cons (v_istore d_AW_hangs_86) (.cons (v_iload (i := 7) d_AW_hangs_88) .nil)
theorem d_AW_hangs_90 : decode y_AW_hangs.2.1 90 = .ok (.ifCond .eq (20), 3) := by decide +kernel
theorem d_AW_hangs_110 : decode y_AW_hangs.2.1 110 = .ok (.iinc 6 (1), 3) := by decide +kernel
theorem s_AW_hangs_110 : aw_VS y_AW_hangs 110 [o_inc 6 (1 : Int32)] 113 := .cons (v_iinc (k0 := (1 : Int32)) d_AW_hangs_110 (by decide +kernel)) .nil
theorem d_AW_hangs_113 : decode y_AW_hangs.2.1 113 = .ok (.goto (-60), 3) := by decide +kernel
theorem d_AW_hangs_93 : decode y_AW_hangs.2.1 93 = .ok (.aload_n 0, 1) := by decide +kernel
theorem d_AW_hangs_94 : decode y_AW_hangs.2.1 94 = .ok (.aload 4, 2) := by decide +kernel
theorem d_AW_hangs_96 : decode y_AW_hangs.2.1 96 = .ok (.iload 6, 2) := by decide +kernel
theorem d_AW_hangs_98 : decode y_AW_hangs.2.1 98 = .ok (.iload 5, 2) := by decide +kernel
theorem d_AW_hangs_100 : decode y_AW_hangs.2.1 100 = .ok (.iload_n 3, 1) := by decide +kernel
theorem s_AW_hangs_93 : aw_VS y_AW_hangs 93 [o_ald 0, o_ald 4, o_ild 6, o_ild 5, o_ild 3] 101 := .cons (v_aload_n (i := 0) d_AW_hangs_93 rfl) (.cons (v_aload (i := 4) d_AW_hangs_94) (.cons (v_iload (i := 6) d_AW_hangs_96) (.cons (v_iload (i := 5) d_AW_hangs_98) (.cons (v_iload_n (i := 3) d_AW_hangs_100 rfl) .nil))))
theorem d_AW_hangs_101 : decode y_AW_hangs.2.1 101 = .ok (.invokevirtual 267, 3) := by decide +kernel
theorem b_AW_hangs_86 {X : aw_X} {d : Nat} {Q : Option Value → aw_H → Prop} {I : Nat → Nat → Int32} {L : Nat → Nat → Int64} {D : Nat → Nat} {v3 : Int32} {c4 : Nat} {v5 : Int32} {v6 : Int32} {s0 : Int32}
    (h1 : s0 = 0 → aw_z X (d + 1) y_AW_hangs Q 53 [some (.ref 0), none, none, some (.int v3), some (.ref c4), some (.int v5), some (.int (v6 + (1 : Int32))), none] [] (aw_s I L D))
    (h2 : ¬ s0 = 0 → aw_m X d y_AW_endsUnlike [.ref 0, .ref c4, .int v6, .int v5, .int v3] (aw_s I L D) (fun r A => aw_z X (d + 1) y_AW_hangs Q 104 [some (.ref 0), none, none, some (.int v3), some (.ref c4), some (.int v5), some (.int v6), none] (r.toList ++ []) A)) :
    aw_z X (d + 1) y_AW_hangs Q 86 [some (.ref 0), none, none, some (.int v3), some (.ref c4), some (.int v5), some (.int v6), none] [.int s0] (aw_s I L D) :=
  (s_AW_hangs_86.go [some (.ref 0), none, none, some (.int v3), some (.ref c4), some (.int v5), some (.int v6), some (.int s0)] [.int s0] (aw_s I L D) rfl (z_if_eq (tgt := 110) d_AW_hangs_90 rfl (fun q1 => (s_AW_hangs_110.go [some (.ref 0), none, none, some (.int v3), some (.ref c4), some (.int v5), some (.int (v6 + (1 : Int32))), some (.int s0)] [] (aw_s I L D) rfl (z_goto (tgt := 53) d_AW_hangs_113 rfl (aw_Z.weak (ls' := [some (.ref 0), none, none, some (.int v3), some (.ref c4), some (.int v5), some (.int (v6 + (1 : Int32))), none]) (h1 q1) (Nat.le_of_ble_eq_true rfl) ⟨Or.inr rfl, ⟨Or.inl rfl, ⟨Or.inl rfl, ⟨Or.inr rfl, ⟨Or.inr rfl, ⟨Or.inr rfl, ⟨Or.inr rfl, ⟨Or.inl rfl, trivial⟩⟩⟩⟩⟩⟩⟩⟩)))) (fun q2 => (s_AW_hangs_93.go [some (.ref 0), none, none, some (.int v3), some (.ref c4), some (.int v5), some (.int v6), some (.int s0)] [.int v3, .int v5, .int v6, .ref c4, .ref 0] (aw_s I L D) rfl (z_callV (av := [.ref c4, .int v6, .int v5, .int v3]) (st := []) ok_AW_endsUnlike (Or.inl w_1220) w_1222 w_55 k_AW d_AW_hangs_101 rfl (aw_lt (o := 0) rfl) rfl rfl (Nat.le_of_ble_eq_true rfl) (Nat.le_refl _) (Nat.le_refl _) (aw_C.mono (h2 q2) (fun _ _ zz => aw_Z.weak (ls' := [some (.ref 0), none, none, some (.int v3), some (.ref c4), some (.int v5), some (.int v6), none]) zz (Nat.le_of_ble_eq_true rfl) ⟨Or.inr rfl, ⟨Or.inl rfl, ⟨Or.inl rfl, ⟨Or.inr rfl, ⟨Or.inr rfl, ⟨Or.inr rfl, ⟨Or.inr rfl, ⟨Or.inl rfl, trivial⟩⟩⟩⟩⟩⟩⟩⟩)))))))
theorem d_AW_hangs_104 : decode y_AW_hangs.2.1 104 = .ok (.ifCond .eq (6), 3) := by decide +kernel
theorem d_AW_hangs_107 : decode y_AW_hangs.2.1 107 = .ok (.iload 6, 2) := by decide +kernel
theorem s_AW_hangs_107 : aw_VS y_AW_hangs 107 [o_ild 6] 109 := .cons (v_iload (i := 6) d_AW_hangs_107) .nil
theorem d_AW_hangs_109 : decode y_AW_hangs.2.1 109 = .ok (.ireturn, 1) := by decide +kernel
theorem b_AW_hangs_104 {X : aw_X} {d : Nat} {Q : Option Value → aw_H → Prop} {I : Nat → Nat → Int32} {L : Nat → Nat → Int64} {D : Nat → Nat} {v3 : Int32} {c4 : Nat} {v5 : Int32} {v6 : Int32} {s0 : Int32}
    (h1 : s0 = 0 → aw_z X (d + 1) y_AW_hangs Q 53 [some (.ref 0), none, none, some (.int v3), some (.ref c4), some (.int v5), some (.int (v6 + (1 : Int32))), none] [] (aw_s I L D))
    (h2 : ¬ s0 = 0 → Q (some (.int v6)) (aw_s I L D)) :
    aw_z X (d + 1) y_AW_hangs Q 104 [some (.ref 0), none, none, some (.int v3), some (.ref c4), some (.int v5), some (.int v6), none] [.int s0] (aw_s I L D) :=
  (z_if_eq (tgt := 110) d_AW_hangs_104 rfl (fun q1 => (s_AW_hangs_110.go [some (.ref 0), none, none, some (.int v3), some (.ref c4), some (.int v5), some (.int (v6 + (1 : Int32))), none] [] (aw_s I L D) rfl (z_goto (tgt := 53) d_AW_hangs_113 rfl (h1 q1)))) (fun q2 => (s_AW_hangs_107.go [some (.ref 0), none, none, some (.int v3), some (.ref c4), some (.int v5), some (.int v6), none] [.int v6] (aw_s I L D) rfl (z_iret d_AW_hangs_109 rfl rfl (h2 q2)))))
/-! AW_endsUnlike -/
theorem d_AW_endsUnlike_0 : decode y_AW_endsUnlike.2.1 0 = .ok (.aload_n 0, 1) := by decide +kernel
theorem d_AW_endsUnlike_1 : decode y_AW_endsUnlike.2.1 1 = .ok (.getfield 28, 3) := by decide +kernel
theorem d_AW_endsUnlike_4 : decode y_AW_endsUnlike.2.1 4 = .ok (.aload_n 1, 1) := by decide +kernel
theorem d_AW_endsUnlike_5 : decode y_AW_endsUnlike.2.1 5 = .ok (.iload_n 2, 1) := by decide +kernel
theorem d_AW_endsUnlike_6 : decode y_AW_endsUnlike.2.1 6 = .ok (.iload 4, 2) := by decide +kernel
theorem s_AW_endsUnlike_0 : aw_VS y_AW_endsUnlike 0 [o_ald 0, o_getA 0 2, o_ald 1, o_ild 2, o_ild 4] 8 := .cons (v_aload_n (i := 0) d_AW_endsUnlike_0 rfl) (.cons (v_getA (k := 2) k_AW (by decide) rfl (Or.inl w_492) d_AW_endsUnlike_1) (.cons (v_aload_n (i := 1) d_AW_endsUnlike_4 rfl) (.cons (v_iload_n (i := 2) d_AW_endsUnlike_5 rfl) (.cons (v_iload (i := 4) d_AW_endsUnlike_6) .nil))))
theorem d_AW_endsUnlike_8 : decode y_AW_endsUnlike.2.1 8 = .ok (.invokevirtual 233, 3) := by decide +kernel
theorem b_AW_endsUnlike_0 {X : aw_X} {d : Nat} {Q : Option Value → aw_H → Prop} {I : Nat → Nat → Int32} {L : Nat → Nat → Int64} {D : Nat → Nat} {c1 : Nat} {v2 : Int32} {v3 : Int32} {v4 : Int32}
    (h1 : aw_m X d y_Mc_outcome [.ref 4, .ref c1, .int v2, .int v4] (aw_s I L D) (fun r A => aw_z X (d + 1) y_AW_endsUnlike Q 11 [some (.ref 0), some (.ref c1), some (.int v2), some (.int v3), some (.int v4), none, none] (r.toList ++ []) A)) :
    aw_z X (d + 1) y_AW_endsUnlike Q 0 [some (.ref 0), some (.ref c1), some (.int v2), some (.int v3), some (.int v4), none, none] [] (aw_s I L D) :=
  (s_AW_endsUnlike_0.go [some (.ref 0), some (.ref c1), some (.int v2), some (.int v3), some (.int v4), none, none] [.int v4, .int v2, .ref c1, .ref 4] (aw_s I L D) rfl (z_callV (av := [.ref c1, .int v2, .int v4]) (st := []) ok_Mc_outcome (Or.inl w_1155) w_1156 w_1157 k_Mc d_AW_endsUnlike_8 rfl (aw_lt (o := 4) rfl) rfl rfl (Nat.le_of_ble_eq_true rfl) (Nat.le_refl _) (Nat.le_refl _) (h1)))
theorem d_AW_endsUnlike_11 : decode y_AW_endsUnlike.2.1 11 = .ok (.istore 5, 2) := by decide +kernel
theorem d_AW_endsUnlike_13 : decode y_AW_endsUnlike.2.1 13 = .ok (.iconst 1, 1) := by decide +kernel
theorem d_AW_endsUnlike_14 : decode y_AW_endsUnlike.2.1 14 = .ok (.istore 6, 2) := by decide +kernel
theorem s_AW_endsUnlike_11 : aw_VS y_AW_endsUnlike 11 [o_ist 5, o_c (.int (1 : Int32)), o_ist 6] 16 := .cons (v_istore d_AW_endsUnlike_11) (.cons (v_iconst (v := (1 : Int32)) d_AW_endsUnlike_13 (by decide +kernel)) (.cons (v_istore d_AW_endsUnlike_14) .nil))
theorem b_AW_endsUnlike_11 {X : aw_X} {d : Nat} {Q : Option Value → aw_H → Prop} {I : Nat → Nat → Int32} {L : Nat → Nat → Int64} {D : Nat → Nat} {c1 : Nat} {v2 : Int32} {v3 : Int32} {v4 : Int32} {s0 : Int32}
    (h1 : aw_z X (d + 1) y_AW_endsUnlike Q 16 [some (.ref 0), some (.ref c1), some (.int v2), some (.int v3), some (.int v4), some (.int s0), some (.int (1 : Int32))] [] (aw_s I L D)) :
    aw_z X (d + 1) y_AW_endsUnlike Q 11 [some (.ref 0), some (.ref c1), some (.int v2), some (.int v3), some (.int v4), none, none] [.int s0] (aw_s I L D) :=
  (s_AW_endsUnlike_11.go [some (.ref 0), some (.ref c1), some (.int v2), some (.int v3), some (.int v4), some (.int s0), some (.int (1 : Int32))] [] (aw_s I L D) rfl (h1))
theorem d_AW_endsUnlike_16 : decode y_AW_endsUnlike.2.1 16 = .ok (.iload 6, 2) := by decide +kernel
theorem d_AW_endsUnlike_18 : decode y_AW_endsUnlike.2.1 18 = .ok (.aload_n 0, 1) := by decide +kernel
theorem d_AW_endsUnlike_19 : decode y_AW_endsUnlike.2.1 19 = .ok (.getfield 12, 3) := by decide +kernel
theorem s_AW_endsUnlike_16 : aw_VS y_AW_endsUnlike 16 [o_ild 6, o_ald 0, o_getA 0 0] 22 := .cons (v_iload (i := 6) d_AW_endsUnlike_16) (.cons (v_aload_n (i := 0) d_AW_endsUnlike_18 rfl) (.cons (v_getA (k := 0) k_AW (by decide) rfl (Or.inl w_490) d_AW_endsUnlike_19) .nil))
theorem d_AW_endsUnlike_22 : decode y_AW_endsUnlike.2.1 22 = .ok (.invokevirtual 215, 3) := by decide +kernel
theorem b_AW_endsUnlike_16 {X : aw_X} {d : Nat} {Q : Option Value → aw_H → Prop} {I : Nat → Nat → Int32} {L : Nat → Nat → Int64} {D : Nat → Nat} {c1 : Nat} {v2 : Int32} {v3 : Int32} {v4 : Int32} {v5 : Int32} {v6 : Int32}
    (h1 : aw_m X d y_Sz_greatest [.ref 1] (aw_s I L D) (fun r A => aw_z X (d + 1) y_AW_endsUnlike Q 25 [some (.ref 0), some (.ref c1), some (.int v2), some (.int v3), some (.int v4), some (.int v5), some (.int v6)] (r.toList ++ [.int v6]) A)) :
    aw_z X (d + 1) y_AW_endsUnlike Q 16 [some (.ref 0), some (.ref c1), some (.int v2), some (.int v3), some (.int v4), some (.int v5), some (.int v6)] [] (aw_s I L D) :=
  (s_AW_endsUnlike_16.go [some (.ref 0), some (.ref c1), some (.int v2), some (.int v3), some (.int v4), some (.int v5), some (.int v6)] [.ref 1, .int v6] (aw_s I L D) rfl (z_callV (av := []) (st := [.int v6]) ok_Sz_greatest (Or.inl w_1121) w_906 w_907 k_Sz d_AW_endsUnlike_22 rfl (aw_lt (o := 1) rfl) rfl rfl (Nat.le_of_ble_eq_true rfl) (Nat.le_refl _) (Nat.le_refl _) (h1)))
theorem d_AW_endsUnlike_25 : decode y_AW_endsUnlike.2.1 25 = .ok (.if_icmp .gt (32), 3) := by decide +kernel
theorem d_AW_endsUnlike_57 : decode y_AW_endsUnlike.2.1 57 = .ok (.iconst 0, 1) := by decide +kernel
theorem s_AW_endsUnlike_57 : aw_VS y_AW_endsUnlike 57 [o_c (.int (0 : Int32))] 58 := .cons (v_iconst (v := (0 : Int32)) d_AW_endsUnlike_57 (by decide +kernel)) .nil
theorem d_AW_endsUnlike_58 : decode y_AW_endsUnlike.2.1 58 = .ok (.ireturn, 1) := by decide +kernel
theorem d_AW_endsUnlike_28 : decode y_AW_endsUnlike.2.1 28 = .ok (.aload_n 0, 1) := by decide +kernel
theorem d_AW_endsUnlike_29 : decode y_AW_endsUnlike.2.1 29 = .ok (.getfield 28, 3) := by decide +kernel
theorem d_AW_endsUnlike_32 : decode y_AW_endsUnlike.2.1 32 = .ok (.aload_n 1, 1) := by decide +kernel
theorem d_AW_endsUnlike_33 : decode y_AW_endsUnlike.2.1 33 = .ok (.iload_n 2, 1) := by decide +kernel
theorem d_AW_endsUnlike_34 : decode y_AW_endsUnlike.2.1 34 = .ok (.iload 6, 2) := by decide +kernel
theorem d_AW_endsUnlike_36 : decode y_AW_endsUnlike.2.1 36 = .ok (.iload_n 3, 1) := by decide +kernel
theorem d_AW_endsUnlike_37 : decode y_AW_endsUnlike.2.1 37 = .ok (.imul, 1) := by decide +kernel
theorem d_AW_endsUnlike_38 : decode y_AW_endsUnlike.2.1 38 = .ok (.iadd, 1) := by decide +kernel
theorem d_AW_endsUnlike_39 : decode y_AW_endsUnlike.2.1 39 = .ok (.iload 4, 2) := by decide +kernel
theorem s_AW_endsUnlike_28 : aw_VS y_AW_endsUnlike 28 [o_ald 0, o_getA 0 2, o_ald 1, o_ild 2, o_ild 6, o_ild 3, o_i2 (fun x z => x * z), o_i2 (fun x z => x + z), o_ild 4] 41 := .cons (v_aload_n (i := 0) d_AW_endsUnlike_28 rfl) (.cons (v_getA (k := 2) k_AW (by decide) rfl (Or.inl w_492) d_AW_endsUnlike_29) (.cons (v_aload_n (i := 1) d_AW_endsUnlike_32 rfl) (.cons (v_iload_n (i := 2) d_AW_endsUnlike_33 rfl) (.cons (v_iload (i := 6) d_AW_endsUnlike_34) (.cons (v_iload_n (i := 3) d_AW_endsUnlike_36 rfl) (.cons (v_imul d_AW_endsUnlike_37) (.cons (v_iadd d_AW_endsUnlike_38) (.cons (v_iload (i := 4) d_AW_endsUnlike_39) .nil))))))))
theorem d_AW_endsUnlike_41 : decode y_AW_endsUnlike.2.1 41 = .ok (.invokevirtual 233, 3) := by decide +kernel
theorem b_AW_endsUnlike_25 {X : aw_X} {d : Nat} {Q : Option Value → aw_H → Prop} {I : Nat → Nat → Int32} {L : Nat → Nat → Int64} {D : Nat → Nat} {c1 : Nat} {v2 : Int32} {v3 : Int32} {v4 : Int32} {v5 : Int32} {v6 : Int32} {s1 : Int32} {s0 : Int32}
    (h1 : s1 < s0 → Q (some (.int (0 : Int32))) (aw_s I L D))
    (h2 : ¬ s1 < s0 → aw_m X d y_Mc_outcome [.ref 4, .ref c1, .int (v2 + (v6 * v3)), .int v4] (aw_s I L D) (fun r A => aw_z X (d + 1) y_AW_endsUnlike Q 44 [some (.ref 0), some (.ref c1), some (.int v2), some (.int v3), some (.int v4), some (.int v5), some (.int v6)] (r.toList ++ []) A)) :
    aw_z X (d + 1) y_AW_endsUnlike Q 25 [some (.ref 0), some (.ref c1), some (.int v2), some (.int v3), some (.int v4), some (.int v5), some (.int v6)] [.int s1, .int s0] (aw_s I L D) :=
  (z_icmp_gt (tgt := 57) d_AW_endsUnlike_25 rfl (fun q1 => (s_AW_endsUnlike_57.go [some (.ref 0), some (.ref c1), some (.int v2), some (.int v3), some (.int v4), some (.int v5), some (.int v6)] [.int (0 : Int32)] (aw_s I L D) rfl (z_iret d_AW_endsUnlike_58 rfl (aw_nz (by decide +kernel)) (h1 q1)))) (fun q2 => (s_AW_endsUnlike_28.go [some (.ref 0), some (.ref c1), some (.int v2), some (.int v3), some (.int v4), some (.int v5), some (.int v6)] [.int v4, .int (v2 + (v6 * v3)), .ref c1, .ref 4] (aw_s I L D) rfl (z_callV (av := [.ref c1, .int (v2 + (v6 * v3)), .int v4]) (st := []) ok_Mc_outcome (Or.inl w_1155) w_1156 w_1157 k_Mc d_AW_endsUnlike_41 rfl (aw_lt (o := 4) rfl) rfl rfl (Nat.le_of_ble_eq_true rfl) (Nat.le_refl _) (Nat.le_refl _) (h2 q2)))))
theorem d_AW_endsUnlike_44 : decode y_AW_endsUnlike.2.1 44 = .ok (.iload 5, 2) := by decide +kernel
theorem s_AW_endsUnlike_44 : aw_VS y_AW_endsUnlike 44 [o_ild 5] 46 := .cons (v_iload (i := 5) d_AW_endsUnlike_44) .nil
theorem d_AW_endsUnlike_46 : decode y_AW_endsUnlike.2.1 46 = .ok (.if_icmp .eq (5), 3) := by decide +kernel
theorem d_AW_endsUnlike_51 : decode y_AW_endsUnlike.2.1 51 = .ok (.iinc 6 (1), 3) := by decide +kernel
theorem s_AW_endsUnlike_51 : aw_VS y_AW_endsUnlike 51 [o_inc 6 (1 : Int32)] 54 := .cons (v_iinc (k0 := (1 : Int32)) d_AW_endsUnlike_51 (by decide +kernel)) .nil
theorem d_AW_endsUnlike_54 : decode y_AW_endsUnlike.2.1 54 = .ok (.goto (-38), 3) := by decide +kernel
theorem d_AW_endsUnlike_49 : decode y_AW_endsUnlike.2.1 49 = .ok (.iconst 1, 1) := by decide +kernel
theorem s_AW_endsUnlike_49 : aw_VS y_AW_endsUnlike 49 [o_c (.int (1 : Int32))] 50 := .cons (v_iconst (v := (1 : Int32)) d_AW_endsUnlike_49 (by decide +kernel)) .nil
theorem d_AW_endsUnlike_50 : decode y_AW_endsUnlike.2.1 50 = .ok (.ireturn, 1) := by decide +kernel
theorem b_AW_endsUnlike_44 {X : aw_X} {d : Nat} {Q : Option Value → aw_H → Prop} {I : Nat → Nat → Int32} {L : Nat → Nat → Int64} {D : Nat → Nat} {c1 : Nat} {v2 : Int32} {v3 : Int32} {v4 : Int32} {v5 : Int32} {v6 : Int32} {s0 : Int32}
    (h1 : s0 = v5 → aw_z X (d + 1) y_AW_endsUnlike Q 16 [some (.ref 0), some (.ref c1), some (.int v2), some (.int v3), some (.int v4), some (.int v5), some (.int (v6 + (1 : Int32)))] [] (aw_s I L D))
    (h2 : ¬ s0 = v5 → Q (some (.int (1 : Int32))) (aw_s I L D)) :
    aw_z X (d + 1) y_AW_endsUnlike Q 44 [some (.ref 0), some (.ref c1), some (.int v2), some (.int v3), some (.int v4), some (.int v5), some (.int v6)] [.int s0] (aw_s I L D) :=
  (s_AW_endsUnlike_44.go [some (.ref 0), some (.ref c1), some (.int v2), some (.int v3), some (.int v4), some (.int v5), some (.int v6)] [.int v5, .int s0] (aw_s I L D) rfl (z_icmp_eq (tgt := 51) d_AW_endsUnlike_46 rfl (fun q1 => (s_AW_endsUnlike_51.go [some (.ref 0), some (.ref c1), some (.int v2), some (.int v3), some (.int v4), some (.int v5), some (.int (v6 + (1 : Int32)))] [] (aw_s I L D) rfl (z_goto (tgt := 16) d_AW_endsUnlike_54 rfl (h1 q1)))) (fun q2 => (s_AW_endsUnlike_49.go [some (.ref 0), some (.ref c1), some (.int v2), some (.int v3), some (.int v4), some (.int v5), some (.int v6)] [.int (1 : Int32)] (aw_s I L D) rfl (z_iret d_AW_endsUnlike_50 rfl (aw_nz (by decide +kernel)) (h2 q2))))))
/-! AW_reach -/
theorem d_AW_reach_0 : decode y_AW_reach.2.1 0 = .ok (.aload_n 0, 1) := by decide +kernel
theorem d_AW_reach_1 : decode y_AW_reach.2.1 1 = .ok (.iload_n 1, 1) := by decide +kernel
theorem s_AW_reach_0 : aw_VS y_AW_reach 0 [o_ald 0, o_ild 1] 2 := .cons (v_aload_n (i := 0) d_AW_reach_0 rfl) (.cons (v_iload_n (i := 1) d_AW_reach_1 rfl) .nil)
theorem d_AW_reach_2 : decode y_AW_reach.2.1 2 = .ok (.invokevirtual 102, 3) := by decide +kernel
theorem b_AW_reach_0 {X : aw_X} {d : Nat} {Q : Option Value → aw_H → Prop} {I : Nat → Nat → Int32} {L : Nat → Nat → Int64} {D : Nat → Nat} {v1 : Int32} {v2 : Int32} {v3 : Int32}
    (h1 : aw_m X d y_AW_programAt [.ref 0, .int v1] (aw_s I L D) (fun r A => aw_z X (d + 1) y_AW_reach Q 5 [some (.ref 0), none, some (.int v2), some (.int v3), none, none] (r.toList ++ []) A)) :
    aw_z X (d + 1) y_AW_reach Q 0 [some (.ref 0), some (.int v1), some (.int v2), some (.int v3), none, none] [] (aw_s I L D) :=
  (s_AW_reach_0.go [some (.ref 0), some (.int v1), some (.int v2), some (.int v3), none, none] [.int v1, .ref 0] (aw_s I L D) rfl (z_callV (av := [.int v1]) (st := []) ok_AW_programAt (Or.inl w_569) w_571 w_0 k_AW d_AW_reach_2 rfl (aw_lt (o := 0) rfl) rfl rfl (Nat.le_of_ble_eq_true rfl) (Nat.le_refl _) (Nat.le_refl _) (aw_C.mono (h1) (fun _ _ zz => aw_Z.weak (ls' := [some (.ref 0), none, some (.int v2), some (.int v3), none, none]) zz (Nat.le_of_ble_eq_true rfl) ⟨Or.inr rfl, ⟨Or.inl rfl, ⟨Or.inr rfl, ⟨Or.inr rfl, ⟨Or.inl rfl, ⟨Or.inl rfl, trivial⟩⟩⟩⟩⟩⟩))))
theorem d_AW_reach_5 : decode y_AW_reach.2.1 5 = .ok (.astore 4, 2) := by decide +kernel
theorem d_AW_reach_7 : decode y_AW_reach.2.1 7 = .ok (.aload 4, 2) := by decide +kernel
theorem s_AW_reach_5 : aw_VS y_AW_reach 5 [o_ast 4, o_ald 4] 9 := .cons (v_astore d_AW_reach_5) (.cons (v_aload (i := 4) d_AW_reach_7) .nil)
theorem d_AW_reach_9 : decode y_AW_reach.2.1 9 = .ok (.ifnull (25), 3) := by decide +kernel
theorem d_AW_reach_12 : decode y_AW_reach.2.1 12 = .ok (.iload_n 2, 1) := by decide +kernel
theorem s_AW_reach_12 : aw_VS y_AW_reach 12 [o_ild 2] 13 := .cons (v_iload_n (i := 2) d_AW_reach_12 rfl) .nil
theorem d_AW_reach_13 : decode y_AW_reach.2.1 13 = .ok (.ifCond .lt (21), 3) := by decide +kernel
theorem d_AW_reach_34 : decode y_AW_reach.2.1 34 = .ok (.bipush (-2), 2) := by decide +kernel
theorem s_AW_reach_34 : aw_VS y_AW_reach 34 [o_c (.int (-2 : Int32))] 36 := .cons (v_bipush (v := (-2 : Int32)) d_AW_reach_34 (by decide +kernel)) .nil
theorem d_AW_reach_36 : decode y_AW_reach.2.1 36 = .ok (.ireturn, 1) := by decide +kernel
theorem d_AW_reach_16 : decode y_AW_reach.2.1 16 = .ok (.iload_n 2, 1) := by decide +kernel
theorem d_AW_reach_17 : decode y_AW_reach.2.1 17 = .ok (.aload_n 0, 1) := by decide +kernel
theorem d_AW_reach_18 : decode y_AW_reach.2.1 18 = .ok (.getfield 12, 3) := by decide +kernel
theorem s_AW_reach_16 : aw_VS y_AW_reach 16 [o_ild 2, o_ald 0, o_getA 0 0] 21 := .cons (v_iload_n (i := 2) d_AW_reach_16 rfl) (.cons (v_aload_n (i := 0) d_AW_reach_17 rfl) (.cons (v_getA (k := 0) k_AW (by decide) rfl (Or.inl w_490) d_AW_reach_18) .nil))
theorem d_AW_reach_21 : decode y_AW_reach.2.1 21 = .ok (.invokevirtual 215, 3) := by decide +kernel
theorem b_AW_reach_5 {X : aw_X} {d : Nat} {Q : Option Value → aw_H → Prop} {I : Nat → Nat → Int32} {L : Nat → Nat → Int64} {D : Nat → Nat} {v2 : Int32} {v3 : Int32} {t0 : Nat}
    (h1 : v2 < 0 → Q (some (.int (-2 : Int32))) (aw_s I L D))
    (h2 : ¬ v2 < 0 → aw_m X d y_Sz_greatest [.ref 1] (aw_s I L D) (fun r A => aw_z X (d + 1) y_AW_reach Q 24 [some (.ref 0), none, some (.int v2), some (.int v3), some (.ref t0), none] (r.toList ++ [.int v2]) A)) :
    aw_z X (d + 1) y_AW_reach Q 5 [some (.ref 0), none, some (.int v2), some (.int v3), none, none] [.ref t0] (aw_s I L D) :=
  (s_AW_reach_5.go [some (.ref 0), none, some (.int v2), some (.int v3), some (.ref t0), none] [.ref t0] (aw_s I L D) rfl (z_ifnull d_AW_reach_9 (s_AW_reach_12.go [some (.ref 0), none, some (.int v2), some (.int v3), some (.ref t0), none] [.int v2] (aw_s I L D) rfl (z_if_lt (tgt := 34) d_AW_reach_13 rfl (fun q1 => (s_AW_reach_34.go [some (.ref 0), none, some (.int v2), some (.int v3), some (.ref t0), none] [.int (-2 : Int32)] (aw_s I L D) rfl (z_iret d_AW_reach_36 rfl rfl (h1 q1)))) (fun q2 => (s_AW_reach_16.go [some (.ref 0), none, some (.int v2), some (.int v3), some (.ref t0), none] [.ref 1, .int v2] (aw_s I L D) rfl (z_callV (av := []) (st := [.int v2]) ok_Sz_greatest (Or.inl w_1121) w_906 w_907 k_Sz d_AW_reach_21 rfl (aw_lt (o := 1) rfl) rfl rfl (Nat.le_of_ble_eq_true rfl) (Nat.le_refl _) (Nat.le_refl _) (h2 q2))))))))
theorem b_AW_reach_5a {X : aw_X} {d : Nat} {Q : Option Value → aw_H → Prop} {I : Nat → Nat → Int32} {L : Nat → Nat → Int64} {D : Nat → Nat} {v2 : Int32} {v3 : Int32}
    (h1 : Q (some (.int (-2 : Int32))) (aw_s I L D)) :
    aw_z X (d + 1) y_AW_reach Q 5 [some (.ref 0), none, some (.int v2), some (.int v3), none, none] [.null] (aw_s I L D) :=
  (s_AW_reach_5.go [some (.ref 0), none, some (.int v2), some (.int v3), some .null, none] [.null] (aw_s I L D) rfl (z_ifnullN (tgt := 34) d_AW_reach_9 rfl (s_AW_reach_34.go [some (.ref 0), none, some (.int v2), some (.int v3), some .null, none] [.int (-2 : Int32)] (aw_s I L D) rfl (z_iret d_AW_reach_36 rfl rfl (h1)))))
theorem d_AW_reach_24 : decode y_AW_reach.2.1 24 = .ok (.if_icmp .gt (10), 3) := by decide +kernel
theorem d_AW_reach_27 : decode y_AW_reach.2.1 27 = .ok (.iload_n 3, 1) := by decide +kernel
theorem s_AW_reach_27 : aw_VS y_AW_reach 27 [o_ild 3] 28 := .cons (v_iload_n (i := 3) d_AW_reach_27 rfl) .nil
theorem d_AW_reach_28 : decode y_AW_reach.2.1 28 = .ok (.invokestatic 136, 3) := by decide +kernel
theorem b_AW_reach_24 {X : aw_X} {d : Nat} {Q : Option Value → aw_H → Prop} {I : Nat → Nat → Int32} {L : Nat → Nat → Int64} {D : Nat → Nat} {v2 : Int32} {v3 : Int32} {c4 : Nat} {s1 : Int32} {s0 : Int32}
    (h1 : s1 < s0 → Q (some (.int (-2 : Int32))) (aw_s I L D))
    (h2 : ¬ s1 < s0 → aw_m X d y_AW_isFuel [.int v3] (aw_s I L D) (fun r A => aw_z X (d + 1) y_AW_reach Q 31 [some (.ref 0), none, some (.int v2), some (.int v3), some (.ref c4), none] (r.toList ++ []) A)) :
    aw_z X (d + 1) y_AW_reach Q 24 [some (.ref 0), none, some (.int v2), some (.int v3), some (.ref c4), none] [.int s1, .int s0] (aw_s I L D) :=
  (z_icmp_gt (tgt := 34) d_AW_reach_24 rfl (fun q1 => (s_AW_reach_34.go [some (.ref 0), none, some (.int v2), some (.int v3), some (.ref c4), none] [.int (-2 : Int32)] (aw_s I L D) rfl (z_iret d_AW_reach_36 rfl rfl (h1 q1)))) (fun q2 => (s_AW_reach_27.go [some (.ref 0), none, some (.int v2), some (.int v3), some (.ref c4), none] [.int v3] (aw_s I L D) rfl (z_callS (av := [.int v3]) (st := []) ok_AW_isFuel (Or.inl w_874) w_875 d_AW_reach_28 rfl rfl (Nat.le_of_ble_eq_true rfl) (Nat.le_refl _) (Nat.le_refl _) (h2 q2)))))
theorem d_AW_reach_31 : decode y_AW_reach.2.1 31 = .ok (.ifCond .ne (6), 3) := by decide +kernel
theorem d_AW_reach_37 : decode y_AW_reach.2.1 37 = .ok (.iconst 0, 1) := by decide +kernel
theorem d_AW_reach_38 : decode y_AW_reach.2.1 38 = .ok (.istore 5, 2) := by decide +kernel
theorem s_AW_reach_37 : aw_VS y_AW_reach 37 [o_c (.int (0 : Int32)), o_ist 5] 40 := .cons (v_iconst (v := (0 : Int32)) d_AW_reach_37 (by decide +kernel)) (.cons (v_istore d_AW_reach_38) .nil)
theorem b_AW_reach_31 {X : aw_X} {d : Nat} {Q : Option Value → aw_H → Prop} {I : Nat → Nat → Int32} {L : Nat → Nat → Int64} {D : Nat → Nat} {v2 : Int32} {v3 : Int32} {c4 : Nat} {s0 : Int32}
    (h1 : ¬ s0 = 0 → aw_z X (d + 1) y_AW_reach Q 40 [some (.ref 0), none, some (.int v2), some (.int v3), some (.ref c4), some (.int (0 : Int32))] [] (aw_s I L D))
    (h2 : s0 = 0 → Q (some (.int (-2 : Int32))) (aw_s I L D)) :
    aw_z X (d + 1) y_AW_reach Q 31 [some (.ref 0), none, some (.int v2), some (.int v3), some (.ref c4), none] [.int s0] (aw_s I L D) :=
  (z_if_ne (tgt := 37) d_AW_reach_31 rfl (fun q1 => (s_AW_reach_37.go [some (.ref 0), none, some (.int v2), some (.int v3), some (.ref c4), some (.int (0 : Int32))] [] (aw_s I L D) rfl (h1 q1))) (fun q2 => (s_AW_reach_34.go [some (.ref 0), none, some (.int v2), some (.int v3), some (.ref c4), none] [.int (-2 : Int32)] (aw_s I L D) rfl (z_iret d_AW_reach_36 rfl rfl (h2 q2)))))
theorem d_AW_reach_40 : decode y_AW_reach.2.1 40 = .ok (.iload 5, 2) := by decide +kernel
theorem d_AW_reach_42 : decode y_AW_reach.2.1 42 = .ok (.aload_n 0, 1) := by decide +kernel
theorem d_AW_reach_43 : decode y_AW_reach.2.1 43 = .ok (.getfield 12, 3) := by decide +kernel
theorem s_AW_reach_40 : aw_VS y_AW_reach 40 [o_ild 5, o_ald 0, o_getA 0 0] 46 := .cons (v_iload (i := 5) d_AW_reach_40) (.cons (v_aload_n (i := 0) d_AW_reach_42 rfl) (.cons (v_getA (k := 0) k_AW (by decide) rfl (Or.inl w_490) d_AW_reach_43) .nil))
theorem d_AW_reach_46 : decode y_AW_reach.2.1 46 = .ok (.invokevirtual 139, 3) := by decide +kernel
theorem b_AW_reach_40 {X : aw_X} {d : Nat} {Q : Option Value → aw_H → Prop} {I : Nat → Nat → Int32} {L : Nat → Nat → Int64} {D : Nat → Nat} {v2 : Int32} {v3 : Int32} {c4 : Nat} {v5 : Int32}
    (h1 : aw_m X d y_Sz_rows [.ref 1] (aw_s I L D) (fun r A => aw_z X (d + 1) y_AW_reach Q 49 [some (.ref 0), none, some (.int v2), some (.int v3), some (.ref c4), some (.int v5)] (r.toList ++ [.int v5]) A)) :
    aw_z X (d + 1) y_AW_reach Q 40 [some (.ref 0), none, some (.int v2), some (.int v3), some (.ref c4), some (.int v5)] [] (aw_s I L D) :=
  (s_AW_reach_40.go [some (.ref 0), none, some (.int v2), some (.int v3), some (.ref c4), some (.int v5)] [.ref 1, .int v5] (aw_s I L D) rfl (z_callV (av := []) (st := [.int v5]) ok_Sz_rows (Or.inl w_877) w_878 w_879 k_Sz d_AW_reach_46 rfl (aw_lt (o := 1) rfl) rfl rfl (Nat.le_of_ble_eq_true rfl) (Nat.le_refl _) (Nat.le_refl _) (h1)))
theorem d_AW_reach_49 : decode y_AW_reach.2.1 49 = .ok (.if_icmp .ge (28), 3) := by decide +kernel
theorem d_AW_reach_77 : decode y_AW_reach.2.1 77 = .ok (.iconst (-1), 1) := by decide +kernel
theorem s_AW_reach_77 : aw_VS y_AW_reach 77 [o_c (.int (-1 : Int32))] 78 := .cons (v_iconst (v := (-1 : Int32)) d_AW_reach_77 (by decide +kernel)) .nil
theorem d_AW_reach_78 : decode y_AW_reach.2.1 78 = .ok (.ireturn, 1) := by decide +kernel
theorem d_AW_reach_52 : decode y_AW_reach.2.1 52 = .ok (.aload_n 0, 1) := by decide +kernel
theorem d_AW_reach_53 : decode y_AW_reach.2.1 53 = .ok (.getfield 28, 3) := by decide +kernel
theorem d_AW_reach_56 : decode y_AW_reach.2.1 56 = .ok (.aload 4, 2) := by decide +kernel
theorem d_AW_reach_58 : decode y_AW_reach.2.1 58 = .ok (.iload 5, 2) := by decide +kernel
theorem d_AW_reach_60 : decode y_AW_reach.2.1 60 = .ok (.iload_n 3, 1) := by decide +kernel
theorem s_AW_reach_52 : aw_VS y_AW_reach 52 [o_ald 0, o_getA 0 2, o_ald 4, o_ild 5, o_ild 3] 61 := .cons (v_aload_n (i := 0) d_AW_reach_52 rfl) (.cons (v_getA (k := 2) k_AW (by decide) rfl (Or.inl w_492) d_AW_reach_53) (.cons (v_aload (i := 4) d_AW_reach_56) (.cons (v_iload (i := 5) d_AW_reach_58) (.cons (v_iload_n (i := 3) d_AW_reach_60 rfl) .nil))))
theorem d_AW_reach_61 : decode y_AW_reach.2.1 61 = .ok (.invokevirtual 233, 3) := by decide +kernel
theorem b_AW_reach_49 {X : aw_X} {d : Nat} {Q : Option Value → aw_H → Prop} {I : Nat → Nat → Int32} {L : Nat → Nat → Int64} {D : Nat → Nat} {v2 : Int32} {v3 : Int32} {c4 : Nat} {v5 : Int32} {s1 : Int32} {s0 : Int32}
    (h1 : s1 ≤ s0 → Q (some (.int (-1 : Int32))) (aw_s I L D))
    (h2 : ¬ s1 ≤ s0 → aw_m X d y_Mc_outcome [.ref 4, .ref c4, .int v5, .int v3] (aw_s I L D) (fun r A => aw_z X (d + 1) y_AW_reach Q 64 [some (.ref 0), none, some (.int v2), some (.int v3), some (.ref c4), some (.int v5)] (r.toList ++ []) A)) :
    aw_z X (d + 1) y_AW_reach Q 49 [some (.ref 0), none, some (.int v2), some (.int v3), some (.ref c4), some (.int v5)] [.int s1, .int s0] (aw_s I L D) :=
  (z_icmp_ge (tgt := 77) d_AW_reach_49 rfl (fun q1 => (s_AW_reach_77.go [some (.ref 0), none, some (.int v2), some (.int v3), some (.ref c4), some (.int v5)] [.int (-1 : Int32)] (aw_s I L D) rfl (z_iret d_AW_reach_78 rfl rfl (h1 q1)))) (fun q2 => (s_AW_reach_52.go [some (.ref 0), none, some (.int v2), some (.int v3), some (.ref c4), some (.int v5)] [.int v3, .int v5, .ref c4, .ref 4] (aw_s I L D) rfl (z_callV (av := [.ref c4, .int v5, .int v3]) (st := []) ok_Mc_outcome (Or.inl w_1155) w_1156 w_1157 k_Mc d_AW_reach_61 rfl (aw_lt (o := 4) rfl) rfl rfl (Nat.le_of_ble_eq_true rfl) (Nat.le_refl _) (Nat.le_refl _) (h2 q2)))))
theorem d_AW_reach_64 : decode y_AW_reach.2.1 64 = .ok (.iload_n 2, 1) := by decide +kernel
theorem s_AW_reach_64 : aw_VS y_AW_reach 64 [o_ild 2] 65 := .cons (v_iload_n (i := 2) d_AW_reach_64 rfl) .nil
theorem d_AW_reach_65 : decode y_AW_reach.2.1 65 = .ok (.if_icmp .ne (6), 3) := by decide +kernel
theorem d_AW_reach_71 : decode y_AW_reach.2.1 71 = .ok (.iinc 5 (1), 3) := by decide +kernel
theorem s_AW_reach_71 : aw_VS y_AW_reach 71 [o_inc 5 (1 : Int32)] 74 := .cons (v_iinc (k0 := (1 : Int32)) d_AW_reach_71 (by decide +kernel)) .nil
theorem d_AW_reach_74 : decode y_AW_reach.2.1 74 = .ok (.goto (-34), 3) := by decide +kernel
theorem d_AW_reach_68 : decode y_AW_reach.2.1 68 = .ok (.iload 5, 2) := by decide +kernel
theorem s_AW_reach_68 : aw_VS y_AW_reach 68 [o_ild 5] 70 := .cons (v_iload (i := 5) d_AW_reach_68) .nil
theorem d_AW_reach_70 : decode y_AW_reach.2.1 70 = .ok (.ireturn, 1) := by decide +kernel
theorem b_AW_reach_64 {X : aw_X} {d : Nat} {Q : Option Value → aw_H → Prop} {I : Nat → Nat → Int32} {L : Nat → Nat → Int64} {D : Nat → Nat} {v2 : Int32} {v3 : Int32} {c4 : Nat} {v5 : Int32} {s0 : Int32}
    (h1 : ¬ s0 = v2 → aw_z X (d + 1) y_AW_reach Q 40 [some (.ref 0), none, some (.int v2), some (.int v3), some (.ref c4), some (.int (v5 + (1 : Int32)))] [] (aw_s I L D))
    (h2 : s0 = v2 → Q (some (.int v5)) (aw_s I L D)) :
    aw_z X (d + 1) y_AW_reach Q 64 [some (.ref 0), none, some (.int v2), some (.int v3), some (.ref c4), some (.int v5)] [.int s0] (aw_s I L D) :=
  (s_AW_reach_64.go [some (.ref 0), none, some (.int v2), some (.int v3), some (.ref c4), some (.int v5)] [.int v2, .int s0] (aw_s I L D) rfl (z_icmp_ne (tgt := 71) d_AW_reach_65 rfl (fun q1 => (s_AW_reach_71.go [some (.ref 0), none, some (.int v2), some (.int v3), some (.ref c4), some (.int (v5 + (1 : Int32)))] [] (aw_s I L D) rfl (z_goto (tgt := 40) d_AW_reach_74 rfl (h1 q1)))) (fun q2 => (s_AW_reach_68.go [some (.ref 0), none, some (.int v2), some (.int v3), some (.ref c4), some (.int v5)] [.int v5] (aw_s I L D) rfl (z_iret d_AW_reach_70 rfl rfl (h2 q2))))))
/-! AW_mend -/
theorem d_AW_mend_0 : decode y_AW_mend.2.1 0 = .ok (.aload_n 0, 1) := by decide +kernel
theorem d_AW_mend_1 : decode y_AW_mend.2.1 1 = .ok (.iload_n 1, 1) := by decide +kernel
theorem s_AW_mend_0 : aw_VS y_AW_mend 0 [o_ald 0, o_ild 1] 2 := .cons (v_aload_n (i := 0) d_AW_mend_0 rfl) (.cons (v_iload_n (i := 1) d_AW_mend_1 rfl) .nil)
theorem d_AW_mend_2 : decode y_AW_mend.2.1 2 = .ok (.invokevirtual 102, 3) := by decide +kernel
theorem b_AW_mend_0 {X : aw_X} {d : Nat} {Q : Option Value → aw_H → Prop} {I : Nat → Nat → Int32} {L : Nat → Nat → Int64} {D : Nat → Nat} {v1 : Int32} {v2 : Int32}
    (h1 : aw_m X d y_AW_programAt [.ref 0, .int v1] (aw_s I L D) (fun r A => aw_z X (d + 1) y_AW_mend Q 5 [some (.ref 0), none, some (.int v2), none, none, none, none] (r.toList ++ []) A)) :
    aw_z X (d + 1) y_AW_mend Q 0 [some (.ref 0), some (.int v1), some (.int v2), none, none, none, none] [] (aw_s I L D) :=
  (s_AW_mend_0.go [some (.ref 0), some (.int v1), some (.int v2), none, none, none, none] [.int v1, .ref 0] (aw_s I L D) rfl (z_callV (av := [.int v1]) (st := []) ok_AW_programAt (Or.inl w_569) w_571 w_0 k_AW d_AW_mend_2 rfl (aw_lt (o := 0) rfl) rfl rfl (Nat.le_of_ble_eq_true rfl) (Nat.le_refl _) (Nat.le_refl _) (aw_C.mono (h1) (fun _ _ zz => aw_Z.weak (ls' := [some (.ref 0), none, some (.int v2), none, none, none, none]) zz (Nat.le_of_ble_eq_true rfl) ⟨Or.inr rfl, ⟨Or.inl rfl, ⟨Or.inr rfl, ⟨Or.inl rfl, ⟨Or.inl rfl, ⟨Or.inl rfl, ⟨Or.inl rfl, trivial⟩⟩⟩⟩⟩⟩⟩))))
theorem d_AW_mend_5 : decode y_AW_mend.2.1 5 = .ok (.astore_n 3, 1) := by decide +kernel
theorem d_AW_mend_6 : decode y_AW_mend.2.1 6 = .ok (.aload_n 3, 1) := by decide +kernel
theorem s_AW_mend_5 : aw_VS y_AW_mend 5 [o_ast 3, o_ald 3] 7 := .cons (v_astore_n d_AW_mend_5) (.cons (v_aload_n (i := 3) d_AW_mend_6 rfl) .nil)
theorem d_AW_mend_7 : decode y_AW_mend.2.1 7 = .ok (.ifnull (22), 3) := by decide +kernel
theorem d_AW_mend_10 : decode y_AW_mend.2.1 10 = .ok (.iload_n 2, 1) := by decide +kernel
theorem s_AW_mend_10 : aw_VS y_AW_mend 10 [o_ild 2] 11 := .cons (v_iload_n (i := 2) d_AW_mend_10 rfl) .nil
theorem d_AW_mend_11 : decode y_AW_mend.2.1 11 = .ok (.invokestatic 136, 3) := by decide +kernel
theorem b_AW_mend_5 {X : aw_X} {d : Nat} {Q : Option Value → aw_H → Prop} {I : Nat → Nat → Int32} {L : Nat → Nat → Int64} {D : Nat → Nat} {v2 : Int32} {t0 : Nat}
    (h1 : aw_m X d y_AW_isFuel [.int v2] (aw_s I L D) (fun r A => aw_z X (d + 1) y_AW_mend Q 14 [some (.ref 0), none, some (.int v2), some (.ref t0), none, none, none] (r.toList ++ []) A)) :
    aw_z X (d + 1) y_AW_mend Q 5 [some (.ref 0), none, some (.int v2), none, none, none, none] [.ref t0] (aw_s I L D) :=
  (s_AW_mend_5.go [some (.ref 0), none, some (.int v2), some (.ref t0), none, none, none] [.ref t0] (aw_s I L D) rfl (z_ifnull d_AW_mend_7 (s_AW_mend_10.go [some (.ref 0), none, some (.int v2), some (.ref t0), none, none, none] [.int v2] (aw_s I L D) rfl (z_callS (av := [.int v2]) (st := []) ok_AW_isFuel (Or.inl w_874) w_875 d_AW_mend_11 rfl rfl (Nat.le_of_ble_eq_true rfl) (Nat.le_refl _) (Nat.le_refl _) (h1)))))
theorem d_AW_mend_29 : decode y_AW_mend.2.1 29 = .ok (.bipush (-2), 2) := by decide +kernel
theorem s_AW_mend_29 : aw_VS y_AW_mend 29 [o_c (.int (-2 : Int32))] 31 := .cons (v_bipush (v := (-2 : Int32)) d_AW_mend_29 (by decide +kernel)) .nil
theorem d_AW_mend_31 : decode y_AW_mend.2.1 31 = .ok (.ireturn, 1) := by decide +kernel
theorem b_AW_mend_5a {X : aw_X} {d : Nat} {Q : Option Value → aw_H → Prop} {I : Nat → Nat → Int32} {L : Nat → Nat → Int64} {D : Nat → Nat} {v2 : Int32}
    (h1 : Q (some (.int (-2 : Int32))) (aw_s I L D)) :
    aw_z X (d + 1) y_AW_mend Q 5 [some (.ref 0), none, some (.int v2), none, none, none, none] [.null] (aw_s I L D) :=
  (s_AW_mend_5.go [some (.ref 0), none, some (.int v2), some .null, none, none, none] [.null] (aw_s I L D) rfl (z_ifnullN (tgt := 29) d_AW_mend_7 rfl (s_AW_mend_29.go [some (.ref 0), none, some (.int v2), some .null, none, none, none] [.int (-2 : Int32)] (aw_s I L D) rfl (z_iret d_AW_mend_31 rfl rfl (h1)))))
theorem d_AW_mend_14 : decode y_AW_mend.2.1 14 = .ok (.ifCond .eq (15), 3) := by decide +kernel
theorem d_AW_mend_17 : decode y_AW_mend.2.1 17 = .ok (.aload_n 0, 1) := by decide +kernel
theorem d_AW_mend_18 : decode y_AW_mend.2.1 18 = .ok (.getfield 12, 3) := by decide +kernel
theorem s_AW_mend_17 : aw_VS y_AW_mend 17 [o_ald 0, o_getA 0 0] 21 := .cons (v_aload_n (i := 0) d_AW_mend_17 rfl) (.cons (v_getA (k := 0) k_AW (by decide) rfl (Or.inl w_490) d_AW_mend_18) .nil)
theorem d_AW_mend_21 : decode y_AW_mend.2.1 21 = .ok (.invokevirtual 271, 3) := by decide +kernel
theorem b_AW_mend_14 {X : aw_X} {d : Nat} {Q : Option Value → aw_H → Prop} {I : Nat → Nat → Int32} {L : Nat → Nat → Int64} {D : Nat → Nat} {v2 : Int32} {c3 : Nat} {s0 : Int32}
    (h1 : s0 = 0 → Q (some (.int (-2 : Int32))) (aw_s I L D))
    (h2 : ¬ s0 = 0 → aw_m X d y_Sz_rowBits [.ref 1] (aw_s I L D) (fun r A => aw_z X (d + 1) y_AW_mend Q 24 [some (.ref 0), none, some (.int v2), some (.ref c3), none, none, none] (r.toList ++ []) A)) :
    aw_z X (d + 1) y_AW_mend Q 14 [some (.ref 0), none, some (.int v2), some (.ref c3), none, none, none] [.int s0] (aw_s I L D) :=
  (z_if_eq (tgt := 29) d_AW_mend_14 rfl (fun q1 => (s_AW_mend_29.go [some (.ref 0), none, some (.int v2), some (.ref c3), none, none, none] [.int (-2 : Int32)] (aw_s I L D) rfl (z_iret d_AW_mend_31 rfl rfl (h1 q1)))) (fun q2 => (s_AW_mend_17.go [some (.ref 0), none, some (.int v2), some (.ref c3), none, none, none] [.ref 1] (aw_s I L D) rfl (z_callV (av := []) (st := []) ok_Sz_rowBits (Or.inl w_1232) w_882 w_883 k_Sz d_AW_mend_21 rfl (aw_lt (o := 1) rfl) rfl rfl (Nat.le_of_ble_eq_true rfl) (Nat.le_refl _) (Nat.le_refl _) (h2 q2)))))
theorem d_AW_mend_24 : decode y_AW_mend.2.1 24 = .ok (.bipush 8, 2) := by decide +kernel
theorem s_AW_mend_24 : aw_VS y_AW_mend 24 [o_c (.int (8 : Int32))] 26 := .cons (v_bipush (v := (8 : Int32)) d_AW_mend_24 (by decide +kernel)) .nil
theorem d_AW_mend_26 : decode y_AW_mend.2.1 26 = .ok (.if_icmp .le (6), 3) := by decide +kernel
theorem d_AW_mend_32 : decode y_AW_mend.2.1 32 = .ok (.aload_n 0, 1) := by decide +kernel
theorem d_AW_mend_33 : decode y_AW_mend.2.1 33 = .ok (.aload_n 3, 1) := by decide +kernel
theorem d_AW_mend_34 : decode y_AW_mend.2.1 34 = .ok (.iload_n 2, 1) := by decide +kernel
theorem d_AW_mend_35 : decode y_AW_mend.2.1 35 = .ok (.iconst (-1), 1) := by decide +kernel
theorem d_AW_mend_36 : decode y_AW_mend.2.1 36 = .ok (.iconst 0, 1) := by decide +kernel
theorem s_AW_mend_32 : aw_VS y_AW_mend 32 [o_ald 0, o_ald 3, o_ild 2, o_c (.int (-1 : Int32)), o_c (.int (0 : Int32))] 37 := .cons (v_aload_n (i := 0) d_AW_mend_32 rfl) (.cons (v_aload_n (i := 3) d_AW_mend_33 rfl) (.cons (v_iload_n (i := 2) d_AW_mend_34 rfl) (.cons (v_iconst (v := (-1 : Int32)) d_AW_mend_35 (by decide +kernel)) (.cons (v_iconst (v := (0 : Int32)) d_AW_mend_36 (by decide +kernel)) .nil))))
theorem d_AW_mend_37 : decode y_AW_mend.2.1 37 = .ok (.invokevirtual 244, 3) := by decide +kernel
theorem b_AW_mend_24 {X : aw_X} {d : Nat} {Q : Option Value → aw_H → Prop} {I : Nat → Nat → Int32} {L : Nat → Nat → Int64} {D : Nat → Nat} {v2 : Int32} {c3 : Nat} {s0 : Int32}
    (h1 : s0 ≤ (8 : Int32) → aw_m X d y_AW_harmedRow [.ref 0, .ref c3, .int v2, .int (-1 : Int32), .int (0 : Int32)] (aw_s I L D) (fun r A => aw_z X (d + 1) y_AW_mend Q 40 [some (.ref 0), none, some (.int v2), some (.ref c3), none, none, none] (r.toList ++ []) A))
    (h2 : ¬ s0 ≤ (8 : Int32) → Q (some (.int (-2 : Int32))) (aw_s I L D)) :
    aw_z X (d + 1) y_AW_mend Q 24 [some (.ref 0), none, some (.int v2), some (.ref c3), none, none, none] [.int s0] (aw_s I L D) :=
  (s_AW_mend_24.go [some (.ref 0), none, some (.int v2), some (.ref c3), none, none, none] [.int (8 : Int32), .int s0] (aw_s I L D) rfl (z_icmp_le (tgt := 32) d_AW_mend_26 rfl (fun q1 => (s_AW_mend_32.go [some (.ref 0), none, some (.int v2), some (.ref c3), none, none, none] [.int (0 : Int32), .int (-1 : Int32), .int v2, .ref c3, .ref 0] (aw_s I L D) rfl (z_callV (av := [.ref c3, .int v2, .int (-1 : Int32), .int (0 : Int32)]) (st := []) ok_AW_harmedRow (Or.inl w_1187) w_1189 w_53 k_AW d_AW_mend_37 rfl (aw_lt (o := 0) rfl) rfl rfl (Nat.le_of_ble_eq_true rfl) (Nat.le_refl _) (Nat.le_refl _) (h1 q1)))) (fun q2 => (s_AW_mend_29.go [some (.ref 0), none, some (.int v2), some (.ref c3), none, none, none] [.int (-2 : Int32)] (aw_s I L D) rfl (z_iret d_AW_mend_31 rfl rfl (h2 q2))))))
theorem d_AW_mend_40 : decode y_AW_mend.2.1 40 = .ok (.istore 4, 2) := by decide +kernel
theorem d_AW_mend_42 : decode y_AW_mend.2.1 42 = .ok (.iload 4, 2) := by decide +kernel
theorem d_AW_mend_44 : decode y_AW_mend.2.1 44 = .ok (.iconst (-1), 1) := by decide +kernel
theorem s_AW_mend_40 : aw_VS y_AW_mend 40 [o_ist 4, o_ild 4, o_c (.int (-1 : Int32))] 45 := .cons (v_istore d_AW_mend_40) (.cons (v_iload (i := 4) d_AW_mend_42) (.cons (v_iconst (v := (-1 : Int32)) d_AW_mend_44 (by decide +kernel)) .nil))
theorem d_AW_mend_45 : decode y_AW_mend.2.1 45 = .ok (.if_icmp .ne (5), 3) := by decide +kernel
theorem d_AW_mend_50 : decode y_AW_mend.2.1 50 = .ok (.iconst 0, 1) := by decide +kernel
theorem d_AW_mend_51 : decode y_AW_mend.2.1 51 = .ok (.istore 5, 2) := by decide +kernel
theorem s_AW_mend_50 : aw_VS y_AW_mend 50 [o_c (.int (0 : Int32)), o_ist 5] 53 := .cons (v_iconst (v := (0 : Int32)) d_AW_mend_50 (by decide +kernel)) (.cons (v_istore d_AW_mend_51) .nil)
theorem d_AW_mend_48 : decode y_AW_mend.2.1 48 = .ok (.iconst (-1), 1) := by decide +kernel
theorem s_AW_mend_48 : aw_VS y_AW_mend 48 [o_c (.int (-1 : Int32))] 49 := .cons (v_iconst (v := (-1 : Int32)) d_AW_mend_48 (by decide +kernel)) .nil
theorem d_AW_mend_49 : decode y_AW_mend.2.1 49 = .ok (.ireturn, 1) := by decide +kernel
theorem b_AW_mend_40 {X : aw_X} {d : Nat} {Q : Option Value → aw_H → Prop} {I : Nat → Nat → Int32} {L : Nat → Nat → Int64} {D : Nat → Nat} {v2 : Int32} {c3 : Nat} {s0 : Int32}
    (h1 : ¬ s0 = (-1 : Int32) → aw_z X (d + 1) y_AW_mend Q 53 [some (.ref 0), none, some (.int v2), some (.ref c3), some (.int s0), some (.int (0 : Int32)), none] [] (aw_s I L D))
    (h2 : s0 = (-1 : Int32) → Q (some (.int (-1 : Int32))) (aw_s I L D)) :
    aw_z X (d + 1) y_AW_mend Q 40 [some (.ref 0), none, some (.int v2), some (.ref c3), none, none, none] [.int s0] (aw_s I L D) :=
  (s_AW_mend_40.go [some (.ref 0), none, some (.int v2), some (.ref c3), some (.int s0), none, none] [.int (-1 : Int32), .int s0] (aw_s I L D) rfl (z_icmp_ne (tgt := 50) d_AW_mend_45 rfl (fun q1 => (s_AW_mend_50.go [some (.ref 0), none, some (.int v2), some (.ref c3), some (.int s0), some (.int (0 : Int32)), none] [] (aw_s I L D) rfl (h1 q1))) (fun q2 => (s_AW_mend_48.go [some (.ref 0), none, some (.int v2), some (.ref c3), some (.int s0), none, none] [.int (-1 : Int32)] (aw_s I L D) rfl (z_iret d_AW_mend_49 rfl rfl (h2 q2))))))
theorem d_AW_mend_53 : decode y_AW_mend.2.1 53 = .ok (.iload 5, 2) := by decide +kernel
theorem d_AW_mend_55 : decode y_AW_mend.2.1 55 = .ok (.aload_n 3, 1) := by decide +kernel
theorem d_AW_mend_56 : decode y_AW_mend.2.1 56 = .ok (.getfield 274, 3) := by decide +kernel
theorem s_AW_mend_53 : aw_VS y_AW_mend 53 [o_ild 5, o_ald 3, o_getI 6 8] 59 := .cons (v_iload (i := 5) d_AW_mend_53) (.cons (v_aload_n (i := 3) d_AW_mend_55 rfl) (.cons (v_getI (k := 8) k_Cd (by decide) (Or.inl rfl) (Or.inr ⟨"AllWays", w_398⟩) d_AW_mend_56) .nil))
theorem d_AW_mend_59 : decode y_AW_mend.2.1 59 = .ok (.if_icmp .ge (36), 3) := by decide +kernel
theorem d_AW_mend_95 : decode y_AW_mend.2.1 95 = .ok (.iconst (-1), 1) := by decide +kernel
theorem s_AW_mend_95 : aw_VS y_AW_mend 95 [o_c (.int (-1 : Int32))] 96 := .cons (v_iconst (v := (-1 : Int32)) d_AW_mend_95 (by decide +kernel)) .nil
theorem d_AW_mend_96 : decode y_AW_mend.2.1 96 = .ok (.ireturn, 1) := by decide +kernel
theorem d_AW_mend_62 : decode y_AW_mend.2.1 62 = .ok (.aload_n 0, 1) := by decide +kernel
theorem d_AW_mend_63 : decode y_AW_mend.2.1 63 = .ok (.aload_n 3, 1) := by decide +kernel
theorem d_AW_mend_64 : decode y_AW_mend.2.1 64 = .ok (.iload 5, 2) := by decide +kernel
theorem d_AW_mend_66 : decode y_AW_mend.2.1 66 = .ok (.iload_n 2, 1) := by decide +kernel
theorem d_AW_mend_67 : decode y_AW_mend.2.1 67 = .ok (.iload 4, 2) := by decide +kernel
theorem s_AW_mend_62 : aw_VS y_AW_mend 62 [o_ald 0, o_ald 3, o_ild 5, o_ild 2, o_ild 4] 69 := .cons (v_aload_n (i := 0) d_AW_mend_62 rfl) (.cons (v_aload_n (i := 3) d_AW_mend_63 rfl) (.cons (v_iload (i := 5) d_AW_mend_64) (.cons (v_iload_n (i := 2) d_AW_mend_66 rfl) (.cons (v_iload (i := 4) d_AW_mend_67) .nil))))
theorem d_AW_mend_69 : decode y_AW_mend.2.1 69 = .ok (.invokevirtual 277, 3) := by decide +kernel
theorem b_AW_mend_53 {X : aw_X} {d : Nat} {Q : Option Value → aw_H → Prop} {I : Nat → Nat → Int32} {L : Nat → Nat → Int64} {D : Nat → Nat} {v2 : Int32} {c3 : Nat} {v4 : Int32} {v5 : Int32} (hc3 : c3 ∈ aw_codes)
    (h1 : (I c3 8) ≤ v5 → Q (some (.int (-1 : Int32))) (aw_s I L D))
    (h2 : ¬ (I c3 8) ≤ v5 → aw_m X d y_AW_mendingValue [.ref 0, .ref c3, .int v5, .int v2, .int v4] (aw_s I L D) (fun r A => aw_z X (d + 1) y_AW_mend Q 72 [some (.ref 0), none, some (.int v2), some (.ref c3), some (.int v4), some (.int v5), none] (r.toList ++ []) A)) :
    aw_z X (d + 1) y_AW_mend Q 53 [some (.ref 0), none, some (.int v2), some (.ref c3), some (.int v4), some (.int v5), none] [] (aw_s I L D) := by
  simp only [aw_codes, List.mem_cons, List.not_mem_nil, or_false] at hc3
  rcases hc3 with rfl | rfl | rfl | rfl | rfl | rfl
  · exact (s_AW_mend_53.go [some (.ref 0), none, some (.int v2), some (.ref 30), some (.int v4), some (.int v5), none] [.int (I 30 8), .int v5] (aw_s I L D) rfl (z_icmp_ge (tgt := 95) d_AW_mend_59 rfl (fun q1 => (s_AW_mend_95.go [some (.ref 0), none, some (.int v2), some (.ref 30), some (.int v4), some (.int v5), none] [.int (-1 : Int32)] (aw_s I L D) rfl (z_iret d_AW_mend_96 rfl rfl (h1 q1)))) (fun q2 => (s_AW_mend_62.go [some (.ref 0), none, some (.int v2), some (.ref 30), some (.int v4), some (.int v5), none] [.int v4, .int v2, .int v5, .ref 30, .ref 0] (aw_s I L D) rfl (z_callV (av := [.ref 30, .int v5, .int v2, .int v4]) (st := []) ok_AW_mendingValue (Or.inl w_1233) w_1235 w_56 k_AW d_AW_mend_69 rfl (aw_lt (o := 0) rfl) rfl rfl (Nat.le_of_ble_eq_true rfl) (Nat.le_refl _) (Nat.le_refl _) (h2 q2))))))
  · exact (s_AW_mend_53.go [some (.ref 0), none, some (.int v2), some (.ref 35), some (.int v4), some (.int v5), none] [.int (I 35 8), .int v5] (aw_s I L D) rfl (z_icmp_ge (tgt := 95) d_AW_mend_59 rfl (fun q1 => (s_AW_mend_95.go [some (.ref 0), none, some (.int v2), some (.ref 35), some (.int v4), some (.int v5), none] [.int (-1 : Int32)] (aw_s I L D) rfl (z_iret d_AW_mend_96 rfl rfl (h1 q1)))) (fun q2 => (s_AW_mend_62.go [some (.ref 0), none, some (.int v2), some (.ref 35), some (.int v4), some (.int v5), none] [.int v4, .int v2, .int v5, .ref 35, .ref 0] (aw_s I L D) rfl (z_callV (av := [.ref 35, .int v5, .int v2, .int v4]) (st := []) ok_AW_mendingValue (Or.inl w_1233) w_1235 w_56 k_AW d_AW_mend_69 rfl (aw_lt (o := 0) rfl) rfl rfl (Nat.le_of_ble_eq_true rfl) (Nat.le_refl _) (Nat.le_refl _) (h2 q2))))))
  · exact (s_AW_mend_53.go [some (.ref 0), none, some (.int v2), some (.ref 40), some (.int v4), some (.int v5), none] [.int (I 40 8), .int v5] (aw_s I L D) rfl (z_icmp_ge (tgt := 95) d_AW_mend_59 rfl (fun q1 => (s_AW_mend_95.go [some (.ref 0), none, some (.int v2), some (.ref 40), some (.int v4), some (.int v5), none] [.int (-1 : Int32)] (aw_s I L D) rfl (z_iret d_AW_mend_96 rfl rfl (h1 q1)))) (fun q2 => (s_AW_mend_62.go [some (.ref 0), none, some (.int v2), some (.ref 40), some (.int v4), some (.int v5), none] [.int v4, .int v2, .int v5, .ref 40, .ref 0] (aw_s I L D) rfl (z_callV (av := [.ref 40, .int v5, .int v2, .int v4]) (st := []) ok_AW_mendingValue (Or.inl w_1233) w_1235 w_56 k_AW d_AW_mend_69 rfl (aw_lt (o := 0) rfl) rfl rfl (Nat.le_of_ble_eq_true rfl) (Nat.le_refl _) (Nat.le_refl _) (h2 q2))))))
  · exact (s_AW_mend_53.go [some (.ref 0), none, some (.int v2), some (.ref 45), some (.int v4), some (.int v5), none] [.int (I 45 8), .int v5] (aw_s I L D) rfl (z_icmp_ge (tgt := 95) d_AW_mend_59 rfl (fun q1 => (s_AW_mend_95.go [some (.ref 0), none, some (.int v2), some (.ref 45), some (.int v4), some (.int v5), none] [.int (-1 : Int32)] (aw_s I L D) rfl (z_iret d_AW_mend_96 rfl rfl (h1 q1)))) (fun q2 => (s_AW_mend_62.go [some (.ref 0), none, some (.int v2), some (.ref 45), some (.int v4), some (.int v5), none] [.int v4, .int v2, .int v5, .ref 45, .ref 0] (aw_s I L D) rfl (z_callV (av := [.ref 45, .int v5, .int v2, .int v4]) (st := []) ok_AW_mendingValue (Or.inl w_1233) w_1235 w_56 k_AW d_AW_mend_69 rfl (aw_lt (o := 0) rfl) rfl rfl (Nat.le_of_ble_eq_true rfl) (Nat.le_refl _) (Nat.le_refl _) (h2 q2))))))
  · exact (s_AW_mend_53.go [some (.ref 0), none, some (.int v2), some (.ref 50), some (.int v4), some (.int v5), none] [.int (I 50 8), .int v5] (aw_s I L D) rfl (z_icmp_ge (tgt := 95) d_AW_mend_59 rfl (fun q1 => (s_AW_mend_95.go [some (.ref 0), none, some (.int v2), some (.ref 50), some (.int v4), some (.int v5), none] [.int (-1 : Int32)] (aw_s I L D) rfl (z_iret d_AW_mend_96 rfl rfl (h1 q1)))) (fun q2 => (s_AW_mend_62.go [some (.ref 0), none, some (.int v2), some (.ref 50), some (.int v4), some (.int v5), none] [.int v4, .int v2, .int v5, .ref 50, .ref 0] (aw_s I L D) rfl (z_callV (av := [.ref 50, .int v5, .int v2, .int v4]) (st := []) ok_AW_mendingValue (Or.inl w_1233) w_1235 w_56 k_AW d_AW_mend_69 rfl (aw_lt (o := 0) rfl) rfl rfl (Nat.le_of_ble_eq_true rfl) (Nat.le_refl _) (Nat.le_refl _) (h2 q2))))))
  · exact (s_AW_mend_53.go [some (.ref 0), none, some (.int v2), some (.ref 55), some (.int v4), some (.int v5), none] [.int (I 55 8), .int v5] (aw_s I L D) rfl (z_icmp_ge (tgt := 95) d_AW_mend_59 rfl (fun q1 => (s_AW_mend_95.go [some (.ref 0), none, some (.int v2), some (.ref 55), some (.int v4), some (.int v5), none] [.int (-1 : Int32)] (aw_s I L D) rfl (z_iret d_AW_mend_96 rfl rfl (h1 q1)))) (fun q2 => (s_AW_mend_62.go [some (.ref 0), none, some (.int v2), some (.ref 55), some (.int v4), some (.int v5), none] [.int v4, .int v2, .int v5, .ref 55, .ref 0] (aw_s I L D) rfl (z_callV (av := [.ref 55, .int v5, .int v2, .int v4]) (st := []) ok_AW_mendingValue (Or.inl w_1233) w_1235 w_56 k_AW d_AW_mend_69 rfl (aw_lt (o := 0) rfl) rfl rfl (Nat.le_of_ble_eq_true rfl) (Nat.le_refl _) (Nat.le_refl _) (h2 q2))))))
theorem d_AW_mend_72 : decode y_AW_mend.2.1 72 = .ok (.istore 6, 2) := by decide +kernel
theorem d_AW_mend_74 : decode y_AW_mend.2.1 74 = .ok (.iload 6, 2) := by decide +kernel
theorem d_AW_mend_76 : decode y_AW_mend.2.1 76 = .ok (.iconst (-1), 1) := by decide +kernel
theorem s_AW_mend_72 : aw_VS y_AW_mend 72 [o_ist 6, o_ild 6, o_c (.int (-1 : Int32))] 77 := .cons (v_istore d_AW_mend_72) (.cons (v_iload (i := 6) d_AW_mend_74) (.cons (v_iconst (v := (-1 : Int32)) d_AW_mend_76 (by decide +kernel)) .nil))
theorem d_AW_mend_77 : decode y_AW_mend.2.1 77 = .ok (.if_icmp .eq (12), 3) := by decide +kernel
theorem d_AW_mend_89 : decode y_AW_mend.2.1 89 = .ok (.iinc 5 (1), 3) := by decide +kernel
theorem s_AW_mend_89 : aw_VS y_AW_mend 89 [o_inc 5 (1 : Int32)] 92 := .cons (v_iinc (k0 := (1 : Int32)) d_AW_mend_89 (by decide +kernel)) .nil
theorem d_AW_mend_92 : decode y_AW_mend.2.1 92 = .ok (.goto (-39), 3) := by decide +kernel
theorem d_AW_mend_80 : decode y_AW_mend.2.1 80 = .ok (.aload_n 0, 1) := by decide +kernel
theorem d_AW_mend_81 : decode y_AW_mend.2.1 81 = .ok (.iload 6, 2) := by decide +kernel
theorem d_AW_mend_83 : decode y_AW_mend.2.1 83 = .ok (.putfield 82, 3) := by decide +kernel
theorem d_AW_mend_86 : decode y_AW_mend.2.1 86 = .ok (.iload 5, 2) := by decide +kernel
theorem s_AW_mend_80 : aw_VS y_AW_mend 80 [o_ald 0, o_ild 6, o_putI 0 15, o_ild 5] 88 := .cons (v_aload_n (i := 0) d_AW_mend_80 rfl) (.cons (v_iload (i := 6) d_AW_mend_81) (.cons (v_putI (k := 15) k_AW (by decide) rfl (Or.inl ⟨rfl, Or.inl w_505⟩) d_AW_mend_83) (.cons (v_iload (i := 5) d_AW_mend_86) .nil)))
theorem d_AW_mend_88 : decode y_AW_mend.2.1 88 = .ok (.ireturn, 1) := by decide +kernel
theorem b_AW_mend_72 {X : aw_X} {d : Nat} {Q : Option Value → aw_H → Prop} {I : Nat → Nat → Int32} {L : Nat → Nat → Int64} {D : Nat → Nat} {v2 : Int32} {c3 : Nat} {v4 : Int32} {v5 : Int32} {s0 : Int32}
    (h1 : s0 = (-1 : Int32) → aw_z X (d + 1) y_AW_mend Q 53 [some (.ref 0), none, some (.int v2), some (.ref c3), some (.int v4), some (.int (v5 + (1 : Int32))), none] [] (aw_s I L D))
    (h2 : ¬ s0 = (-1 : Int32) → Q (some (.int v5)) (aw_s (aw_u I 0 15 s0) L D)) :
    aw_z X (d + 1) y_AW_mend Q 72 [some (.ref 0), none, some (.int v2), some (.ref c3), some (.int v4), some (.int v5), none] [.int s0] (aw_s I L D) :=
  (s_AW_mend_72.go [some (.ref 0), none, some (.int v2), some (.ref c3), some (.int v4), some (.int v5), some (.int s0)] [.int (-1 : Int32), .int s0] (aw_s I L D) rfl (z_icmp_eq (tgt := 89) d_AW_mend_77 rfl (fun q1 => (s_AW_mend_89.go [some (.ref 0), none, some (.int v2), some (.ref c3), some (.int v4), some (.int (v5 + (1 : Int32))), some (.int s0)] [] (aw_s I L D) rfl (z_goto (tgt := 53) d_AW_mend_92 rfl (aw_Z.weak (ls' := [some (.ref 0), none, some (.int v2), some (.ref c3), some (.int v4), some (.int (v5 + (1 : Int32))), none]) (h1 q1) (Nat.le_of_ble_eq_true rfl) ⟨Or.inr rfl, ⟨Or.inl rfl, ⟨Or.inr rfl, ⟨Or.inr rfl, ⟨Or.inr rfl, ⟨Or.inr rfl, ⟨Or.inl rfl, trivial⟩⟩⟩⟩⟩⟩⟩)))) (fun q2 => (s_AW_mend_80.go [some (.ref 0), none, some (.int v2), some (.ref c3), some (.int v4), some (.int v5), some (.int s0)] [.int v5] (aw_s (aw_u I 0 15 s0) L D) rfl (z_iret d_AW_mend_88 rfl rfl (h2 q2))))))
/-! AW_mendingValue -/
theorem d_AW_mendingValue_0 : decode y_AW_mendingValue.2.1 0 = .ok (.aload_n 1, 1) := by decide +kernel
theorem d_AW_mendingValue_1 : decode y_AW_mendingValue.2.1 1 = .ok (.iload_n 2, 1) := by decide +kernel
theorem s_AW_mendingValue_0 : aw_VS y_AW_mendingValue 0 [o_ald 1, o_ild 2] 2 := .cons (v_aload_n (i := 1) d_AW_mendingValue_0 rfl) (.cons (v_iload_n (i := 2) d_AW_mendingValue_1 rfl) .nil)
theorem d_AW_mendingValue_2 : decode y_AW_mendingValue.2.1 2 = .ok (.invokevirtual 330, 3) := by decide +kernel
theorem b_AW_mendingValue_0 {X : aw_X} {d : Nat} {Q : Option Value → aw_H → Prop} {I : Nat → Nat → Int32} {L : Nat → Nat → Int64} {D : Nat → Nat} {c1 : Nat} {v2 : Int32} {v3 : Int32} {v4 : Int32} (hc1 : c1 ∈ aw_codes)
    (h1 : aw_m X d y_Cd_numberPlace [.ref c1, .int v2] (aw_s I L D) (fun r A => aw_z X (d + 1) y_AW_mendingValue Q 5 [some (.ref 0), some (.ref c1), none, some (.int v3), some (.int v4), none, none, none, none, none, none] (r.toList ++ []) A)) :
    aw_z X (d + 1) y_AW_mendingValue Q 0 [some (.ref 0), some (.ref c1), some (.int v2), some (.int v3), some (.int v4), none, none, none, none, none, none] [] (aw_s I L D) := by
  simp only [aw_codes, List.mem_cons, List.not_mem_nil, or_false] at hc1
  rcases hc1 with rfl | rfl | rfl | rfl | rfl | rfl
  · exact (s_AW_mendingValue_0.go [some (.ref 0), some (.ref 30), some (.int v2), some (.int v3), some (.int v4), none, none, none, none, none, none] [.int v2, .ref 30] (aw_s I L D) rfl (z_callV (av := [.int v2]) (st := []) ok_Cd_numberPlace (Or.inl w_1237) w_1238 w_1239 k_Cd d_AW_mendingValue_2 rfl (aw_lt (o := 30) rfl) rfl rfl (Nat.le_of_ble_eq_true rfl) (Nat.le_refl _) (Nat.le_refl _) (aw_C.mono (h1) (fun _ _ zz => aw_Z.weak (ls' := [some (.ref 0), some (.ref 30), none, some (.int v3), some (.int v4), none, none, none, none, none, none]) zz (Nat.le_of_ble_eq_true rfl) ⟨Or.inr rfl, ⟨Or.inr rfl, ⟨Or.inl rfl, ⟨Or.inr rfl, ⟨Or.inr rfl, ⟨Or.inl rfl, ⟨Or.inl rfl, ⟨Or.inl rfl, ⟨Or.inl rfl, ⟨Or.inl rfl, ⟨Or.inl rfl, trivial⟩⟩⟩⟩⟩⟩⟩⟩⟩⟩⟩))))
  · exact (s_AW_mendingValue_0.go [some (.ref 0), some (.ref 35), some (.int v2), some (.int v3), some (.int v4), none, none, none, none, none, none] [.int v2, .ref 35] (aw_s I L D) rfl (z_callV (av := [.int v2]) (st := []) ok_Cd_numberPlace (Or.inl w_1237) w_1238 w_1239 k_Cd d_AW_mendingValue_2 rfl (aw_lt (o := 35) rfl) rfl rfl (Nat.le_of_ble_eq_true rfl) (Nat.le_refl _) (Nat.le_refl _) (aw_C.mono (h1) (fun _ _ zz => aw_Z.weak (ls' := [some (.ref 0), some (.ref 35), none, some (.int v3), some (.int v4), none, none, none, none, none, none]) zz (Nat.le_of_ble_eq_true rfl) ⟨Or.inr rfl, ⟨Or.inr rfl, ⟨Or.inl rfl, ⟨Or.inr rfl, ⟨Or.inr rfl, ⟨Or.inl rfl, ⟨Or.inl rfl, ⟨Or.inl rfl, ⟨Or.inl rfl, ⟨Or.inl rfl, ⟨Or.inl rfl, trivial⟩⟩⟩⟩⟩⟩⟩⟩⟩⟩⟩))))
  · exact (s_AW_mendingValue_0.go [some (.ref 0), some (.ref 40), some (.int v2), some (.int v3), some (.int v4), none, none, none, none, none, none] [.int v2, .ref 40] (aw_s I L D) rfl (z_callV (av := [.int v2]) (st := []) ok_Cd_numberPlace (Or.inl w_1237) w_1238 w_1239 k_Cd d_AW_mendingValue_2 rfl (aw_lt (o := 40) rfl) rfl rfl (Nat.le_of_ble_eq_true rfl) (Nat.le_refl _) (Nat.le_refl _) (aw_C.mono (h1) (fun _ _ zz => aw_Z.weak (ls' := [some (.ref 0), some (.ref 40), none, some (.int v3), some (.int v4), none, none, none, none, none, none]) zz (Nat.le_of_ble_eq_true rfl) ⟨Or.inr rfl, ⟨Or.inr rfl, ⟨Or.inl rfl, ⟨Or.inr rfl, ⟨Or.inr rfl, ⟨Or.inl rfl, ⟨Or.inl rfl, ⟨Or.inl rfl, ⟨Or.inl rfl, ⟨Or.inl rfl, ⟨Or.inl rfl, trivial⟩⟩⟩⟩⟩⟩⟩⟩⟩⟩⟩))))
  · exact (s_AW_mendingValue_0.go [some (.ref 0), some (.ref 45), some (.int v2), some (.int v3), some (.int v4), none, none, none, none, none, none] [.int v2, .ref 45] (aw_s I L D) rfl (z_callV (av := [.int v2]) (st := []) ok_Cd_numberPlace (Or.inl w_1237) w_1238 w_1239 k_Cd d_AW_mendingValue_2 rfl (aw_lt (o := 45) rfl) rfl rfl (Nat.le_of_ble_eq_true rfl) (Nat.le_refl _) (Nat.le_refl _) (aw_C.mono (h1) (fun _ _ zz => aw_Z.weak (ls' := [some (.ref 0), some (.ref 45), none, some (.int v3), some (.int v4), none, none, none, none, none, none]) zz (Nat.le_of_ble_eq_true rfl) ⟨Or.inr rfl, ⟨Or.inr rfl, ⟨Or.inl rfl, ⟨Or.inr rfl, ⟨Or.inr rfl, ⟨Or.inl rfl, ⟨Or.inl rfl, ⟨Or.inl rfl, ⟨Or.inl rfl, ⟨Or.inl rfl, ⟨Or.inl rfl, trivial⟩⟩⟩⟩⟩⟩⟩⟩⟩⟩⟩))))
  · exact (s_AW_mendingValue_0.go [some (.ref 0), some (.ref 50), some (.int v2), some (.int v3), some (.int v4), none, none, none, none, none, none] [.int v2, .ref 50] (aw_s I L D) rfl (z_callV (av := [.int v2]) (st := []) ok_Cd_numberPlace (Or.inl w_1237) w_1238 w_1239 k_Cd d_AW_mendingValue_2 rfl (aw_lt (o := 50) rfl) rfl rfl (Nat.le_of_ble_eq_true rfl) (Nat.le_refl _) (Nat.le_refl _) (aw_C.mono (h1) (fun _ _ zz => aw_Z.weak (ls' := [some (.ref 0), some (.ref 50), none, some (.int v3), some (.int v4), none, none, none, none, none, none]) zz (Nat.le_of_ble_eq_true rfl) ⟨Or.inr rfl, ⟨Or.inr rfl, ⟨Or.inl rfl, ⟨Or.inr rfl, ⟨Or.inr rfl, ⟨Or.inl rfl, ⟨Or.inl rfl, ⟨Or.inl rfl, ⟨Or.inl rfl, ⟨Or.inl rfl, ⟨Or.inl rfl, trivial⟩⟩⟩⟩⟩⟩⟩⟩⟩⟩⟩))))
  · exact (s_AW_mendingValue_0.go [some (.ref 0), some (.ref 55), some (.int v2), some (.int v3), some (.int v4), none, none, none, none, none, none] [.int v2, .ref 55] (aw_s I L D) rfl (z_callV (av := [.int v2]) (st := []) ok_Cd_numberPlace (Or.inl w_1237) w_1238 w_1239 k_Cd d_AW_mendingValue_2 rfl (aw_lt (o := 55) rfl) rfl rfl (Nat.le_of_ble_eq_true rfl) (Nat.le_refl _) (Nat.le_refl _) (aw_C.mono (h1) (fun _ _ zz => aw_Z.weak (ls' := [some (.ref 0), some (.ref 55), none, some (.int v3), some (.int v4), none, none, none, none, none, none]) zz (Nat.le_of_ble_eq_true rfl) ⟨Or.inr rfl, ⟨Or.inr rfl, ⟨Or.inl rfl, ⟨Or.inr rfl, ⟨Or.inr rfl, ⟨Or.inl rfl, ⟨Or.inl rfl, ⟨Or.inl rfl, ⟨Or.inl rfl, ⟨Or.inl rfl, ⟨Or.inl rfl, trivial⟩⟩⟩⟩⟩⟩⟩⟩⟩⟩⟩))))
theorem d_AW_mendingValue_5 : decode y_AW_mendingValue.2.1 5 = .ok (.istore 5, 2) := by decide +kernel
theorem d_AW_mendingValue_7 : decode y_AW_mendingValue.2.1 7 = .ok (.aload_n 1, 1) := by decide +kernel
theorem d_AW_mendingValue_8 : decode y_AW_mendingValue.2.1 8 = .ok (.iload 5, 2) := by decide +kernel
theorem s_AW_mendingValue_5 : aw_VS y_AW_mendingValue 5 [o_ist 5, o_ald 1, o_ild 5] 10 := .cons (v_istore d_AW_mendingValue_5) (.cons (v_aload_n (i := 1) d_AW_mendingValue_7 rfl) (.cons (v_iload (i := 5) d_AW_mendingValue_8) .nil))
theorem d_AW_mendingValue_10 : decode y_AW_mendingValue.2.1 10 = .ok (.invokevirtual 333, 3) := by decide +kernel
theorem b_AW_mendingValue_5 {X : aw_X} {d : Nat} {Q : Option Value → aw_H → Prop} {I : Nat → Nat → Int32} {L : Nat → Nat → Int64} {D : Nat → Nat} {c1 : Nat} {v3 : Int32} {v4 : Int32} {s0 : Int32} (hc1 : c1 ∈ aw_codes)
    (h1 : aw_m X d y_Cd_argAt [.ref c1, .int s0] (aw_s I L D) (fun r A => aw_z X (d + 1) y_AW_mendingValue Q 13 [some (.ref 0), some (.ref c1), none, some (.int v3), some (.int v4), some (.int s0), none, none, none, none, none] (r.toList ++ []) A)) :
    aw_z X (d + 1) y_AW_mendingValue Q 5 [some (.ref 0), some (.ref c1), none, some (.int v3), some (.int v4), none, none, none, none, none, none] [.int s0] (aw_s I L D) := by
  simp only [aw_codes, List.mem_cons, List.not_mem_nil, or_false] at hc1
  rcases hc1 with rfl | rfl | rfl | rfl | rfl | rfl
  · exact (s_AW_mendingValue_5.go [some (.ref 0), some (.ref 30), none, some (.int v3), some (.int v4), some (.int s0), none, none, none, none, none] [.int s0, .ref 30] (aw_s I L D) rfl (z_callV (av := [.int s0]) (st := []) ok_Cd_argAt (Or.inl w_1242) w_919 w_920 k_Cd d_AW_mendingValue_10 rfl (aw_lt (o := 30) rfl) rfl rfl (Nat.le_of_ble_eq_true rfl) (Nat.le_refl _) (Nat.le_refl _) (h1)))
  · exact (s_AW_mendingValue_5.go [some (.ref 0), some (.ref 35), none, some (.int v3), some (.int v4), some (.int s0), none, none, none, none, none] [.int s0, .ref 35] (aw_s I L D) rfl (z_callV (av := [.int s0]) (st := []) ok_Cd_argAt (Or.inl w_1242) w_919 w_920 k_Cd d_AW_mendingValue_10 rfl (aw_lt (o := 35) rfl) rfl rfl (Nat.le_of_ble_eq_true rfl) (Nat.le_refl _) (Nat.le_refl _) (h1)))
  · exact (s_AW_mendingValue_5.go [some (.ref 0), some (.ref 40), none, some (.int v3), some (.int v4), some (.int s0), none, none, none, none, none] [.int s0, .ref 40] (aw_s I L D) rfl (z_callV (av := [.int s0]) (st := []) ok_Cd_argAt (Or.inl w_1242) w_919 w_920 k_Cd d_AW_mendingValue_10 rfl (aw_lt (o := 40) rfl) rfl rfl (Nat.le_of_ble_eq_true rfl) (Nat.le_refl _) (Nat.le_refl _) (h1)))
  · exact (s_AW_mendingValue_5.go [some (.ref 0), some (.ref 45), none, some (.int v3), some (.int v4), some (.int s0), none, none, none, none, none] [.int s0, .ref 45] (aw_s I L D) rfl (z_callV (av := [.int s0]) (st := []) ok_Cd_argAt (Or.inl w_1242) w_919 w_920 k_Cd d_AW_mendingValue_10 rfl (aw_lt (o := 45) rfl) rfl rfl (Nat.le_of_ble_eq_true rfl) (Nat.le_refl _) (Nat.le_refl _) (h1)))
  · exact (s_AW_mendingValue_5.go [some (.ref 0), some (.ref 50), none, some (.int v3), some (.int v4), some (.int s0), none, none, none, none, none] [.int s0, .ref 50] (aw_s I L D) rfl (z_callV (av := [.int s0]) (st := []) ok_Cd_argAt (Or.inl w_1242) w_919 w_920 k_Cd d_AW_mendingValue_10 rfl (aw_lt (o := 50) rfl) rfl rfl (Nat.le_of_ble_eq_true rfl) (Nat.le_refl _) (Nat.le_refl _) (h1)))
  · exact (s_AW_mendingValue_5.go [some (.ref 0), some (.ref 55), none, some (.int v3), some (.int v4), some (.int s0), none, none, none, none, none] [.int s0, .ref 55] (aw_s I L D) rfl (z_callV (av := [.int s0]) (st := []) ok_Cd_argAt (Or.inl w_1242) w_919 w_920 k_Cd d_AW_mendingValue_10 rfl (aw_lt (o := 55) rfl) rfl rfl (Nat.le_of_ble_eq_true rfl) (Nat.le_refl _) (Nat.le_refl _) (h1)))
theorem d_AW_mendingValue_13 : decode y_AW_mendingValue.2.1 13 = .ok (.istore 6, 2) := by decide +kernel
theorem d_AW_mendingValue_15 : decode y_AW_mendingValue.2.1 15 = .ok (.iload 4, 2) := by decide +kernel
theorem d_AW_mendingValue_17 : decode y_AW_mendingValue.2.1 17 = .ok (.istore 7, 2) := by decide +kernel
theorem d_AW_mendingValue_19 : decode y_AW_mendingValue.2.1 19 = .ok (.iconst (-1), 1) := by decide +kernel
theorem d_AW_mendingValue_20 : decode y_AW_mendingValue.2.1 20 = .ok (.istore 8, 2) := by decide +kernel
theorem d_AW_mendingValue_22 : decode y_AW_mendingValue.2.1 22 = .ok (.iconst 0, 1) := by decide +kernel
theorem d_AW_mendingValue_23 : decode y_AW_mendingValue.2.1 23 = .ok (.istore 9, 2) := by decide +kernel
theorem s_AW_mendingValue_13 : aw_VS y_AW_mendingValue 13 [o_ist 6, o_ild 4, o_ist 7, o_c (.int (-1 : Int32)), o_ist 8, o_c (.int (0 : Int32)), o_ist 9] 25 := .cons (v_istore d_AW_mendingValue_13) (.cons (v_iload (i := 4) d_AW_mendingValue_15) (.cons (v_istore d_AW_mendingValue_17) (.cons (v_iconst (v := (-1 : Int32)) d_AW_mendingValue_19 (by decide +kernel)) (.cons (v_istore d_AW_mendingValue_20) (.cons (v_iconst (v := (0 : Int32)) d_AW_mendingValue_22 (by decide +kernel)) (.cons (v_istore d_AW_mendingValue_23) .nil))))))
theorem b_AW_mendingValue_13 {X : aw_X} {d : Nat} {Q : Option Value → aw_H → Prop} {I : Nat → Nat → Int32} {L : Nat → Nat → Int64} {D : Nat → Nat} {c1 : Nat} {v3 : Int32} {v4 : Int32} {v5 : Int32} {s0 : Int32}
    (h1 : aw_z X (d + 1) y_AW_mendingValue Q 25 [some (.ref 0), some (.ref c1), none, some (.int v3), none, some (.int v5), some (.int s0), some (.int v4), some (.int (-1 : Int32)), some (.int (0 : Int32)), none] [] (aw_s I L D)) :
    aw_z X (d + 1) y_AW_mendingValue Q 13 [some (.ref 0), some (.ref c1), none, some (.int v3), some (.int v4), some (.int v5), none, none, none, none, none] [.int s0] (aw_s I L D) :=
  (s_AW_mendingValue_13.go [some (.ref 0), some (.ref c1), none, some (.int v3), some (.int v4), some (.int v5), some (.int s0), some (.int v4), some (.int (-1 : Int32)), some (.int (0 : Int32)), none] [] (aw_s I L D) rfl (aw_Z.weak (ls' := [some (.ref 0), some (.ref c1), none, some (.int v3), none, some (.int v5), some (.int s0), some (.int v4), some (.int (-1 : Int32)), some (.int (0 : Int32)), none]) (h1) (Nat.le_of_ble_eq_true rfl) ⟨Or.inr rfl, ⟨Or.inr rfl, ⟨Or.inl rfl, ⟨Or.inr rfl, ⟨Or.inl rfl, ⟨Or.inr rfl, ⟨Or.inr rfl, ⟨Or.inr rfl, ⟨Or.inr rfl, ⟨Or.inr rfl, ⟨Or.inl rfl, trivial⟩⟩⟩⟩⟩⟩⟩⟩⟩⟩⟩))
theorem d_AW_mendingValue_25 : decode y_AW_mendingValue.2.1 25 = .ok (.iload 9, 2) := by decide +kernel
theorem d_AW_mendingValue_27 : decode y_AW_mendingValue.2.1 27 = .ok (.aload_n 0, 1) := by decide +kernel
theorem d_AW_mendingValue_28 : decode y_AW_mendingValue.2.1 28 = .ok (.getfield 12, 3) := by decide +kernel
theorem s_AW_mendingValue_25 : aw_VS y_AW_mendingValue 25 [o_ild 9, o_ald 0, o_getA 0 0] 31 := .cons (v_iload (i := 9) d_AW_mendingValue_25) (.cons (v_aload_n (i := 0) d_AW_mendingValue_27 rfl) (.cons (v_getA (k := 0) k_AW (by decide) rfl (Or.inl w_490) d_AW_mendingValue_28) .nil))
theorem d_AW_mendingValue_31 : decode y_AW_mendingValue.2.1 31 = .ok (.invokevirtual 215, 3) := by decide +kernel
theorem b_AW_mendingValue_25 {X : aw_X} {d : Nat} {Q : Option Value → aw_H → Prop} {I : Nat → Nat → Int32} {L : Nat → Nat → Int64} {D : Nat → Nat} {c1 : Nat} {v3 : Int32} {v5 : Int32} {v6 : Int32} {v7 : Int32} {v8 : Int32} {v9 : Int32}
    (h1 : aw_m X d y_Sz_greatest [.ref 1] (aw_s I L D) (fun r A => aw_z X (d + 1) y_AW_mendingValue Q 34 [some (.ref 0), some (.ref c1), none, some (.int v3), none, some (.int v5), some (.int v6), some (.int v7), some (.int v8), some (.int v9), none] (r.toList ++ [.int v9]) A)) :
    aw_z X (d + 1) y_AW_mendingValue Q 25 [some (.ref 0), some (.ref c1), none, some (.int v3), none, some (.int v5), some (.int v6), some (.int v7), some (.int v8), some (.int v9), none] [] (aw_s I L D) :=
  (s_AW_mendingValue_25.go [some (.ref 0), some (.ref c1), none, some (.int v3), none, some (.int v5), some (.int v6), some (.int v7), some (.int v8), some (.int v9), none] [.ref 1, .int v9] (aw_s I L D) rfl (z_callV (av := []) (st := [.int v9]) ok_Sz_greatest (Or.inl w_1121) w_906 w_907 k_Sz d_AW_mendingValue_31 rfl (aw_lt (o := 1) rfl) rfl rfl (Nat.le_of_ble_eq_true rfl) (Nat.le_refl _) (Nat.le_refl _) (h1)))
theorem d_AW_mendingValue_34 : decode y_AW_mendingValue.2.1 34 = .ok (.if_icmp .gt (51), 3) := by decide +kernel
theorem d_AW_mendingValue_37 : decode y_AW_mendingValue.2.1 37 = .ok (.iload 8, 2) := by decide +kernel
theorem d_AW_mendingValue_39 : decode y_AW_mendingValue.2.1 39 = .ok (.iconst (-1), 1) := by decide +kernel
theorem s_AW_mendingValue_37 : aw_VS y_AW_mendingValue 37 [o_ild 8, o_c (.int (-1 : Int32))] 40 := .cons (v_iload (i := 8) d_AW_mendingValue_37) (.cons (v_iconst (v := (-1 : Int32)) d_AW_mendingValue_39 (by decide +kernel)) .nil)
theorem d_AW_mendingValue_40 : decode y_AW_mendingValue.2.1 40 = .ok (.if_icmp .ne (45), 3) := by decide +kernel
theorem d_AW_mendingValue_43 : decode y_AW_mendingValue.2.1 43 = .ok (.aload_n 1, 1) := by decide +kernel
theorem d_AW_mendingValue_44 : decode y_AW_mendingValue.2.1 44 = .ok (.iload 5, 2) := by decide +kernel
theorem d_AW_mendingValue_46 : decode y_AW_mendingValue.2.1 46 = .ok (.iload 9, 2) := by decide +kernel
theorem s_AW_mendingValue_43 : aw_VS y_AW_mendingValue 43 [o_ald 1, o_ild 5, o_ild 9] 48 := .cons (v_aload_n (i := 1) d_AW_mendingValue_43 rfl) (.cons (v_iload (i := 5) d_AW_mendingValue_44) (.cons (v_iload (i := 9) d_AW_mendingValue_46) .nil))
theorem d_AW_mendingValue_48 : decode y_AW_mendingValue.2.1 48 = .ok (.invokevirtual 336, 3) := by decide +kernel
theorem b_AW_mendingValue_34 {X : aw_X} {d : Nat} {Q : Option Value → aw_H → Prop} {I : Nat → Nat → Int32} {L : Nat → Nat → Int64} {D : Nat → Nat} {c1 : Nat} {v3 : Int32} {v5 : Int32} {v6 : Int32} {v7 : Int32} {v8 : Int32} {v9 : Int32} {s1 : Int32} {s0 : Int32} (hc1 : c1 ∈ aw_codes)
    (h1 : s1 < s0 → aw_z X (d + 1) y_AW_mendingValue Q 85 [none, some (.ref c1), none, none, none, some (.int v5), some (.int v6), none, some (.int v8), none, none] [] (aw_s I L D))
    (h2 : ¬ s1 < s0 → ¬ v8 = (-1 : Int32) → aw_z X (d + 1) y_AW_mendingValue Q 85 [none, some (.ref c1), none, none, none, some (.int v5), some (.int v6), none, some (.int v8), none, none] [] (aw_s I L D))
    (h3 : ¬ s1 < s0 → v8 = (-1 : Int32) → aw_m X d y_Cd_change [.ref c1, .int v5, .int v9] (aw_s I L D) (fun r A => aw_z X (d + 1) y_AW_mendingValue Q 51 [some (.ref 0), some (.ref c1), none, some (.int v3), none, some (.int v5), some (.int v6), some (.int v7), some (.int v8), some (.int v9), none] (r.toList ++ []) A)) :
    aw_z X (d + 1) y_AW_mendingValue Q 34 [some (.ref 0), some (.ref c1), none, some (.int v3), none, some (.int v5), some (.int v6), some (.int v7), some (.int v8), some (.int v9), none] [.int s1, .int s0] (aw_s I L D) := by
  simp only [aw_codes, List.mem_cons, List.not_mem_nil, or_false] at hc1
  rcases hc1 with rfl | rfl | rfl | rfl | rfl | rfl
  · exact (z_icmp_gt (tgt := 85) d_AW_mendingValue_34 rfl (fun q1 => (aw_Z.weak (ls' := [none, some (.ref 30), none, none, none, some (.int v5), some (.int v6), none, some (.int v8), none, none]) (h1 q1) (Nat.le_of_ble_eq_true rfl) ⟨Or.inl rfl, ⟨Or.inr rfl, ⟨Or.inl rfl, ⟨Or.inl rfl, ⟨Or.inl rfl, ⟨Or.inr rfl, ⟨Or.inr rfl, ⟨Or.inl rfl, ⟨Or.inr rfl, ⟨Or.inl rfl, ⟨Or.inl rfl, trivial⟩⟩⟩⟩⟩⟩⟩⟩⟩⟩⟩)) (fun q2 => (s_AW_mendingValue_37.go [some (.ref 0), some (.ref 30), none, some (.int v3), none, some (.int v5), some (.int v6), some (.int v7), some (.int v8), some (.int v9), none] [.int (-1 : Int32), .int v8] (aw_s I L D) rfl (z_icmp_ne (tgt := 85) d_AW_mendingValue_40 rfl (fun q3 => (aw_Z.weak (ls' := [none, some (.ref 30), none, none, none, some (.int v5), some (.int v6), none, some (.int v8), none, none]) (h2 q2 q3) (Nat.le_of_ble_eq_true rfl) ⟨Or.inl rfl, ⟨Or.inr rfl, ⟨Or.inl rfl, ⟨Or.inl rfl, ⟨Or.inl rfl, ⟨Or.inr rfl, ⟨Or.inr rfl, ⟨Or.inl rfl, ⟨Or.inr rfl, ⟨Or.inl rfl, ⟨Or.inl rfl, trivial⟩⟩⟩⟩⟩⟩⟩⟩⟩⟩⟩)) (fun q4 => (s_AW_mendingValue_43.go [some (.ref 0), some (.ref 30), none, some (.int v3), none, some (.int v5), some (.int v6), some (.int v7), some (.int v8), some (.int v9), none] [.int v9, .int v5, .ref 30] (aw_s I L D) rfl (z_callV (av := [.int v5, .int v9]) (st := []) ok_Cd_change (Or.inl w_1243) w_826 w_827 k_Cd d_AW_mendingValue_48 rfl (aw_lt (o := 30) rfl) rfl rfl (Nat.le_of_ble_eq_true rfl) (Nat.le_refl _) (Nat.le_refl _) (h3 q2 q4))))))))
  · exact (z_icmp_gt (tgt := 85) d_AW_mendingValue_34 rfl (fun q1 => (aw_Z.weak (ls' := [none, some (.ref 35), none, none, none, some (.int v5), some (.int v6), none, some (.int v8), none, none]) (h1 q1) (Nat.le_of_ble_eq_true rfl) ⟨Or.inl rfl, ⟨Or.inr rfl, ⟨Or.inl rfl, ⟨Or.inl rfl, ⟨Or.inl rfl, ⟨Or.inr rfl, ⟨Or.inr rfl, ⟨Or.inl rfl, ⟨Or.inr rfl, ⟨Or.inl rfl, ⟨Or.inl rfl, trivial⟩⟩⟩⟩⟩⟩⟩⟩⟩⟩⟩)) (fun q2 => (s_AW_mendingValue_37.go [some (.ref 0), some (.ref 35), none, some (.int v3), none, some (.int v5), some (.int v6), some (.int v7), some (.int v8), some (.int v9), none] [.int (-1 : Int32), .int v8] (aw_s I L D) rfl (z_icmp_ne (tgt := 85) d_AW_mendingValue_40 rfl (fun q3 => (aw_Z.weak (ls' := [none, some (.ref 35), none, none, none, some (.int v5), some (.int v6), none, some (.int v8), none, none]) (h2 q2 q3) (Nat.le_of_ble_eq_true rfl) ⟨Or.inl rfl, ⟨Or.inr rfl, ⟨Or.inl rfl, ⟨Or.inl rfl, ⟨Or.inl rfl, ⟨Or.inr rfl, ⟨Or.inr rfl, ⟨Or.inl rfl, ⟨Or.inr rfl, ⟨Or.inl rfl, ⟨Or.inl rfl, trivial⟩⟩⟩⟩⟩⟩⟩⟩⟩⟩⟩)) (fun q4 => (s_AW_mendingValue_43.go [some (.ref 0), some (.ref 35), none, some (.int v3), none, some (.int v5), some (.int v6), some (.int v7), some (.int v8), some (.int v9), none] [.int v9, .int v5, .ref 35] (aw_s I L D) rfl (z_callV (av := [.int v5, .int v9]) (st := []) ok_Cd_change (Or.inl w_1243) w_826 w_827 k_Cd d_AW_mendingValue_48 rfl (aw_lt (o := 35) rfl) rfl rfl (Nat.le_of_ble_eq_true rfl) (Nat.le_refl _) (Nat.le_refl _) (h3 q2 q4))))))))
  · exact (z_icmp_gt (tgt := 85) d_AW_mendingValue_34 rfl (fun q1 => (aw_Z.weak (ls' := [none, some (.ref 40), none, none, none, some (.int v5), some (.int v6), none, some (.int v8), none, none]) (h1 q1) (Nat.le_of_ble_eq_true rfl) ⟨Or.inl rfl, ⟨Or.inr rfl, ⟨Or.inl rfl, ⟨Or.inl rfl, ⟨Or.inl rfl, ⟨Or.inr rfl, ⟨Or.inr rfl, ⟨Or.inl rfl, ⟨Or.inr rfl, ⟨Or.inl rfl, ⟨Or.inl rfl, trivial⟩⟩⟩⟩⟩⟩⟩⟩⟩⟩⟩)) (fun q2 => (s_AW_mendingValue_37.go [some (.ref 0), some (.ref 40), none, some (.int v3), none, some (.int v5), some (.int v6), some (.int v7), some (.int v8), some (.int v9), none] [.int (-1 : Int32), .int v8] (aw_s I L D) rfl (z_icmp_ne (tgt := 85) d_AW_mendingValue_40 rfl (fun q3 => (aw_Z.weak (ls' := [none, some (.ref 40), none, none, none, some (.int v5), some (.int v6), none, some (.int v8), none, none]) (h2 q2 q3) (Nat.le_of_ble_eq_true rfl) ⟨Or.inl rfl, ⟨Or.inr rfl, ⟨Or.inl rfl, ⟨Or.inl rfl, ⟨Or.inl rfl, ⟨Or.inr rfl, ⟨Or.inr rfl, ⟨Or.inl rfl, ⟨Or.inr rfl, ⟨Or.inl rfl, ⟨Or.inl rfl, trivial⟩⟩⟩⟩⟩⟩⟩⟩⟩⟩⟩)) (fun q4 => (s_AW_mendingValue_43.go [some (.ref 0), some (.ref 40), none, some (.int v3), none, some (.int v5), some (.int v6), some (.int v7), some (.int v8), some (.int v9), none] [.int v9, .int v5, .ref 40] (aw_s I L D) rfl (z_callV (av := [.int v5, .int v9]) (st := []) ok_Cd_change (Or.inl w_1243) w_826 w_827 k_Cd d_AW_mendingValue_48 rfl (aw_lt (o := 40) rfl) rfl rfl (Nat.le_of_ble_eq_true rfl) (Nat.le_refl _) (Nat.le_refl _) (h3 q2 q4))))))))
  · exact (z_icmp_gt (tgt := 85) d_AW_mendingValue_34 rfl (fun q1 => (aw_Z.weak (ls' := [none, some (.ref 45), none, none, none, some (.int v5), some (.int v6), none, some (.int v8), none, none]) (h1 q1) (Nat.le_of_ble_eq_true rfl) ⟨Or.inl rfl, ⟨Or.inr rfl, ⟨Or.inl rfl, ⟨Or.inl rfl, ⟨Or.inl rfl, ⟨Or.inr rfl, ⟨Or.inr rfl, ⟨Or.inl rfl, ⟨Or.inr rfl, ⟨Or.inl rfl, ⟨Or.inl rfl, trivial⟩⟩⟩⟩⟩⟩⟩⟩⟩⟩⟩)) (fun q2 => (s_AW_mendingValue_37.go [some (.ref 0), some (.ref 45), none, some (.int v3), none, some (.int v5), some (.int v6), some (.int v7), some (.int v8), some (.int v9), none] [.int (-1 : Int32), .int v8] (aw_s I L D) rfl (z_icmp_ne (tgt := 85) d_AW_mendingValue_40 rfl (fun q3 => (aw_Z.weak (ls' := [none, some (.ref 45), none, none, none, some (.int v5), some (.int v6), none, some (.int v8), none, none]) (h2 q2 q3) (Nat.le_of_ble_eq_true rfl) ⟨Or.inl rfl, ⟨Or.inr rfl, ⟨Or.inl rfl, ⟨Or.inl rfl, ⟨Or.inl rfl, ⟨Or.inr rfl, ⟨Or.inr rfl, ⟨Or.inl rfl, ⟨Or.inr rfl, ⟨Or.inl rfl, ⟨Or.inl rfl, trivial⟩⟩⟩⟩⟩⟩⟩⟩⟩⟩⟩)) (fun q4 => (s_AW_mendingValue_43.go [some (.ref 0), some (.ref 45), none, some (.int v3), none, some (.int v5), some (.int v6), some (.int v7), some (.int v8), some (.int v9), none] [.int v9, .int v5, .ref 45] (aw_s I L D) rfl (z_callV (av := [.int v5, .int v9]) (st := []) ok_Cd_change (Or.inl w_1243) w_826 w_827 k_Cd d_AW_mendingValue_48 rfl (aw_lt (o := 45) rfl) rfl rfl (Nat.le_of_ble_eq_true rfl) (Nat.le_refl _) (Nat.le_refl _) (h3 q2 q4))))))))
  · exact (z_icmp_gt (tgt := 85) d_AW_mendingValue_34 rfl (fun q1 => (aw_Z.weak (ls' := [none, some (.ref 50), none, none, none, some (.int v5), some (.int v6), none, some (.int v8), none, none]) (h1 q1) (Nat.le_of_ble_eq_true rfl) ⟨Or.inl rfl, ⟨Or.inr rfl, ⟨Or.inl rfl, ⟨Or.inl rfl, ⟨Or.inl rfl, ⟨Or.inr rfl, ⟨Or.inr rfl, ⟨Or.inl rfl, ⟨Or.inr rfl, ⟨Or.inl rfl, ⟨Or.inl rfl, trivial⟩⟩⟩⟩⟩⟩⟩⟩⟩⟩⟩)) (fun q2 => (s_AW_mendingValue_37.go [some (.ref 0), some (.ref 50), none, some (.int v3), none, some (.int v5), some (.int v6), some (.int v7), some (.int v8), some (.int v9), none] [.int (-1 : Int32), .int v8] (aw_s I L D) rfl (z_icmp_ne (tgt := 85) d_AW_mendingValue_40 rfl (fun q3 => (aw_Z.weak (ls' := [none, some (.ref 50), none, none, none, some (.int v5), some (.int v6), none, some (.int v8), none, none]) (h2 q2 q3) (Nat.le_of_ble_eq_true rfl) ⟨Or.inl rfl, ⟨Or.inr rfl, ⟨Or.inl rfl, ⟨Or.inl rfl, ⟨Or.inl rfl, ⟨Or.inr rfl, ⟨Or.inr rfl, ⟨Or.inl rfl, ⟨Or.inr rfl, ⟨Or.inl rfl, ⟨Or.inl rfl, trivial⟩⟩⟩⟩⟩⟩⟩⟩⟩⟩⟩)) (fun q4 => (s_AW_mendingValue_43.go [some (.ref 0), some (.ref 50), none, some (.int v3), none, some (.int v5), some (.int v6), some (.int v7), some (.int v8), some (.int v9), none] [.int v9, .int v5, .ref 50] (aw_s I L D) rfl (z_callV (av := [.int v5, .int v9]) (st := []) ok_Cd_change (Or.inl w_1243) w_826 w_827 k_Cd d_AW_mendingValue_48 rfl (aw_lt (o := 50) rfl) rfl rfl (Nat.le_of_ble_eq_true rfl) (Nat.le_refl _) (Nat.le_refl _) (h3 q2 q4))))))))
  · exact (z_icmp_gt (tgt := 85) d_AW_mendingValue_34 rfl (fun q1 => (aw_Z.weak (ls' := [none, some (.ref 55), none, none, none, some (.int v5), some (.int v6), none, some (.int v8), none, none]) (h1 q1) (Nat.le_of_ble_eq_true rfl) ⟨Or.inl rfl, ⟨Or.inr rfl, ⟨Or.inl rfl, ⟨Or.inl rfl, ⟨Or.inl rfl, ⟨Or.inr rfl, ⟨Or.inr rfl, ⟨Or.inl rfl, ⟨Or.inr rfl, ⟨Or.inl rfl, ⟨Or.inl rfl, trivial⟩⟩⟩⟩⟩⟩⟩⟩⟩⟩⟩)) (fun q2 => (s_AW_mendingValue_37.go [some (.ref 0), some (.ref 55), none, some (.int v3), none, some (.int v5), some (.int v6), some (.int v7), some (.int v8), some (.int v9), none] [.int (-1 : Int32), .int v8] (aw_s I L D) rfl (z_icmp_ne (tgt := 85) d_AW_mendingValue_40 rfl (fun q3 => (aw_Z.weak (ls' := [none, some (.ref 55), none, none, none, some (.int v5), some (.int v6), none, some (.int v8), none, none]) (h2 q2 q3) (Nat.le_of_ble_eq_true rfl) ⟨Or.inl rfl, ⟨Or.inr rfl, ⟨Or.inl rfl, ⟨Or.inl rfl, ⟨Or.inl rfl, ⟨Or.inr rfl, ⟨Or.inr rfl, ⟨Or.inl rfl, ⟨Or.inr rfl, ⟨Or.inl rfl, ⟨Or.inl rfl, trivial⟩⟩⟩⟩⟩⟩⟩⟩⟩⟩⟩)) (fun q4 => (s_AW_mendingValue_43.go [some (.ref 0), some (.ref 55), none, some (.int v3), none, some (.int v5), some (.int v6), some (.int v7), some (.int v8), some (.int v9), none] [.int v9, .int v5, .ref 55] (aw_s I L D) rfl (z_callV (av := [.int v5, .int v9]) (st := []) ok_Cd_change (Or.inl w_1243) w_826 w_827 k_Cd d_AW_mendingValue_48 rfl (aw_lt (o := 55) rfl) rfl rfl (Nat.le_of_ble_eq_true rfl) (Nat.le_refl _) (Nat.le_refl _) (h3 q2 q4))))))))
theorem d_AW_mendingValue_85 : decode y_AW_mendingValue.2.1 85 = .ok (.aload_n 1, 1) := by decide +kernel
theorem d_AW_mendingValue_86 : decode y_AW_mendingValue.2.1 86 = .ok (.iload 5, 2) := by decide +kernel
theorem d_AW_mendingValue_88 : decode y_AW_mendingValue.2.1 88 = .ok (.iload 6, 2) := by decide +kernel
theorem s_AW_mendingValue_85 : aw_VS y_AW_mendingValue 85 [o_ald 1, o_ild 5, o_ild 6] 90 := .cons (v_aload_n (i := 1) d_AW_mendingValue_85 rfl) (.cons (v_iload (i := 5) d_AW_mendingValue_86) (.cons (v_iload (i := 6) d_AW_mendingValue_88) .nil))
theorem d_AW_mendingValue_90 : decode y_AW_mendingValue.2.1 90 = .ok (.invokevirtual 336, 3) := by decide +kernel
theorem b_AW_mendingValue_85 {X : aw_X} {d : Nat} {Q : Option Value → aw_H → Prop} {I : Nat → Nat → Int32} {L : Nat → Nat → Int64} {D : Nat → Nat} {c1 : Nat} {v5 : Int32} {v6 : Int32} {v8 : Int32} (hc1 : c1 ∈ aw_codes)
    (h1 : aw_m X d y_Cd_change [.ref c1, .int v5, .int v6] (aw_s I L D) (fun r A => aw_z X (d + 1) y_AW_mendingValue Q 93 [none, none, none, none, none, none, none, none, some (.int v8), none, none] (r.toList ++ []) A)) :
    aw_z X (d + 1) y_AW_mendingValue Q 85 [none, some (.ref c1), none, none, none, some (.int v5), some (.int v6), none, some (.int v8), none, none] [] (aw_s I L D) := by
  simp only [aw_codes, List.mem_cons, List.not_mem_nil, or_false] at hc1
  rcases hc1 with rfl | rfl | rfl | rfl | rfl | rfl
  · exact (s_AW_mendingValue_85.go [none, some (.ref 30), none, none, none, some (.int v5), some (.int v6), none, some (.int v8), none, none] [.int v6, .int v5, .ref 30] (aw_s I L D) rfl (z_callV (av := [.int v5, .int v6]) (st := []) ok_Cd_change (Or.inl w_1243) w_826 w_827 k_Cd d_AW_mendingValue_90 rfl (aw_lt (o := 30) rfl) rfl rfl (Nat.le_of_ble_eq_true rfl) (Nat.le_refl _) (Nat.le_refl _) (aw_C.mono (h1) (fun _ _ zz => aw_Z.weak (ls' := [none, none, none, none, none, none, none, none, some (.int v8), none, none]) zz (Nat.le_of_ble_eq_true rfl) ⟨Or.inl rfl, ⟨Or.inl rfl, ⟨Or.inl rfl, ⟨Or.inl rfl, ⟨Or.inl rfl, ⟨Or.inl rfl, ⟨Or.inl rfl, ⟨Or.inl rfl, ⟨Or.inr rfl, ⟨Or.inl rfl, ⟨Or.inl rfl, trivial⟩⟩⟩⟩⟩⟩⟩⟩⟩⟩⟩))))
  · exact (s_AW_mendingValue_85.go [none, some (.ref 35), none, none, none, some (.int v5), some (.int v6), none, some (.int v8), none, none] [.int v6, .int v5, .ref 35] (aw_s I L D) rfl (z_callV (av := [.int v5, .int v6]) (st := []) ok_Cd_change (Or.inl w_1243) w_826 w_827 k_Cd d_AW_mendingValue_90 rfl (aw_lt (o := 35) rfl) rfl rfl (Nat.le_of_ble_eq_true rfl) (Nat.le_refl _) (Nat.le_refl _) (aw_C.mono (h1) (fun _ _ zz => aw_Z.weak (ls' := [none, none, none, none, none, none, none, none, some (.int v8), none, none]) zz (Nat.le_of_ble_eq_true rfl) ⟨Or.inl rfl, ⟨Or.inl rfl, ⟨Or.inl rfl, ⟨Or.inl rfl, ⟨Or.inl rfl, ⟨Or.inl rfl, ⟨Or.inl rfl, ⟨Or.inl rfl, ⟨Or.inr rfl, ⟨Or.inl rfl, ⟨Or.inl rfl, trivial⟩⟩⟩⟩⟩⟩⟩⟩⟩⟩⟩))))
  · exact (s_AW_mendingValue_85.go [none, some (.ref 40), none, none, none, some (.int v5), some (.int v6), none, some (.int v8), none, none] [.int v6, .int v5, .ref 40] (aw_s I L D) rfl (z_callV (av := [.int v5, .int v6]) (st := []) ok_Cd_change (Or.inl w_1243) w_826 w_827 k_Cd d_AW_mendingValue_90 rfl (aw_lt (o := 40) rfl) rfl rfl (Nat.le_of_ble_eq_true rfl) (Nat.le_refl _) (Nat.le_refl _) (aw_C.mono (h1) (fun _ _ zz => aw_Z.weak (ls' := [none, none, none, none, none, none, none, none, some (.int v8), none, none]) zz (Nat.le_of_ble_eq_true rfl) ⟨Or.inl rfl, ⟨Or.inl rfl, ⟨Or.inl rfl, ⟨Or.inl rfl, ⟨Or.inl rfl, ⟨Or.inl rfl, ⟨Or.inl rfl, ⟨Or.inl rfl, ⟨Or.inr rfl, ⟨Or.inl rfl, ⟨Or.inl rfl, trivial⟩⟩⟩⟩⟩⟩⟩⟩⟩⟩⟩))))
  · exact (s_AW_mendingValue_85.go [none, some (.ref 45), none, none, none, some (.int v5), some (.int v6), none, some (.int v8), none, none] [.int v6, .int v5, .ref 45] (aw_s I L D) rfl (z_callV (av := [.int v5, .int v6]) (st := []) ok_Cd_change (Or.inl w_1243) w_826 w_827 k_Cd d_AW_mendingValue_90 rfl (aw_lt (o := 45) rfl) rfl rfl (Nat.le_of_ble_eq_true rfl) (Nat.le_refl _) (Nat.le_refl _) (aw_C.mono (h1) (fun _ _ zz => aw_Z.weak (ls' := [none, none, none, none, none, none, none, none, some (.int v8), none, none]) zz (Nat.le_of_ble_eq_true rfl) ⟨Or.inl rfl, ⟨Or.inl rfl, ⟨Or.inl rfl, ⟨Or.inl rfl, ⟨Or.inl rfl, ⟨Or.inl rfl, ⟨Or.inl rfl, ⟨Or.inl rfl, ⟨Or.inr rfl, ⟨Or.inl rfl, ⟨Or.inl rfl, trivial⟩⟩⟩⟩⟩⟩⟩⟩⟩⟩⟩))))
  · exact (s_AW_mendingValue_85.go [none, some (.ref 50), none, none, none, some (.int v5), some (.int v6), none, some (.int v8), none, none] [.int v6, .int v5, .ref 50] (aw_s I L D) rfl (z_callV (av := [.int v5, .int v6]) (st := []) ok_Cd_change (Or.inl w_1243) w_826 w_827 k_Cd d_AW_mendingValue_90 rfl (aw_lt (o := 50) rfl) rfl rfl (Nat.le_of_ble_eq_true rfl) (Nat.le_refl _) (Nat.le_refl _) (aw_C.mono (h1) (fun _ _ zz => aw_Z.weak (ls' := [none, none, none, none, none, none, none, none, some (.int v8), none, none]) zz (Nat.le_of_ble_eq_true rfl) ⟨Or.inl rfl, ⟨Or.inl rfl, ⟨Or.inl rfl, ⟨Or.inl rfl, ⟨Or.inl rfl, ⟨Or.inl rfl, ⟨Or.inl rfl, ⟨Or.inl rfl, ⟨Or.inr rfl, ⟨Or.inl rfl, ⟨Or.inl rfl, trivial⟩⟩⟩⟩⟩⟩⟩⟩⟩⟩⟩))))
  · exact (s_AW_mendingValue_85.go [none, some (.ref 55), none, none, none, some (.int v5), some (.int v6), none, some (.int v8), none, none] [.int v6, .int v5, .ref 55] (aw_s I L D) rfl (z_callV (av := [.int v5, .int v6]) (st := []) ok_Cd_change (Or.inl w_1243) w_826 w_827 k_Cd d_AW_mendingValue_90 rfl (aw_lt (o := 55) rfl) rfl rfl (Nat.le_of_ble_eq_true rfl) (Nat.le_refl _) (Nat.le_refl _) (aw_C.mono (h1) (fun _ _ zz => aw_Z.weak (ls' := [none, none, none, none, none, none, none, none, some (.int v8), none, none]) zz (Nat.le_of_ble_eq_true rfl) ⟨Or.inl rfl, ⟨Or.inl rfl, ⟨Or.inl rfl, ⟨Or.inl rfl, ⟨Or.inl rfl, ⟨Or.inl rfl, ⟨Or.inl rfl, ⟨Or.inl rfl, ⟨Or.inr rfl, ⟨Or.inl rfl, ⟨Or.inl rfl, trivial⟩⟩⟩⟩⟩⟩⟩⟩⟩⟩⟩))))
theorem d_AW_mendingValue_51 : decode y_AW_mendingValue.2.1 51 = .ok (.aload_n 0, 1) := by decide +kernel
theorem d_AW_mendingValue_52 : decode y_AW_mendingValue.2.1 52 = .ok (.aload_n 1, 1) := by decide +kernel
theorem d_AW_mendingValue_53 : decode y_AW_mendingValue.2.1 53 = .ok (.iload_n 3, 1) := by decide +kernel
theorem d_AW_mendingValue_54 : decode y_AW_mendingValue.2.1 54 = .ok (.iconst (-1), 1) := by decide +kernel
theorem d_AW_mendingValue_55 : decode y_AW_mendingValue.2.1 55 = .ok (.iload 7, 2) := by decide +kernel
theorem s_AW_mendingValue_51 : aw_VS y_AW_mendingValue 51 [o_ald 0, o_ald 1, o_ild 3, o_c (.int (-1 : Int32)), o_ild 7] 57 := .cons (v_aload_n (i := 0) d_AW_mendingValue_51 rfl) (.cons (v_aload_n (i := 1) d_AW_mendingValue_52 rfl) (.cons (v_iload_n (i := 3) d_AW_mendingValue_53 rfl) (.cons (v_iconst (v := (-1 : Int32)) d_AW_mendingValue_54 (by decide +kernel)) (.cons (v_iload (i := 7) d_AW_mendingValue_55) .nil))))
theorem d_AW_mendingValue_57 : decode y_AW_mendingValue.2.1 57 = .ok (.invokevirtual 244, 3) := by decide +kernel
theorem b_AW_mendingValue_51 {X : aw_X} {d : Nat} {Q : Option Value → aw_H → Prop} {I : Nat → Nat → Int32} {L : Nat → Nat → Int64} {D : Nat → Nat} {c1 : Nat} {v3 : Int32} {v5 : Int32} {v6 : Int32} {v7 : Int32} {v8 : Int32} {v9 : Int32}
    (h1 : aw_m X d y_AW_harmedRow [.ref 0, .ref c1, .int v3, .int (-1 : Int32), .int v7] (aw_s I L D) (fun r A => aw_z X (d + 1) y_AW_mendingValue Q 60 [some (.ref 0), some (.ref c1), none, some (.int v3), none, some (.int v5), some (.int v6), some (.int v7), some (.int v8), some (.int v9), none] (r.toList ++ []) A)) :
    aw_z X (d + 1) y_AW_mendingValue Q 51 [some (.ref 0), some (.ref c1), none, some (.int v3), none, some (.int v5), some (.int v6), some (.int v7), some (.int v8), some (.int v9), none] [] (aw_s I L D) :=
  (s_AW_mendingValue_51.go [some (.ref 0), some (.ref c1), none, some (.int v3), none, some (.int v5), some (.int v6), some (.int v7), some (.int v8), some (.int v9), none] [.int v7, .int (-1 : Int32), .int v3, .ref c1, .ref 0] (aw_s I L D) rfl (z_callV (av := [.ref c1, .int v3, .int (-1 : Int32), .int v7]) (st := []) ok_AW_harmedRow (Or.inl w_1187) w_1189 w_53 k_AW d_AW_mendingValue_57 rfl (aw_lt (o := 0) rfl) rfl rfl (Nat.le_of_ble_eq_true rfl) (Nat.le_refl _) (Nat.le_refl _) (h1)))
theorem d_AW_mendingValue_93 : decode y_AW_mendingValue.2.1 93 = .ok (.iload 8, 2) := by decide +kernel
theorem s_AW_mendingValue_93 : aw_VS y_AW_mendingValue 93 [o_ild 8] 95 := .cons (v_iload (i := 8) d_AW_mendingValue_93) .nil
theorem d_AW_mendingValue_95 : decode y_AW_mendingValue.2.1 95 = .ok (.ireturn, 1) := by decide +kernel
theorem b_AW_mendingValue_93 {X : aw_X} {d : Nat} {Q : Option Value → aw_H → Prop} {I : Nat → Nat → Int32} {L : Nat → Nat → Int64} {D : Nat → Nat} {v8 : Int32}
    (h1 : Q (some (.int v8)) (aw_s I L D)) :
    aw_z X (d + 1) y_AW_mendingValue Q 93 [none, none, none, none, none, none, none, none, some (.int v8), none, none] [] (aw_s I L D) :=
  (s_AW_mendingValue_93.go [none, none, none, none, none, none, none, none, some (.int v8), none, none] [.int v8] (aw_s I L D) rfl (z_iret d_AW_mendingValue_95 rfl rfl (h1)))
theorem d_AW_mendingValue_60 : decode y_AW_mendingValue.2.1 60 = .ok (.istore 10, 2) := by decide +kernel
theorem d_AW_mendingValue_62 : decode y_AW_mendingValue.2.1 62 = .ok (.iload 10, 2) := by decide +kernel
theorem d_AW_mendingValue_64 : decode y_AW_mendingValue.2.1 64 = .ok (.iconst (-1), 1) := by decide +kernel
theorem s_AW_mendingValue_60 : aw_VS y_AW_mendingValue 60 [o_ist 10, o_ild 10, o_c (.int (-1 : Int32))] 65 := .cons (v_istore d_AW_mendingValue_60) (.cons (v_iload (i := 10) d_AW_mendingValue_62) (.cons (v_iconst (v := (-1 : Int32)) d_AW_mendingValue_64 (by decide +kernel)) .nil))
theorem d_AW_mendingValue_65 : decode y_AW_mendingValue.2.1 65 = .ok (.if_icmp .ne (10), 3) := by decide +kernel
theorem d_AW_mendingValue_75 : decode y_AW_mendingValue.2.1 75 = .ok (.iload 10, 2) := by decide +kernel
theorem d_AW_mendingValue_77 : decode y_AW_mendingValue.2.1 77 = .ok (.istore 7, 2) := by decide +kernel
theorem s_AW_mendingValue_75 : aw_VS y_AW_mendingValue 75 [o_ild 10, o_ist 7] 79 := .cons (v_iload (i := 10) d_AW_mendingValue_75) (.cons (v_istore d_AW_mendingValue_77) .nil)
theorem d_AW_mendingValue_79 : decode y_AW_mendingValue.2.1 79 = .ok (.iinc 9 (1), 3) := by decide +kernel
theorem s_AW_mendingValue_79 : aw_VS y_AW_mendingValue 79 [o_inc 9 (1 : Int32)] 82 := .cons (v_iinc (k0 := (1 : Int32)) d_AW_mendingValue_79 (by decide +kernel)) .nil
theorem d_AW_mendingValue_82 : decode y_AW_mendingValue.2.1 82 = .ok (.goto (-57), 3) := by decide +kernel
theorem d_AW_mendingValue_68 : decode y_AW_mendingValue.2.1 68 = .ok (.iload 9, 2) := by decide +kernel
theorem d_AW_mendingValue_70 : decode y_AW_mendingValue.2.1 70 = .ok (.istore 8, 2) := by decide +kernel
theorem s_AW_mendingValue_68 : aw_VS y_AW_mendingValue 68 [o_ild 9, o_ist 8] 72 := .cons (v_iload (i := 9) d_AW_mendingValue_68) (.cons (v_istore d_AW_mendingValue_70) .nil)
theorem d_AW_mendingValue_72 : decode y_AW_mendingValue.2.1 72 = .ok (.goto (7), 3) := by decide +kernel
theorem b_AW_mendingValue_60 {X : aw_X} {d : Nat} {Q : Option Value → aw_H → Prop} {I : Nat → Nat → Int32} {L : Nat → Nat → Int64} {D : Nat → Nat} {c1 : Nat} {v3 : Int32} {v5 : Int32} {v6 : Int32} {v7 : Int32} {v8 : Int32} {v9 : Int32} {s0 : Int32}
    (h1 : ¬ s0 = (-1 : Int32) → aw_z X (d + 1) y_AW_mendingValue Q 25 [some (.ref 0), some (.ref c1), none, some (.int v3), none, some (.int v5), some (.int v6), some (.int s0), some (.int v8), some (.int (v9 + (1 : Int32))), none] [] (aw_s I L D))
    (h2 : s0 = (-1 : Int32) → aw_z X (d + 1) y_AW_mendingValue Q 25 [some (.ref 0), some (.ref c1), none, some (.int v3), none, some (.int v5), some (.int v6), some (.int v7), some (.int v9), some (.int (v9 + (1 : Int32))), none] [] (aw_s I L D)) :
    aw_z X (d + 1) y_AW_mendingValue Q 60 [some (.ref 0), some (.ref c1), none, some (.int v3), none, some (.int v5), some (.int v6), some (.int v7), some (.int v8), some (.int v9), none] [.int s0] (aw_s I L D) :=
  (s_AW_mendingValue_60.go [some (.ref 0), some (.ref c1), none, some (.int v3), none, some (.int v5), some (.int v6), some (.int v7), some (.int v8), some (.int v9), some (.int s0)] [.int (-1 : Int32), .int s0] (aw_s I L D) rfl (z_icmp_ne (tgt := 75) d_AW_mendingValue_65 rfl (fun q1 => (s_AW_mendingValue_75.go [some (.ref 0), some (.ref c1), none, some (.int v3), none, some (.int v5), some (.int v6), some (.int s0), some (.int v8), some (.int v9), some (.int s0)] [] (aw_s I L D) rfl (s_AW_mendingValue_79.go [some (.ref 0), some (.ref c1), none, some (.int v3), none, some (.int v5), some (.int v6), some (.int s0), some (.int v8), some (.int (v9 + (1 : Int32))), some (.int s0)] [] (aw_s I L D) rfl (z_goto (tgt := 25) d_AW_mendingValue_82 rfl (aw_Z.weak (ls' := [some (.ref 0), some (.ref c1), none, some (.int v3), none, some (.int v5), some (.int v6), some (.int s0), some (.int v8), some (.int (v9 + (1 : Int32))), none]) (h1 q1) (Nat.le_of_ble_eq_true rfl) ⟨Or.inr rfl, ⟨Or.inr rfl, ⟨Or.inl rfl, ⟨Or.inr rfl, ⟨Or.inl rfl, ⟨Or.inr rfl, ⟨Or.inr rfl, ⟨Or.inr rfl, ⟨Or.inr rfl, ⟨Or.inr rfl, ⟨Or.inl rfl, trivial⟩⟩⟩⟩⟩⟩⟩⟩⟩⟩⟩))))) (fun q2 => (s_AW_mendingValue_68.go [some (.ref 0), some (.ref c1), none, some (.int v3), none, some (.int v5), some (.int v6), some (.int v7), some (.int v9), some (.int v9), some (.int s0)] [] (aw_s I L D) rfl (z_goto (tgt := 79) d_AW_mendingValue_72 rfl (s_AW_mendingValue_79.go [some (.ref 0), some (.ref c1), none, some (.int v3), none, some (.int v5), some (.int v6), some (.int v7), some (.int v9), some (.int (v9 + (1 : Int32))), some (.int s0)] [] (aw_s I L D) rfl (z_goto (tgt := 25) d_AW_mendingValue_82 rfl (aw_Z.weak (ls' := [some (.ref 0), some (.ref c1), none, some (.int v3), none, some (.int v5), some (.int v6), some (.int v7), some (.int v9), some (.int (v9 + (1 : Int32))), none]) (h2 q2) (Nat.le_of_ble_eq_true rfl) ⟨Or.inr rfl, ⟨Or.inr rfl, ⟨Or.inl rfl, ⟨Or.inr rfl, ⟨Or.inl rfl, ⟨Or.inr rfl, ⟨Or.inr rfl, ⟨Or.inr rfl, ⟨Or.inr rfl, ⟨Or.inr rfl, ⟨Or.inl rfl, trivial⟩⟩⟩⟩⟩⟩⟩⟩⟩⟩⟩))))))))
/-! AW_mended -/
theorem d_AW_mended_0 : decode y_AW_mended.2.1 0 = .ok (.aload_n 0, 1) := by decide +kernel
theorem d_AW_mended_1 : decode y_AW_mended.2.1 1 = .ok (.getfield 82, 3) := by decide +kernel
theorem s_AW_mended_0 : aw_VS y_AW_mended 0 [o_ald 0, o_getI 0 15] 4 := .cons (v_aload_n (i := 0) d_AW_mended_0 rfl) (.cons (v_getI (k := 15) k_AW (by decide) (Or.inl rfl) (Or.inl w_505) d_AW_mended_1) .nil)
theorem d_AW_mended_4 : decode y_AW_mended.2.1 4 = .ok (.ireturn, 1) := by decide +kernel
theorem b_AW_mended_0 {X : aw_X} {d : Nat} {Q : Option Value → aw_H → Prop} {I : Nat → Nat → Int32} {L : Nat → Nat → Int64} {D : Nat → Nat} 
    (h1 : Q (some (.int (I 0 15))) (aw_s I L D)) :
    aw_z X d y_AW_mended Q 0 [some (.ref 0)] [] (aw_s I L D) :=
  (s_AW_mended_0.go [some (.ref 0)] [.int (I 0 15)] (aw_s I L D) rfl (z_iret d_AW_mended_4 rfl rfl (h1)))
/-! AW_claim -/
theorem d_AW_claim_0 : decode y_AW_claim.2.1 0 = .ok (.aload_n 0, 1) := by decide +kernel
theorem d_AW_claim_1 : decode y_AW_claim.2.1 1 = .ok (.getfield 67, 3) := by decide +kernel
theorem d_AW_claim_4 : decode y_AW_claim.2.1 4 = .ok (.aload_n 0, 1) := by decide +kernel
theorem s_AW_claim_0 : aw_VS y_AW_claim 0 [o_ald 0, o_getA 0 8, o_ald 0] 5 := .cons (v_aload_n (i := 0) d_AW_claim_0 rfl) (.cons (v_getA (k := 8) k_AW (by decide) rfl (Or.inl w_498) d_AW_claim_1) (.cons (v_aload_n (i := 0) d_AW_claim_4 rfl) .nil))
theorem d_AW_claim_5 : decode y_AW_claim.2.1 5 = .ok (.getfield 59, 3) := by decide +kernel
theorem d_AW_claim_8 : decode y_AW_claim.2.1 8 = .ok (.invokevirtual 106, 3) := by decide +kernel
theorem b_AW_claim_0 {X : aw_X} {d : Nat} {Q : Option Value → aw_H → Prop} {I : Nat → Nat → Int32} {L : Nat → Nat → Int64} {D : Nat → Nat} {e5 : Nat} (hD5 : D 5 = e5)
    (h1 : aw_m X d y_Ps_restart [.ref 60, .ref e5] (aw_s I L D) (fun r A => aw_z X (d + 1) y_AW_claim Q 11 [some (.ref 0), none, none] (r.toList ++ []) A)) :
    aw_z X (d + 1) y_AW_claim Q 0 [some (.ref 0), none, none] [] (aw_s I L D) :=
  (s_AW_claim_0.go [some (.ref 0), none, none] [.ref 0, .ref 60] (aw_s I L D) rfl (z_gD5 hD5 (Or.inl w_497) d_AW_claim_5 (z_callV (av := [.ref e5]) (st := []) ok_Ps_restart (Or.inl w_573) w_574 w_575 k_Ps d_AW_claim_8 rfl (aw_lt (o := 60) rfl) rfl rfl (Nat.le_of_ble_eq_true rfl) (Nat.le_refl _) (Nat.le_refl _) (h1))))
theorem d_AW_claim_11 : decode y_AW_claim.2.1 11 = .ok (.aload_n 0, 1) := by decide +kernel
theorem d_AW_claim_12 : decode y_AW_claim.2.1 12 = .ok (.getfield 67, 3) := by decide +kernel
theorem s_AW_claim_11 : aw_VS y_AW_claim 11 [o_ald 0, o_getA 0 8] 15 := .cons (v_aload_n (i := 0) d_AW_claim_11 rfl) (.cons (v_getA (k := 8) k_AW (by decide) rfl (Or.inl w_498) d_AW_claim_12) .nil)
theorem d_AW_claim_15 : decode y_AW_claim.2.1 15 = .ok (.invokevirtual 280, 3) := by decide +kernel
theorem b_AW_claim_11 {X : aw_X} {d : Nat} {Q : Option Value → aw_H → Prop} {I : Nat → Nat → Int32} {L : Nat → Nat → Int64} {D : Nat → Nat} 
    (h1 : aw_m X d y_Ps_readTests [.ref 60] (aw_s I L D) (fun r A => aw_z X (d + 1) y_AW_claim Q 18 [some (.ref 0), none, none] (r.toList ++ []) A)) :
    aw_z X (d + 1) y_AW_claim Q 11 [some (.ref 0), none, none] [] (aw_s I L D) :=
  (s_AW_claim_11.go [some (.ref 0), none, none] [.ref 60] (aw_s I L D) rfl (z_callV (av := []) (st := []) ok_Ps_readTests (Or.inl w_1252) w_1253 w_1254 k_Ps d_AW_claim_15 rfl (aw_lt (o := 60) rfl) rfl rfl (Nat.le_of_ble_eq_true rfl) (Nat.le_refl _) (Nat.le_refl _) (h1)))
theorem d_AW_claim_18 : decode y_AW_claim.2.1 18 = .ok (.istore_n 1, 1) := by decide +kernel
theorem d_AW_claim_19 : decode y_AW_claim.2.1 19 = .ok (.aload_n 0, 1) := by decide +kernel
theorem s_AW_claim_18 : aw_VS y_AW_claim 18 [o_ist 1, o_ald 0] 20 := .cons (v_istore_n d_AW_claim_18) (.cons (v_aload_n (i := 0) d_AW_claim_19 rfl) .nil)
theorem d_AW_claim_20 : decode y_AW_claim.2.1 20 = .ok (.invokevirtual 117, 3) := by decide +kernel
theorem b_AW_claim_18 {X : aw_X} {d : Nat} {Q : Option Value → aw_H → Prop} {I : Nat → Nat → Int32} {L : Nat → Nat → Int64} {D : Nat → Nat} {s0 : Int32}
    (h1 : aw_m X d y_AW_noteReading [.ref 0] (aw_s I L D) (fun r A => aw_z X (d + 1) y_AW_claim Q 23 [some (.ref 0), some (.int s0), none] (r.toList ++ []) A)) :
    aw_z X (d + 1) y_AW_claim Q 18 [some (.ref 0), none, none] [.int s0] (aw_s I L D) :=
  (s_AW_claim_18.go [some (.ref 0), some (.int s0), none] [.ref 0] (aw_s I L D) rfl (z_callV (av := []) (st := []) ok_AW_noteReading (Or.inl w_849) w_851 w_26 k_AW d_AW_claim_20 rfl (aw_lt (o := 0) rfl) rfl rfl (Nat.le_of_ble_eq_true rfl) (Nat.le_refl _) (Nat.le_refl _) (h1)))
theorem d_AW_claim_23 : decode y_AW_claim.2.1 23 = .ok (.iload_n 1, 1) := by decide +kernel
theorem s_AW_claim_23 : aw_VS y_AW_claim 23 [o_ild 1] 24 := .cons (v_iload_n (i := 1) d_AW_claim_23 rfl) .nil
theorem d_AW_claim_24 : decode y_AW_claim.2.1 24 = .ok (.ifCond .ne (13), 3) := by decide +kernel
theorem d_AW_claim_37 : decode y_AW_claim.2.1 37 = .ok (.aload_n 0, 1) := by decide +kernel
theorem s_AW_claim_37 : aw_VS y_AW_claim 37 [o_ald 0] 38 := .cons (v_aload_n (i := 0) d_AW_claim_37 rfl) .nil
theorem d_AW_claim_38 : decode y_AW_claim.2.1 38 = .ok (.getfield 55, 3) := by decide +kernel
theorem d_AW_claim_41 : decode y_AW_claim.2.1 41 = .ok (.astore_n 2, 1) := by decide +kernel
theorem d_AW_claim_42 : decode y_AW_claim.2.1 42 = .ok (.aload_n 0, 1) := by decide +kernel
theorem d_AW_claim_43 : decode y_AW_claim.2.1 43 = .ok (.aload_n 0, 1) := by decide +kernel
theorem s_AW_claim_41 : aw_VS y_AW_claim 41 [o_ast 2, o_ald 0, o_ald 0] 44 := .cons (v_astore_n d_AW_claim_41) (.cons (v_aload_n (i := 0) d_AW_claim_42 rfl) (.cons (v_aload_n (i := 0) d_AW_claim_43 rfl) .nil))
theorem d_AW_claim_44 : decode y_AW_claim.2.1 44 = .ok (.getfield 59, 3) := by decide +kernel
theorem d_AW_claim_47 : decode y_AW_claim.2.1 47 = .ok (.putfield 55, 3) := by decide +kernel
theorem d_AW_claim_50 : decode y_AW_claim.2.1 50 = .ok (.aload_n 0, 1) := by decide +kernel
theorem d_AW_claim_51 : decode y_AW_claim.2.1 51 = .ok (.aload_n 2, 1) := by decide +kernel
theorem s_AW_claim_50 : aw_VS y_AW_claim 50 [o_ald 0, o_ald 2] 52 := .cons (v_aload_n (i := 0) d_AW_claim_50 rfl) (.cons (v_aload_n (i := 2) d_AW_claim_51 rfl) .nil)
theorem d_AW_claim_52 : decode y_AW_claim.2.1 52 = .ok (.putfield 59, 3) := by decide +kernel
theorem d_AW_claim_55 : decode y_AW_claim.2.1 55 = .ok (.aload_n 0, 1) := by decide +kernel
theorem s_AW_claim_55 : aw_VS y_AW_claim 55 [o_ald 0] 56 := .cons (v_aload_n (i := 0) d_AW_claim_55 rfl) .nil
theorem d_AW_claim_56 : decode y_AW_claim.2.1 56 = .ok (.getfield 55, 3) := by decide +kernel
theorem d_AW_claim_59 : decode y_AW_claim.2.1 59 = .ok (.getfield 283, 3) := by decide +kernel
theorem s_AW_claim_59 : aw_VS y_AW_claim 59 [o_getI 6 9] 62 := .cons (v_getI (k := 9) k_Cd (by decide) (Or.inl rfl) (Or.inr ⟨"AllWays", w_403⟩) d_AW_claim_59) .nil
theorem d_AW_claim_62 : decode y_AW_claim.2.1 62 = .ok (.ireturn, 1) := by decide +kernel
theorem d_AW_claim_27 : decode y_AW_claim.2.1 27 = .ok (.iconst (-1), 1) := by decide +kernel
theorem d_AW_claim_28 : decode y_AW_claim.2.1 28 = .ok (.aload_n 0, 1) := by decide +kernel
theorem d_AW_claim_29 : decode y_AW_claim.2.1 29 = .ok (.getfield 67, 3) := by decide +kernel
theorem d_AW_claim_32 : decode y_AW_claim.2.1 32 = .ok (.getfield 120, 3) := by decide +kernel
theorem d_AW_claim_35 : decode y_AW_claim.2.1 35 = .ok (.isub, 1) := by decide +kernel
theorem s_AW_claim_27 : aw_VS y_AW_claim 27 [o_c (.int (-1 : Int32)), o_ald 0, o_getA 0 8, o_getI 7 4, o_i2 (fun x z => x - z)] 36 := .cons (v_iconst (v := (-1 : Int32)) d_AW_claim_27 (by decide +kernel)) (.cons (v_aload_n (i := 0) d_AW_claim_28 rfl) (.cons (v_getA (k := 8) k_AW (by decide) rfl (Or.inl w_498) d_AW_claim_29) (.cons (v_getI (k := 4) k_Ps (by decide) (Or.inl rfl) (Or.inr ⟨"AllWays", w_478⟩) d_AW_claim_32) (.cons (v_isub d_AW_claim_35) .nil))))
theorem d_AW_claim_36 : decode y_AW_claim.2.1 36 = .ok (.ireturn, 1) := by decide +kernel
theorem b_AW_claim_23 {X : aw_X} {d : Nat} {Q : Option Value → aw_H → Prop} {I : Nat → Nat → Int32} {L : Nat → Nat → Int64} {D : Nat → Nat} {v1 : Int32} {e4 : Nat} {e5 : Nat} (hD4 : D 4 = e4) (hD5 : D 5 = e5) (he5 : e5 ∈ aw_codes)
    (h1 : ¬ v1 = 0 → Q (some (.int (I e5 9))) (aw_s I L (va_up (va_up D 4 e5) 5 e4)))
    (h2 : v1 = 0 → Q (some (.int ((-1 : Int32) - (I 60 4)))) (aw_s I L D)) :
    aw_z X (d + 1) y_AW_claim Q 23 [some (.ref 0), some (.int v1), none] [] (aw_s I L D) := by
  simp only [aw_codes, List.mem_cons, List.not_mem_nil, or_false] at he5
  rcases he5 with rfl | rfl | rfl | rfl | rfl | rfl
  · exact (s_AW_claim_23.go [some (.ref 0), some (.int v1), none] [.int v1] (aw_s I L D) rfl (z_if_ne (tgt := 37) d_AW_claim_24 rfl (fun q1 => (s_AW_claim_37.go [some (.ref 0), some (.int v1), none] [.ref 0] (aw_s I L D) rfl (z_gD4 hD4 (Or.inl w_496) d_AW_claim_38 (s_AW_claim_41.go [some (.ref 0), some (.int v1), some (.ref e4)] [.ref 0, .ref 0] (aw_s I L D) rfl (z_gD5 hD5 (Or.inl w_497) d_AW_claim_44 (z_pD4 (Or.inl ⟨rfl, Or.inl w_496⟩) d_AW_claim_47 (s_AW_claim_50.go [some (.ref 0), some (.int v1), some (.ref e4)] [.ref e4, .ref 0] (aw_s I L (va_up D 4 30)) rfl (z_pD5 (Or.inl ⟨rfl, Or.inl w_497⟩) d_AW_claim_52 (s_AW_claim_55.go [some (.ref 0), some (.int v1), some (.ref e4)] [.ref 0] (aw_s I L (va_up (va_up D 4 30) 5 e4)) rfl (z_gD4 rfl (Or.inl w_496) d_AW_claim_56 (s_AW_claim_59.go [some (.ref 0), some (.int v1), some (.ref e4)] [.int (I 30 9)] (aw_s I L (va_up (va_up D 4 30) 5 e4)) rfl (z_iret d_AW_claim_62 rfl rfl (h1 q1))))))))))))) (fun q2 => (s_AW_claim_27.go [some (.ref 0), some (.int v1), none] [.int ((-1 : Int32) - (I 60 4))] (aw_s I L D) rfl (z_iret d_AW_claim_36 rfl rfl (h2 q2))))))
  · exact (s_AW_claim_23.go [some (.ref 0), some (.int v1), none] [.int v1] (aw_s I L D) rfl (z_if_ne (tgt := 37) d_AW_claim_24 rfl (fun q1 => (s_AW_claim_37.go [some (.ref 0), some (.int v1), none] [.ref 0] (aw_s I L D) rfl (z_gD4 hD4 (Or.inl w_496) d_AW_claim_38 (s_AW_claim_41.go [some (.ref 0), some (.int v1), some (.ref e4)] [.ref 0, .ref 0] (aw_s I L D) rfl (z_gD5 hD5 (Or.inl w_497) d_AW_claim_44 (z_pD4 (Or.inl ⟨rfl, Or.inl w_496⟩) d_AW_claim_47 (s_AW_claim_50.go [some (.ref 0), some (.int v1), some (.ref e4)] [.ref e4, .ref 0] (aw_s I L (va_up D 4 35)) rfl (z_pD5 (Or.inl ⟨rfl, Or.inl w_497⟩) d_AW_claim_52 (s_AW_claim_55.go [some (.ref 0), some (.int v1), some (.ref e4)] [.ref 0] (aw_s I L (va_up (va_up D 4 35) 5 e4)) rfl (z_gD4 rfl (Or.inl w_496) d_AW_claim_56 (s_AW_claim_59.go [some (.ref 0), some (.int v1), some (.ref e4)] [.int (I 35 9)] (aw_s I L (va_up (va_up D 4 35) 5 e4)) rfl (z_iret d_AW_claim_62 rfl rfl (h1 q1))))))))))))) (fun q2 => (s_AW_claim_27.go [some (.ref 0), some (.int v1), none] [.int ((-1 : Int32) - (I 60 4))] (aw_s I L D) rfl (z_iret d_AW_claim_36 rfl rfl (h2 q2))))))
  · exact (s_AW_claim_23.go [some (.ref 0), some (.int v1), none] [.int v1] (aw_s I L D) rfl (z_if_ne (tgt := 37) d_AW_claim_24 rfl (fun q1 => (s_AW_claim_37.go [some (.ref 0), some (.int v1), none] [.ref 0] (aw_s I L D) rfl (z_gD4 hD4 (Or.inl w_496) d_AW_claim_38 (s_AW_claim_41.go [some (.ref 0), some (.int v1), some (.ref e4)] [.ref 0, .ref 0] (aw_s I L D) rfl (z_gD5 hD5 (Or.inl w_497) d_AW_claim_44 (z_pD4 (Or.inl ⟨rfl, Or.inl w_496⟩) d_AW_claim_47 (s_AW_claim_50.go [some (.ref 0), some (.int v1), some (.ref e4)] [.ref e4, .ref 0] (aw_s I L (va_up D 4 40)) rfl (z_pD5 (Or.inl ⟨rfl, Or.inl w_497⟩) d_AW_claim_52 (s_AW_claim_55.go [some (.ref 0), some (.int v1), some (.ref e4)] [.ref 0] (aw_s I L (va_up (va_up D 4 40) 5 e4)) rfl (z_gD4 rfl (Or.inl w_496) d_AW_claim_56 (s_AW_claim_59.go [some (.ref 0), some (.int v1), some (.ref e4)] [.int (I 40 9)] (aw_s I L (va_up (va_up D 4 40) 5 e4)) rfl (z_iret d_AW_claim_62 rfl rfl (h1 q1))))))))))))) (fun q2 => (s_AW_claim_27.go [some (.ref 0), some (.int v1), none] [.int ((-1 : Int32) - (I 60 4))] (aw_s I L D) rfl (z_iret d_AW_claim_36 rfl rfl (h2 q2))))))
  · exact (s_AW_claim_23.go [some (.ref 0), some (.int v1), none] [.int v1] (aw_s I L D) rfl (z_if_ne (tgt := 37) d_AW_claim_24 rfl (fun q1 => (s_AW_claim_37.go [some (.ref 0), some (.int v1), none] [.ref 0] (aw_s I L D) rfl (z_gD4 hD4 (Or.inl w_496) d_AW_claim_38 (s_AW_claim_41.go [some (.ref 0), some (.int v1), some (.ref e4)] [.ref 0, .ref 0] (aw_s I L D) rfl (z_gD5 hD5 (Or.inl w_497) d_AW_claim_44 (z_pD4 (Or.inl ⟨rfl, Or.inl w_496⟩) d_AW_claim_47 (s_AW_claim_50.go [some (.ref 0), some (.int v1), some (.ref e4)] [.ref e4, .ref 0] (aw_s I L (va_up D 4 45)) rfl (z_pD5 (Or.inl ⟨rfl, Or.inl w_497⟩) d_AW_claim_52 (s_AW_claim_55.go [some (.ref 0), some (.int v1), some (.ref e4)] [.ref 0] (aw_s I L (va_up (va_up D 4 45) 5 e4)) rfl (z_gD4 rfl (Or.inl w_496) d_AW_claim_56 (s_AW_claim_59.go [some (.ref 0), some (.int v1), some (.ref e4)] [.int (I 45 9)] (aw_s I L (va_up (va_up D 4 45) 5 e4)) rfl (z_iret d_AW_claim_62 rfl rfl (h1 q1))))))))))))) (fun q2 => (s_AW_claim_27.go [some (.ref 0), some (.int v1), none] [.int ((-1 : Int32) - (I 60 4))] (aw_s I L D) rfl (z_iret d_AW_claim_36 rfl rfl (h2 q2))))))
  · exact (s_AW_claim_23.go [some (.ref 0), some (.int v1), none] [.int v1] (aw_s I L D) rfl (z_if_ne (tgt := 37) d_AW_claim_24 rfl (fun q1 => (s_AW_claim_37.go [some (.ref 0), some (.int v1), none] [.ref 0] (aw_s I L D) rfl (z_gD4 hD4 (Or.inl w_496) d_AW_claim_38 (s_AW_claim_41.go [some (.ref 0), some (.int v1), some (.ref e4)] [.ref 0, .ref 0] (aw_s I L D) rfl (z_gD5 hD5 (Or.inl w_497) d_AW_claim_44 (z_pD4 (Or.inl ⟨rfl, Or.inl w_496⟩) d_AW_claim_47 (s_AW_claim_50.go [some (.ref 0), some (.int v1), some (.ref e4)] [.ref e4, .ref 0] (aw_s I L (va_up D 4 50)) rfl (z_pD5 (Or.inl ⟨rfl, Or.inl w_497⟩) d_AW_claim_52 (s_AW_claim_55.go [some (.ref 0), some (.int v1), some (.ref e4)] [.ref 0] (aw_s I L (va_up (va_up D 4 50) 5 e4)) rfl (z_gD4 rfl (Or.inl w_496) d_AW_claim_56 (s_AW_claim_59.go [some (.ref 0), some (.int v1), some (.ref e4)] [.int (I 50 9)] (aw_s I L (va_up (va_up D 4 50) 5 e4)) rfl (z_iret d_AW_claim_62 rfl rfl (h1 q1))))))))))))) (fun q2 => (s_AW_claim_27.go [some (.ref 0), some (.int v1), none] [.int ((-1 : Int32) - (I 60 4))] (aw_s I L D) rfl (z_iret d_AW_claim_36 rfl rfl (h2 q2))))))
  · exact (s_AW_claim_23.go [some (.ref 0), some (.int v1), none] [.int v1] (aw_s I L D) rfl (z_if_ne (tgt := 37) d_AW_claim_24 rfl (fun q1 => (s_AW_claim_37.go [some (.ref 0), some (.int v1), none] [.ref 0] (aw_s I L D) rfl (z_gD4 hD4 (Or.inl w_496) d_AW_claim_38 (s_AW_claim_41.go [some (.ref 0), some (.int v1), some (.ref e4)] [.ref 0, .ref 0] (aw_s I L D) rfl (z_gD5 hD5 (Or.inl w_497) d_AW_claim_44 (z_pD4 (Or.inl ⟨rfl, Or.inl w_496⟩) d_AW_claim_47 (s_AW_claim_50.go [some (.ref 0), some (.int v1), some (.ref e4)] [.ref e4, .ref 0] (aw_s I L (va_up D 4 55)) rfl (z_pD5 (Or.inl ⟨rfl, Or.inl w_497⟩) d_AW_claim_52 (s_AW_claim_55.go [some (.ref 0), some (.int v1), some (.ref e4)] [.ref 0] (aw_s I L (va_up (va_up D 4 55) 5 e4)) rfl (z_gD4 rfl (Or.inl w_496) d_AW_claim_56 (s_AW_claim_59.go [some (.ref 0), some (.int v1), some (.ref e4)] [.int (I 55 9)] (aw_s I L (va_up (va_up D 4 55) 5 e4)) rfl (z_iret d_AW_claim_62 rfl rfl (h1 q1))))))))))))) (fun q2 => (s_AW_claim_27.go [some (.ref 0), some (.int v1), none] [.int ((-1 : Int32) - (I 60 4))] (aw_s I L D) rfl (z_iret d_AW_claim_36 rfl rfl (h2 q2))))))
/-! AW_holds -/
theorem d_AW_holds_0 : decode y_AW_holds.2.1 0 = .ok (.aload_n 0, 1) := by decide +kernel
theorem s_AW_holds_0 : aw_VS y_AW_holds 0 [o_ald 0] 1 := .cons (v_aload_n (i := 0) d_AW_holds_0 rfl) .nil
theorem d_AW_holds_1 : decode y_AW_holds.2.1 1 = .ok (.getfield 55, 3) := by decide +kernel
theorem d_AW_holds_4 : decode y_AW_holds.2.1 4 = .ok (.getfield 283, 3) := by decide +kernel
theorem s_AW_holds_4 : aw_VS y_AW_holds 4 [o_getI 6 9] 7 := .cons (v_getI (k := 9) k_Cd (by decide) (Or.inl rfl) (Or.inr ⟨"AllWays", w_403⟩) d_AW_holds_4) .nil
theorem d_AW_holds_7 : decode y_AW_holds.2.1 7 = .ok (.ifCond .ne (6), 3) := by decide +kernel
theorem d_AW_holds_13 : decode y_AW_holds.2.1 13 = .ok (.iconst 0, 1) := by decide +kernel
theorem d_AW_holds_14 : decode y_AW_holds.2.1 14 = .ok (.istore_n 1, 1) := by decide +kernel
theorem s_AW_holds_13 : aw_VS y_AW_holds 13 [o_c (.int (0 : Int32)), o_ist 1] 15 := .cons (v_iconst (v := (0 : Int32)) d_AW_holds_13 (by decide +kernel)) (.cons (v_istore_n d_AW_holds_14) .nil)
theorem d_AW_holds_10 : decode y_AW_holds.2.1 10 = .ok (.bipush (-2), 2) := by decide +kernel
theorem s_AW_holds_10 : aw_VS y_AW_holds 10 [o_c (.int (-2 : Int32))] 12 := .cons (v_bipush (v := (-2 : Int32)) d_AW_holds_10 (by decide +kernel)) .nil
theorem d_AW_holds_12 : decode y_AW_holds.2.1 12 = .ok (.ireturn, 1) := by decide +kernel
theorem b_AW_holds_0 {X : aw_X} {d : Nat} {Q : Option Value → aw_H → Prop} {I : Nat → Nat → Int32} {L : Nat → Nat → Int64} {D : Nat → Nat} {e4 : Nat} (hD4 : D 4 = e4) (he4 : e4 ∈ aw_codes)
    (h1 : ¬ (I e4 9) = 0 → aw_z X (d + 1) y_AW_holds Q 15 [some (.ref 0), some (.int (0 : Int32))] [] (aw_s I L D))
    (h2 : (I e4 9) = 0 → Q (some (.int (-2 : Int32))) (aw_s I L D)) :
    aw_z X (d + 1) y_AW_holds Q 0 [some (.ref 0), none] [] (aw_s I L D) := by
  simp only [aw_codes, List.mem_cons, List.not_mem_nil, or_false] at he4
  rcases he4 with rfl | rfl | rfl | rfl | rfl | rfl
  · exact (s_AW_holds_0.go [some (.ref 0), none] [.ref 0] (aw_s I L D) rfl (z_gD4 hD4 (Or.inl w_496) d_AW_holds_1 (s_AW_holds_4.go [some (.ref 0), none] [.int (I 30 9)] (aw_s I L D) rfl (z_if_ne (tgt := 13) d_AW_holds_7 rfl (fun q1 => (s_AW_holds_13.go [some (.ref 0), some (.int (0 : Int32))] [] (aw_s I L D) rfl (h1 q1))) (fun q2 => (s_AW_holds_10.go [some (.ref 0), none] [.int (-2 : Int32)] (aw_s I L D) rfl (z_iret d_AW_holds_12 rfl rfl (h2 q2))))))))
  · exact (s_AW_holds_0.go [some (.ref 0), none] [.ref 0] (aw_s I L D) rfl (z_gD4 hD4 (Or.inl w_496) d_AW_holds_1 (s_AW_holds_4.go [some (.ref 0), none] [.int (I 35 9)] (aw_s I L D) rfl (z_if_ne (tgt := 13) d_AW_holds_7 rfl (fun q1 => (s_AW_holds_13.go [some (.ref 0), some (.int (0 : Int32))] [] (aw_s I L D) rfl (h1 q1))) (fun q2 => (s_AW_holds_10.go [some (.ref 0), none] [.int (-2 : Int32)] (aw_s I L D) rfl (z_iret d_AW_holds_12 rfl rfl (h2 q2))))))))
  · exact (s_AW_holds_0.go [some (.ref 0), none] [.ref 0] (aw_s I L D) rfl (z_gD4 hD4 (Or.inl w_496) d_AW_holds_1 (s_AW_holds_4.go [some (.ref 0), none] [.int (I 40 9)] (aw_s I L D) rfl (z_if_ne (tgt := 13) d_AW_holds_7 rfl (fun q1 => (s_AW_holds_13.go [some (.ref 0), some (.int (0 : Int32))] [] (aw_s I L D) rfl (h1 q1))) (fun q2 => (s_AW_holds_10.go [some (.ref 0), none] [.int (-2 : Int32)] (aw_s I L D) rfl (z_iret d_AW_holds_12 rfl rfl (h2 q2))))))))
  · exact (s_AW_holds_0.go [some (.ref 0), none] [.ref 0] (aw_s I L D) rfl (z_gD4 hD4 (Or.inl w_496) d_AW_holds_1 (s_AW_holds_4.go [some (.ref 0), none] [.int (I 45 9)] (aw_s I L D) rfl (z_if_ne (tgt := 13) d_AW_holds_7 rfl (fun q1 => (s_AW_holds_13.go [some (.ref 0), some (.int (0 : Int32))] [] (aw_s I L D) rfl (h1 q1))) (fun q2 => (s_AW_holds_10.go [some (.ref 0), none] [.int (-2 : Int32)] (aw_s I L D) rfl (z_iret d_AW_holds_12 rfl rfl (h2 q2))))))))
  · exact (s_AW_holds_0.go [some (.ref 0), none] [.ref 0] (aw_s I L D) rfl (z_gD4 hD4 (Or.inl w_496) d_AW_holds_1 (s_AW_holds_4.go [some (.ref 0), none] [.int (I 50 9)] (aw_s I L D) rfl (z_if_ne (tgt := 13) d_AW_holds_7 rfl (fun q1 => (s_AW_holds_13.go [some (.ref 0), some (.int (0 : Int32))] [] (aw_s I L D) rfl (h1 q1))) (fun q2 => (s_AW_holds_10.go [some (.ref 0), none] [.int (-2 : Int32)] (aw_s I L D) rfl (z_iret d_AW_holds_12 rfl rfl (h2 q2))))))))
  · exact (s_AW_holds_0.go [some (.ref 0), none] [.ref 0] (aw_s I L D) rfl (z_gD4 hD4 (Or.inl w_496) d_AW_holds_1 (s_AW_holds_4.go [some (.ref 0), none] [.int (I 55 9)] (aw_s I L D) rfl (z_if_ne (tgt := 13) d_AW_holds_7 rfl (fun q1 => (s_AW_holds_13.go [some (.ref 0), some (.int (0 : Int32))] [] (aw_s I L D) rfl (h1 q1))) (fun q2 => (s_AW_holds_10.go [some (.ref 0), none] [.int (-2 : Int32)] (aw_s I L D) rfl (z_iret d_AW_holds_12 rfl rfl (h2 q2))))))))
theorem d_AW_holds_15 : decode y_AW_holds.2.1 15 = .ok (.iload_n 1, 1) := by decide +kernel
theorem d_AW_holds_16 : decode y_AW_holds.2.1 16 = .ok (.aload_n 0, 1) := by decide +kernel
theorem d_AW_holds_17 : decode y_AW_holds.2.1 17 = .ok (.getfield 12, 3) := by decide +kernel
theorem s_AW_holds_15 : aw_VS y_AW_holds 15 [o_ild 1, o_ald 0, o_getA 0 0] 20 := .cons (v_iload_n (i := 1) d_AW_holds_15 rfl) (.cons (v_aload_n (i := 0) d_AW_holds_16 rfl) (.cons (v_getA (k := 0) k_AW (by decide) rfl (Or.inl w_490) d_AW_holds_17) .nil))
theorem d_AW_holds_20 : decode y_AW_holds.2.1 20 = .ok (.invokevirtual 139, 3) := by decide +kernel
theorem b_AW_holds_15 {X : aw_X} {d : Nat} {Q : Option Value → aw_H → Prop} {I : Nat → Nat → Int32} {L : Nat → Nat → Int64} {D : Nat → Nat} {v1 : Int32}
    (h1 : aw_m X d y_Sz_rows [.ref 1] (aw_s I L D) (fun r A => aw_z X (d + 1) y_AW_holds Q 23 [some (.ref 0), some (.int v1)] (r.toList ++ [.int v1]) A)) :
    aw_z X (d + 1) y_AW_holds Q 15 [some (.ref 0), some (.int v1)] [] (aw_s I L D) :=
  (s_AW_holds_15.go [some (.ref 0), some (.int v1)] [.ref 1, .int v1] (aw_s I L D) rfl (z_callV (av := []) (st := [.int v1]) ok_Sz_rows (Or.inl w_877) w_878 w_879 k_Sz d_AW_holds_20 rfl (aw_lt (o := 1) rfl) rfl rfl (Nat.le_of_ble_eq_true rfl) (Nat.le_refl _) (Nat.le_refl _) (h1)))
theorem d_AW_holds_23 : decode y_AW_holds.2.1 23 = .ok (.if_icmp .ge (26), 3) := by decide +kernel
theorem d_AW_holds_49 : decode y_AW_holds.2.1 49 = .ok (.iconst (-1), 1) := by decide +kernel
theorem s_AW_holds_49 : aw_VS y_AW_holds 49 [o_c (.int (-1 : Int32))] 50 := .cons (v_iconst (v := (-1 : Int32)) d_AW_holds_49 (by decide +kernel)) .nil
theorem d_AW_holds_50 : decode y_AW_holds.2.1 50 = .ok (.ireturn, 1) := by decide +kernel
theorem d_AW_holds_26 : decode y_AW_holds.2.1 26 = .ok (.aload_n 0, 1) := by decide +kernel
theorem d_AW_holds_27 : decode y_AW_holds.2.1 27 = .ok (.getfield 28, 3) := by decide +kernel
theorem d_AW_holds_30 : decode y_AW_holds.2.1 30 = .ok (.aload_n 0, 1) := by decide +kernel
theorem s_AW_holds_26 : aw_VS y_AW_holds 26 [o_ald 0, o_getA 0 2, o_ald 0] 31 := .cons (v_aload_n (i := 0) d_AW_holds_26 rfl) (.cons (v_getA (k := 2) k_AW (by decide) rfl (Or.inl w_492) d_AW_holds_27) (.cons (v_aload_n (i := 0) d_AW_holds_30 rfl) .nil))
theorem d_AW_holds_31 : decode y_AW_holds.2.1 31 = .ok (.getfield 55, 3) := by decide +kernel
theorem d_AW_holds_34 : decode y_AW_holds.2.1 34 = .ok (.iload_n 1, 1) := by decide +kernel
theorem s_AW_holds_34 : aw_VS y_AW_holds 34 [o_ild 1] 35 := .cons (v_iload_n (i := 1) d_AW_holds_34 rfl) .nil
theorem d_AW_holds_35 : decode y_AW_holds.2.1 35 = .ok (.invokevirtual 286, 3) := by decide +kernel
theorem b_AW_holds_23 {X : aw_X} {d : Nat} {Q : Option Value → aw_H → Prop} {I : Nat → Nat → Int32} {L : Nat → Nat → Int64} {D : Nat → Nat} {v1 : Int32} {s1 : Int32} {s0 : Int32} {e4 : Nat} (hD4 : D 4 = e4)
    (h1 : s1 ≤ s0 → Q (some (.int (-1 : Int32))) (aw_s I L D))
    (h2 : ¬ s1 ≤ s0 → aw_m X d y_Mc_failingTests [.ref 4, .ref e4, .int v1] (aw_s I L D) (fun r A => aw_z X (d + 1) y_AW_holds Q 38 [some (.ref 0), some (.int v1)] (r.toList ++ []) A)) :
    aw_z X (d + 1) y_AW_holds Q 23 [some (.ref 0), some (.int v1)] [.int s1, .int s0] (aw_s I L D) :=
  (z_icmp_ge (tgt := 49) d_AW_holds_23 rfl (fun q1 => (s_AW_holds_49.go [some (.ref 0), some (.int v1)] [.int (-1 : Int32)] (aw_s I L D) rfl (z_iret d_AW_holds_50 rfl rfl (h1 q1)))) (fun q2 => (s_AW_holds_26.go [some (.ref 0), some (.int v1)] [.ref 0, .ref 4] (aw_s I L D) rfl (z_gD4 hD4 (Or.inl w_496) d_AW_holds_31 (s_AW_holds_34.go [some (.ref 0), some (.int v1)] [.int v1, .ref e4, .ref 4] (aw_s I L D) rfl (z_callV (av := [.ref e4, .int v1]) (st := []) ok_Mc_failingTests (Or.inl w_1268) w_1269 w_1270 k_Mc d_AW_holds_35 rfl (aw_lt (o := 4) rfl) rfl rfl (Nat.le_of_ble_eq_true rfl) (Nat.le_refl _) (Nat.le_refl _) (h2 q2)))))))
theorem d_AW_holds_38 : decode y_AW_holds.2.1 38 = .ok (.ifCond .ne (5), 3) := by decide +kernel
theorem d_AW_holds_43 : decode y_AW_holds.2.1 43 = .ok (.iinc 1 (1), 3) := by decide +kernel
theorem s_AW_holds_43 : aw_VS y_AW_holds 43 [o_inc 1 (1 : Int32)] 46 := .cons (v_iinc (k0 := (1 : Int32)) d_AW_holds_43 (by decide +kernel)) .nil
theorem d_AW_holds_46 : decode y_AW_holds.2.1 46 = .ok (.goto (-31), 3) := by decide +kernel
theorem d_AW_holds_41 : decode y_AW_holds.2.1 41 = .ok (.iload_n 1, 1) := by decide +kernel
theorem s_AW_holds_41 : aw_VS y_AW_holds 41 [o_ild 1] 42 := .cons (v_iload_n (i := 1) d_AW_holds_41 rfl) .nil
theorem d_AW_holds_42 : decode y_AW_holds.2.1 42 = .ok (.ireturn, 1) := by decide +kernel
theorem b_AW_holds_38 {X : aw_X} {d : Nat} {Q : Option Value → aw_H → Prop} {I : Nat → Nat → Int32} {L : Nat → Nat → Int64} {D : Nat → Nat} {v1 : Int32} {s0 : Int32}
    (h1 : ¬ s0 = 0 → aw_z X (d + 1) y_AW_holds Q 15 [some (.ref 0), some (.int (v1 + (1 : Int32)))] [] (aw_s I L D))
    (h2 : s0 = 0 → Q (some (.int v1)) (aw_s I L D)) :
    aw_z X (d + 1) y_AW_holds Q 38 [some (.ref 0), some (.int v1)] [.int s0] (aw_s I L D) :=
  (z_if_ne (tgt := 43) d_AW_holds_38 rfl (fun q1 => (s_AW_holds_43.go [some (.ref 0), some (.int (v1 + (1 : Int32)))] [] (aw_s I L D) rfl (z_goto (tgt := 15) d_AW_holds_46 rfl (h1 q1)))) (fun q2 => (s_AW_holds_41.go [some (.ref 0), some (.int v1)] [.int v1] (aw_s I L D) rfl (z_iret d_AW_holds_42 rfl rfl (h2 q2)))))
/-! AW_proof -/
theorem d_AW_proof_0 : decode y_AW_proof.2.1 0 = .ok (.aload_n 0, 1) := by decide +kernel
theorem s_AW_proof_0 : aw_VS y_AW_proof 0 [o_ald 0] 1 := .cons (v_aload_n (i := 0) d_AW_proof_0 rfl) .nil
theorem d_AW_proof_1 : decode y_AW_proof.2.1 1 = .ok (.getfield 55, 3) := by decide +kernel
theorem d_AW_proof_4 : decode y_AW_proof.2.1 4 = .ok (.getfield 283, 3) := by decide +kernel
theorem s_AW_proof_4 : aw_VS y_AW_proof 4 [o_getI 6 9] 7 := .cons (v_getI (k := 9) k_Cd (by decide) (Or.inl rfl) (Or.inr ⟨"AllWays", w_403⟩) d_AW_proof_4) .nil
theorem d_AW_proof_7 : decode y_AW_proof.2.1 7 = .ok (.ifCond .eq (15), 3) := by decide +kernel
theorem d_AW_proof_22 : decode y_AW_proof.2.1 22 = .ok (.bipush (-2), 2) := by decide +kernel
theorem s_AW_proof_22 : aw_VS y_AW_proof 22 [o_c (.int (-2 : Int32))] 24 := .cons (v_bipush (v := (-2 : Int32)) d_AW_proof_22 (by decide +kernel)) .nil
theorem d_AW_proof_24 : decode y_AW_proof.2.1 24 = .ok (.ireturn, 1) := by decide +kernel
theorem d_AW_proof_10 : decode y_AW_proof.2.1 10 = .ok (.aload_n 0, 1) := by decide +kernel
theorem d_AW_proof_11 : decode y_AW_proof.2.1 11 = .ok (.getfield 12, 3) := by decide +kernel
theorem s_AW_proof_10 : aw_VS y_AW_proof 10 [o_ald 0, o_getA 0 0] 14 := .cons (v_aload_n (i := 0) d_AW_proof_10 rfl) (.cons (v_getA (k := 0) k_AW (by decide) rfl (Or.inl w_490) d_AW_proof_11) .nil)
theorem d_AW_proof_14 : decode y_AW_proof.2.1 14 = .ok (.invokevirtual 271, 3) := by decide +kernel
theorem b_AW_proof_0 {X : aw_X} {d : Nat} {Q : Option Value → aw_H → Prop} {I : Nat → Nat → Int32} {L : Nat → Nat → Int64} {D : Nat → Nat} {e4 : Nat} (hD4 : D 4 = e4) (he4 : e4 ∈ aw_codes)
    (h1 : (I e4 9) = 0 → Q (some (.int (-2 : Int32))) (aw_s I L D))
    (h2 : ¬ (I e4 9) = 0 → aw_m X d y_Sz_rowBits [.ref 1] (aw_s I L D) (fun r A => aw_z X (d + 1) y_AW_proof Q 17 [some (.ref 0)] (r.toList ++ []) A)) :
    aw_z X (d + 1) y_AW_proof Q 0 [some (.ref 0)] [] (aw_s I L D) := by
  simp only [aw_codes, List.mem_cons, List.not_mem_nil, or_false] at he4
  rcases he4 with rfl | rfl | rfl | rfl | rfl | rfl
  · exact (s_AW_proof_0.go [some (.ref 0)] [.ref 0] (aw_s I L D) rfl (z_gD4 hD4 (Or.inl w_496) d_AW_proof_1 (s_AW_proof_4.go [some (.ref 0)] [.int (I 30 9)] (aw_s I L D) rfl (z_if_eq (tgt := 22) d_AW_proof_7 rfl (fun q1 => (s_AW_proof_22.go [some (.ref 0)] [.int (-2 : Int32)] (aw_s I L D) rfl (z_iret d_AW_proof_24 rfl rfl (h1 q1)))) (fun q2 => (s_AW_proof_10.go [some (.ref 0)] [.ref 1] (aw_s I L D) rfl (z_callV (av := []) (st := []) ok_Sz_rowBits (Or.inl w_1232) w_882 w_883 k_Sz d_AW_proof_14 rfl (aw_lt (o := 1) rfl) rfl rfl (Nat.le_of_ble_eq_true rfl) (Nat.le_refl _) (Nat.le_refl _) (h2 q2))))))))
  · exact (s_AW_proof_0.go [some (.ref 0)] [.ref 0] (aw_s I L D) rfl (z_gD4 hD4 (Or.inl w_496) d_AW_proof_1 (s_AW_proof_4.go [some (.ref 0)] [.int (I 35 9)] (aw_s I L D) rfl (z_if_eq (tgt := 22) d_AW_proof_7 rfl (fun q1 => (s_AW_proof_22.go [some (.ref 0)] [.int (-2 : Int32)] (aw_s I L D) rfl (z_iret d_AW_proof_24 rfl rfl (h1 q1)))) (fun q2 => (s_AW_proof_10.go [some (.ref 0)] [.ref 1] (aw_s I L D) rfl (z_callV (av := []) (st := []) ok_Sz_rowBits (Or.inl w_1232) w_882 w_883 k_Sz d_AW_proof_14 rfl (aw_lt (o := 1) rfl) rfl rfl (Nat.le_of_ble_eq_true rfl) (Nat.le_refl _) (Nat.le_refl _) (h2 q2))))))))
  · exact (s_AW_proof_0.go [some (.ref 0)] [.ref 0] (aw_s I L D) rfl (z_gD4 hD4 (Or.inl w_496) d_AW_proof_1 (s_AW_proof_4.go [some (.ref 0)] [.int (I 40 9)] (aw_s I L D) rfl (z_if_eq (tgt := 22) d_AW_proof_7 rfl (fun q1 => (s_AW_proof_22.go [some (.ref 0)] [.int (-2 : Int32)] (aw_s I L D) rfl (z_iret d_AW_proof_24 rfl rfl (h1 q1)))) (fun q2 => (s_AW_proof_10.go [some (.ref 0)] [.ref 1] (aw_s I L D) rfl (z_callV (av := []) (st := []) ok_Sz_rowBits (Or.inl w_1232) w_882 w_883 k_Sz d_AW_proof_14 rfl (aw_lt (o := 1) rfl) rfl rfl (Nat.le_of_ble_eq_true rfl) (Nat.le_refl _) (Nat.le_refl _) (h2 q2))))))))
  · exact (s_AW_proof_0.go [some (.ref 0)] [.ref 0] (aw_s I L D) rfl (z_gD4 hD4 (Or.inl w_496) d_AW_proof_1 (s_AW_proof_4.go [some (.ref 0)] [.int (I 45 9)] (aw_s I L D) rfl (z_if_eq (tgt := 22) d_AW_proof_7 rfl (fun q1 => (s_AW_proof_22.go [some (.ref 0)] [.int (-2 : Int32)] (aw_s I L D) rfl (z_iret d_AW_proof_24 rfl rfl (h1 q1)))) (fun q2 => (s_AW_proof_10.go [some (.ref 0)] [.ref 1] (aw_s I L D) rfl (z_callV (av := []) (st := []) ok_Sz_rowBits (Or.inl w_1232) w_882 w_883 k_Sz d_AW_proof_14 rfl (aw_lt (o := 1) rfl) rfl rfl (Nat.le_of_ble_eq_true rfl) (Nat.le_refl _) (Nat.le_refl _) (h2 q2))))))))
  · exact (s_AW_proof_0.go [some (.ref 0)] [.ref 0] (aw_s I L D) rfl (z_gD4 hD4 (Or.inl w_496) d_AW_proof_1 (s_AW_proof_4.go [some (.ref 0)] [.int (I 50 9)] (aw_s I L D) rfl (z_if_eq (tgt := 22) d_AW_proof_7 rfl (fun q1 => (s_AW_proof_22.go [some (.ref 0)] [.int (-2 : Int32)] (aw_s I L D) rfl (z_iret d_AW_proof_24 rfl rfl (h1 q1)))) (fun q2 => (s_AW_proof_10.go [some (.ref 0)] [.ref 1] (aw_s I L D) rfl (z_callV (av := []) (st := []) ok_Sz_rowBits (Or.inl w_1232) w_882 w_883 k_Sz d_AW_proof_14 rfl (aw_lt (o := 1) rfl) rfl rfl (Nat.le_of_ble_eq_true rfl) (Nat.le_refl _) (Nat.le_refl _) (h2 q2))))))))
  · exact (s_AW_proof_0.go [some (.ref 0)] [.ref 0] (aw_s I L D) rfl (z_gD4 hD4 (Or.inl w_496) d_AW_proof_1 (s_AW_proof_4.go [some (.ref 0)] [.int (I 55 9)] (aw_s I L D) rfl (z_if_eq (tgt := 22) d_AW_proof_7 rfl (fun q1 => (s_AW_proof_22.go [some (.ref 0)] [.int (-2 : Int32)] (aw_s I L D) rfl (z_iret d_AW_proof_24 rfl rfl (h1 q1)))) (fun q2 => (s_AW_proof_10.go [some (.ref 0)] [.ref 1] (aw_s I L D) rfl (z_callV (av := []) (st := []) ok_Sz_rowBits (Or.inl w_1232) w_882 w_883 k_Sz d_AW_proof_14 rfl (aw_lt (o := 1) rfl) rfl rfl (Nat.le_of_ble_eq_true rfl) (Nat.le_refl _) (Nat.le_refl _) (h2 q2))))))))
theorem d_AW_proof_17 : decode y_AW_proof.2.1 17 = .ok (.bipush 8, 2) := by decide +kernel
theorem s_AW_proof_17 : aw_VS y_AW_proof 17 [o_c (.int (8 : Int32))] 19 := .cons (v_bipush (v := (8 : Int32)) d_AW_proof_17 (by decide +kernel)) .nil
theorem d_AW_proof_19 : decode y_AW_proof.2.1 19 = .ok (.if_icmp .le (6), 3) := by decide +kernel
theorem d_AW_proof_25 : decode y_AW_proof.2.1 25 = .ok (.aload_n 0, 1) := by decide +kernel
theorem d_AW_proof_26 : decode y_AW_proof.2.1 26 = .ok (.getfield 44, 3) := by decide +kernel
theorem d_AW_proof_29 : decode y_AW_proof.2.1 29 = .ok (.aload_n 0, 1) := by decide +kernel
theorem s_AW_proof_25 : aw_VS y_AW_proof 25 [o_ald 0, o_getA 0 4, o_ald 0] 30 := .cons (v_aload_n (i := 0) d_AW_proof_25 rfl) (.cons (v_getA (k := 4) k_AW (by decide) rfl (Or.inl w_494) d_AW_proof_26) (.cons (v_aload_n (i := 0) d_AW_proof_29 rfl) .nil))
theorem d_AW_proof_30 : decode y_AW_proof.2.1 30 = .ok (.getfield 55, 3) := by decide +kernel
theorem d_AW_proof_33 : decode y_AW_proof.2.1 33 = .ok (.invokevirtual 290, 3) := by decide +kernel
theorem b_AW_proof_17 {X : aw_X} {d : Nat} {Q : Option Value → aw_H → Prop} {I : Nat → Nat → Int32} {L : Nat → Nat → Int64} {D : Nat → Nat} {s0 : Int32} {e4 : Nat} (hD4 : D 4 = e4)
    (h1 : s0 ≤ (8 : Int32) → aw_m X d y_Pf_find [.ref 23, .ref e4] (aw_s I L D) (fun r A => aw_z X (d + 1) y_AW_proof Q 36 [none] (r.toList ++ []) A))
    (h2 : ¬ s0 ≤ (8 : Int32) → Q (some (.int (-2 : Int32))) (aw_s I L D)) :
    aw_z X (d + 1) y_AW_proof Q 17 [some (.ref 0)] [.int s0] (aw_s I L D) :=
  (s_AW_proof_17.go [some (.ref 0)] [.int (8 : Int32), .int s0] (aw_s I L D) rfl (z_icmp_le (tgt := 25) d_AW_proof_19 rfl (fun q1 => (s_AW_proof_25.go [some (.ref 0)] [.ref 0, .ref 23] (aw_s I L D) rfl (z_gD4 hD4 (Or.inl w_496) d_AW_proof_30 (z_callV (av := [.ref e4]) (st := []) ok_Pf_find (Or.inl w_1280) w_1281 w_1282 k_Pf d_AW_proof_33 rfl (aw_lt (o := 23) rfl) rfl rfl (Nat.le_of_ble_eq_true rfl) (Nat.le_refl _) (Nat.le_refl _) (aw_C.mono (h1 q1) (fun _ _ zz => aw_Z.weak (ls' := [none]) zz (Nat.le_of_ble_eq_true rfl) ⟨Or.inl rfl, trivial⟩)))))) (fun q2 => (s_AW_proof_22.go [some (.ref 0)] [.int (-2 : Int32)] (aw_s I L D) rfl (z_iret d_AW_proof_24 rfl rfl (h2 q2))))))
theorem d_AW_proof_36 : decode y_AW_proof.2.1 36 = .ok (.ireturn, 1) := by decide +kernel
theorem b_AW_proof_36 {X : aw_X} {d : Nat} {Q : Option Value → aw_H → Prop} {I : Nat → Nat → Int32} {L : Nat → Nat → Int64} {D : Nat → Nat} {s0 : Int32}
    (h1 : Q (some (.int s0)) (aw_s I L D)) :
    aw_z X (d + 1) y_AW_proof Q 36 [none] [.int s0] (aw_s I L D) :=
  (z_iret d_AW_proof_36 rfl rfl (h1))
/-! AW_proofAt -/
theorem d_AW_proofAt_0 : decode y_AW_proofAt.2.1 0 = .ok (.aload_n 0, 1) := by decide +kernel
theorem d_AW_proofAt_1 : decode y_AW_proofAt.2.1 1 = .ok (.getfield 44, 3) := by decide +kernel
theorem d_AW_proofAt_4 : decode y_AW_proofAt.2.1 4 = .ok (.iload_n 1, 1) := by decide +kernel
theorem s_AW_proofAt_0 : aw_VS y_AW_proofAt 0 [o_ald 0, o_getA 0 4, o_ild 1] 5 := .cons (v_aload_n (i := 0) d_AW_proofAt_0 rfl) (.cons (v_getA (k := 4) k_AW (by decide) rfl (Or.inl w_494) d_AW_proofAt_1) (.cons (v_iload_n (i := 1) d_AW_proofAt_4 rfl) .nil))
theorem d_AW_proofAt_5 : decode y_AW_proofAt.2.1 5 = .ok (.invokevirtual 294, 3) := by decide +kernel
theorem b_AW_proofAt_0 {X : aw_X} {d : Nat} {Q : Option Value → aw_H → Prop} {I : Nat → Nat → Int32} {L : Nat → Nat → Int64} {D : Nat → Nat} {v1 : Int32}
    (h1 : aw_m X d y_Pf_byteAt [.ref 23, .int v1] (aw_s I L D) (fun r A => aw_z X (d + 1) y_AW_proofAt Q 8 [none, none] (r.toList ++ []) A)) :
    aw_z X (d + 1) y_AW_proofAt Q 0 [some (.ref 0), some (.int v1)] [] (aw_s I L D) :=
  (s_AW_proofAt_0.go [some (.ref 0), some (.int v1)] [.int v1, .ref 23] (aw_s I L D) rfl (z_callV (av := [.int v1]) (st := []) ok_Pf_byteAt (Or.inl w_1340) w_1341 w_1342 k_Pf d_AW_proofAt_5 rfl (aw_lt (o := 23) rfl) rfl rfl (Nat.le_of_ble_eq_true rfl) (Nat.le_refl _) (Nat.le_refl _) (aw_C.mono (h1) (fun _ _ zz => aw_Z.weak (ls' := [none, none]) zz (Nat.le_of_ble_eq_true rfl) ⟨Or.inl rfl, ⟨Or.inl rfl, trivial⟩⟩))))
theorem d_AW_proofAt_8 : decode y_AW_proofAt.2.1 8 = .ok (.ireturn, 1) := by decide +kernel
theorem b_AW_proofAt_8 {X : aw_X} {d : Nat} {Q : Option Value → aw_H → Prop} {I : Nat → Nat → Int32} {L : Nat → Nat → Int64} {D : Nat → Nat} {s0 : Int32}
    (h1 : Q (some (.int s0)) (aw_s I L D)) :
    aw_z X (d + 1) y_AW_proofAt Q 8 [none, none] [.int s0] (aw_s I L D) :=
  (z_iret d_AW_proofAt_8 rfl rfl (h1))
/-! AW_check -/
theorem d_AW_check_0 : decode y_AW_check.2.1 0 = .ok (.aload_n 0, 1) := by decide +kernel
theorem s_AW_check_0 : aw_VS y_AW_check 0 [o_ald 0] 1 := .cons (v_aload_n (i := 0) d_AW_check_0 rfl) .nil
theorem d_AW_check_1 : decode y_AW_check.2.1 1 = .ok (.getfield 55, 3) := by decide +kernel
theorem d_AW_check_4 : decode y_AW_check.2.1 4 = .ok (.getfield 283, 3) := by decide +kernel
theorem s_AW_check_4 : aw_VS y_AW_check 4 [o_getI 6 9] 7 := .cons (v_getI (k := 9) k_Cd (by decide) (Or.inl rfl) (Or.inr ⟨"AllWays", w_403⟩) d_AW_check_4) .nil
theorem d_AW_check_7 : decode y_AW_check.2.1 7 = .ok (.ifCond .eq (15), 3) := by decide +kernel
theorem d_AW_check_10 : decode y_AW_check.2.1 10 = .ok (.aload_n 0, 1) := by decide +kernel
theorem d_AW_check_11 : decode y_AW_check.2.1 11 = .ok (.getfield 12, 3) := by decide +kernel
theorem s_AW_check_10 : aw_VS y_AW_check 10 [o_ald 0, o_getA 0 0] 14 := .cons (v_aload_n (i := 0) d_AW_check_10 rfl) (.cons (v_getA (k := 0) k_AW (by decide) rfl (Or.inl w_490) d_AW_check_11) .nil)
theorem d_AW_check_14 : decode y_AW_check.2.1 14 = .ok (.invokevirtual 271, 3) := by decide +kernel
theorem b_AW_check_0 {X : aw_X} {d : Nat} {Q : Option Value → aw_H → Prop} {I : Nat → Nat → Int32} {L : Nat → Nat → Int64} {D : Nat → Nat} {e4 : Nat} (hD4 : D 4 = e4) (he4 : e4 ∈ aw_codes)
    (h1 : (I e4 9) = 0 → aw_z X (d + 1) y_AW_check Q 22 [some (.ref 0), none] [] (aw_s I L D))
    (h2 : ¬ (I e4 9) = 0 → aw_m X d y_Sz_rowBits [.ref 1] (aw_s I L D) (fun r A => aw_z X (d + 1) y_AW_check Q 17 [some (.ref 0), none] (r.toList ++ []) A)) :
    aw_z X (d + 1) y_AW_check Q 0 [some (.ref 0), none] [] (aw_s I L D) := by
  simp only [aw_codes, List.mem_cons, List.not_mem_nil, or_false] at he4
  rcases he4 with rfl | rfl | rfl | rfl | rfl | rfl
  · exact (s_AW_check_0.go [some (.ref 0), none] [.ref 0] (aw_s I L D) rfl (z_gD4 hD4 (Or.inl w_496) d_AW_check_1 (s_AW_check_4.go [some (.ref 0), none] [.int (I 30 9)] (aw_s I L D) rfl (z_if_eq (tgt := 22) d_AW_check_7 rfl (fun q1 => (h1 q1)) (fun q2 => (s_AW_check_10.go [some (.ref 0), none] [.ref 1] (aw_s I L D) rfl (z_callV (av := []) (st := []) ok_Sz_rowBits (Or.inl w_1232) w_882 w_883 k_Sz d_AW_check_14 rfl (aw_lt (o := 1) rfl) rfl rfl (Nat.le_of_ble_eq_true rfl) (Nat.le_refl _) (Nat.le_refl _) (h2 q2))))))))
  · exact (s_AW_check_0.go [some (.ref 0), none] [.ref 0] (aw_s I L D) rfl (z_gD4 hD4 (Or.inl w_496) d_AW_check_1 (s_AW_check_4.go [some (.ref 0), none] [.int (I 35 9)] (aw_s I L D) rfl (z_if_eq (tgt := 22) d_AW_check_7 rfl (fun q1 => (h1 q1)) (fun q2 => (s_AW_check_10.go [some (.ref 0), none] [.ref 1] (aw_s I L D) rfl (z_callV (av := []) (st := []) ok_Sz_rowBits (Or.inl w_1232) w_882 w_883 k_Sz d_AW_check_14 rfl (aw_lt (o := 1) rfl) rfl rfl (Nat.le_of_ble_eq_true rfl) (Nat.le_refl _) (Nat.le_refl _) (h2 q2))))))))
  · exact (s_AW_check_0.go [some (.ref 0), none] [.ref 0] (aw_s I L D) rfl (z_gD4 hD4 (Or.inl w_496) d_AW_check_1 (s_AW_check_4.go [some (.ref 0), none] [.int (I 40 9)] (aw_s I L D) rfl (z_if_eq (tgt := 22) d_AW_check_7 rfl (fun q1 => (h1 q1)) (fun q2 => (s_AW_check_10.go [some (.ref 0), none] [.ref 1] (aw_s I L D) rfl (z_callV (av := []) (st := []) ok_Sz_rowBits (Or.inl w_1232) w_882 w_883 k_Sz d_AW_check_14 rfl (aw_lt (o := 1) rfl) rfl rfl (Nat.le_of_ble_eq_true rfl) (Nat.le_refl _) (Nat.le_refl _) (h2 q2))))))))
  · exact (s_AW_check_0.go [some (.ref 0), none] [.ref 0] (aw_s I L D) rfl (z_gD4 hD4 (Or.inl w_496) d_AW_check_1 (s_AW_check_4.go [some (.ref 0), none] [.int (I 45 9)] (aw_s I L D) rfl (z_if_eq (tgt := 22) d_AW_check_7 rfl (fun q1 => (h1 q1)) (fun q2 => (s_AW_check_10.go [some (.ref 0), none] [.ref 1] (aw_s I L D) rfl (z_callV (av := []) (st := []) ok_Sz_rowBits (Or.inl w_1232) w_882 w_883 k_Sz d_AW_check_14 rfl (aw_lt (o := 1) rfl) rfl rfl (Nat.le_of_ble_eq_true rfl) (Nat.le_refl _) (Nat.le_refl _) (h2 q2))))))))
  · exact (s_AW_check_0.go [some (.ref 0), none] [.ref 0] (aw_s I L D) rfl (z_gD4 hD4 (Or.inl w_496) d_AW_check_1 (s_AW_check_4.go [some (.ref 0), none] [.int (I 50 9)] (aw_s I L D) rfl (z_if_eq (tgt := 22) d_AW_check_7 rfl (fun q1 => (h1 q1)) (fun q2 => (s_AW_check_10.go [some (.ref 0), none] [.ref 1] (aw_s I L D) rfl (z_callV (av := []) (st := []) ok_Sz_rowBits (Or.inl w_1232) w_882 w_883 k_Sz d_AW_check_14 rfl (aw_lt (o := 1) rfl) rfl rfl (Nat.le_of_ble_eq_true rfl) (Nat.le_refl _) (Nat.le_refl _) (h2 q2))))))))
  · exact (s_AW_check_0.go [some (.ref 0), none] [.ref 0] (aw_s I L D) rfl (z_gD4 hD4 (Or.inl w_496) d_AW_check_1 (s_AW_check_4.go [some (.ref 0), none] [.int (I 55 9)] (aw_s I L D) rfl (z_if_eq (tgt := 22) d_AW_check_7 rfl (fun q1 => (h1 q1)) (fun q2 => (s_AW_check_10.go [some (.ref 0), none] [.ref 1] (aw_s I L D) rfl (z_callV (av := []) (st := []) ok_Sz_rowBits (Or.inl w_1232) w_882 w_883 k_Sz d_AW_check_14 rfl (aw_lt (o := 1) rfl) rfl rfl (Nat.le_of_ble_eq_true rfl) (Nat.le_refl _) (Nat.le_refl _) (h2 q2))))))))
theorem d_AW_check_22 : decode y_AW_check.2.1 22 = .ok (.aload_n 0, 1) := by decide +kernel
theorem d_AW_check_23 : decode y_AW_check.2.1 23 = .ok (.getfield 19, 3) := by decide +kernel
theorem d_AW_check_26 : decode y_AW_check.2.1 26 = .ok (.iconst 0, 1) := by decide +kernel
theorem s_AW_check_22 : aw_VS y_AW_check 22 [o_ald 0, o_getA 0 1, o_c (.int (0 : Int32))] 27 := .cons (v_aload_n (i := 0) d_AW_check_22 rfl) (.cons (v_getA (k := 1) k_AW (by decide) rfl (Or.inl w_491) d_AW_check_23) (.cons (v_iconst (v := (0 : Int32)) d_AW_check_26 (by decide +kernel)) .nil))
theorem d_AW_check_27 : decode y_AW_check.2.1 27 = .ok (.invokevirtual 99, 3) := by decide +kernel
theorem b_AW_check_22 {X : aw_X} {d : Nat} {Q : Option Value → aw_H → Prop} {I : Nat → Nat → Int32} {L : Nat → Nat → Int64} {D : Nat → Nat} 
    (h1 : aw_m X d y_Tp_cut [.ref 2, .int (0 : Int32)] (aw_s I L D) (fun r A => aw_z X (d + 1) y_AW_check Q 30 [none, none] (r.toList ++ []) A)) :
    aw_z X (d + 1) y_AW_check Q 22 [some (.ref 0), none] [] (aw_s I L D) :=
  (s_AW_check_22.go [some (.ref 0), none] [.int (0 : Int32), .ref 2] (aw_s I L D) rfl (z_callV (av := [.int (0 : Int32)]) (st := []) ok_Tp_cut (Or.inl w_561) w_562 w_563 k_Tp d_AW_check_27 rfl (aw_lt (o := 2) rfl) rfl rfl (Nat.le_of_ble_eq_true rfl) (Nat.le_refl _) (Nat.le_refl _) (aw_C.mono (h1) (fun _ _ zz => aw_Z.weak (ls' := [none, none]) zz (Nat.le_of_ble_eq_true rfl) ⟨Or.inl rfl, ⟨Or.inl rfl, trivial⟩⟩))))
theorem d_AW_check_17 : decode y_AW_check.2.1 17 = .ok (.bipush 8, 2) := by decide +kernel
theorem s_AW_check_17 : aw_VS y_AW_check 17 [o_c (.int (8 : Int32))] 19 := .cons (v_bipush (v := (8 : Int32)) d_AW_check_17 (by decide +kernel)) .nil
theorem d_AW_check_19 : decode y_AW_check.2.1 19 = .ok (.if_icmp .le (15), 3) := by decide +kernel
theorem d_AW_check_34 : decode y_AW_check.2.1 34 = .ok (.aload_n 0, 1) := by decide +kernel
theorem d_AW_check_35 : decode y_AW_check.2.1 35 = .ok (.getfield 44, 3) := by decide +kernel
theorem d_AW_check_38 : decode y_AW_check.2.1 38 = .ok (.aload_n 0, 1) := by decide +kernel
theorem s_AW_check_34 : aw_VS y_AW_check 34 [o_ald 0, o_getA 0 4, o_ald 0] 39 := .cons (v_aload_n (i := 0) d_AW_check_34 rfl) (.cons (v_getA (k := 4) k_AW (by decide) rfl (Or.inl w_494) d_AW_check_35) (.cons (v_aload_n (i := 0) d_AW_check_38 rfl) .nil))
theorem d_AW_check_39 : decode y_AW_check.2.1 39 = .ok (.getfield 55, 3) := by decide +kernel
theorem d_AW_check_42 : decode y_AW_check.2.1 42 = .ok (.aload_n 0, 1) := by decide +kernel
theorem d_AW_check_43 : decode y_AW_check.2.1 43 = .ok (.getfield 19, 3) := by decide +kernel
theorem s_AW_check_42 : aw_VS y_AW_check 42 [o_ald 0, o_getA 0 1] 46 := .cons (v_aload_n (i := 0) d_AW_check_42 rfl) (.cons (v_getA (k := 1) k_AW (by decide) rfl (Or.inl w_491) d_AW_check_43) .nil)
theorem d_AW_check_46 : decode y_AW_check.2.1 46 = .ok (.invokevirtual 297, 3) := by decide +kernel
theorem b_AW_check_17 {X : aw_X} {d : Nat} {Q : Option Value → aw_H → Prop} {I : Nat → Nat → Int32} {L : Nat → Nat → Int64} {D : Nat → Nat} {s0 : Int32} {e4 : Nat} (hD4 : D 4 = e4)
    (h1 : s0 ≤ (8 : Int32) → aw_m X d y_Pf_firstWrong [.ref 23, .ref e4, .ref 2] (aw_s I L D) (fun r A => aw_z X (d + 1) y_AW_check Q 49 [some (.ref 0), none] (r.toList ++ []) A))
    (h2 : ¬ s0 ≤ (8 : Int32) → aw_z X (d + 1) y_AW_check Q 22 [some (.ref 0), none] [] (aw_s I L D)) :
    aw_z X (d + 1) y_AW_check Q 17 [some (.ref 0), none] [.int s0] (aw_s I L D) :=
  (s_AW_check_17.go [some (.ref 0), none] [.int (8 : Int32), .int s0] (aw_s I L D) rfl (z_icmp_le (tgt := 34) d_AW_check_19 rfl (fun q1 => (s_AW_check_34.go [some (.ref 0), none] [.ref 0, .ref 23] (aw_s I L D) rfl (z_gD4 hD4 (Or.inl w_496) d_AW_check_39 (s_AW_check_42.go [some (.ref 0), none] [.ref 2, .ref e4, .ref 23] (aw_s I L D) rfl (z_callV (av := [.ref e4, .ref 2]) (st := []) ok_Pf_firstWrong (Or.inl w_1348) w_1349 w_1350 k_Pf d_AW_check_46 rfl (aw_lt (o := 23) rfl) rfl rfl (Nat.le_of_ble_eq_true rfl) (Nat.le_refl _) (Nat.le_refl _) (h1 q1)))))) (fun q2 => (h2 q2))))
theorem d_AW_check_30 : decode y_AW_check.2.1 30 = .ok (.pop, 1) := by decide +kernel
theorem d_AW_check_31 : decode y_AW_check.2.1 31 = .ok (.bipush (-2), 2) := by decide +kernel
theorem s_AW_check_30 : aw_VS y_AW_check 30 [o_pop, o_c (.int (-2 : Int32))] 33 := .cons (v_pop d_AW_check_30) (.cons (v_bipush (v := (-2 : Int32)) d_AW_check_31 (by decide +kernel)) .nil)
theorem d_AW_check_33 : decode y_AW_check.2.1 33 = .ok (.ireturn, 1) := by decide +kernel
theorem b_AW_check_30 {X : aw_X} {d : Nat} {Q : Option Value → aw_H → Prop} {I : Nat → Nat → Int32} {L : Nat → Nat → Int64} {D : Nat → Nat} {s0 : Int32}
    (h1 : Q (some (.int (-2 : Int32))) (aw_s I L D)) :
    aw_z X (d + 1) y_AW_check Q 30 [none, none] [.int s0] (aw_s I L D) :=
  (s_AW_check_30.go [none, none] [.int (-2 : Int32)] (aw_s I L D) rfl (z_iret d_AW_check_33 rfl rfl (h1)))
theorem d_AW_check_49 : decode y_AW_check.2.1 49 = .ok (.istore_n 1, 1) := by decide +kernel
theorem d_AW_check_50 : decode y_AW_check.2.1 50 = .ok (.aload_n 0, 1) := by decide +kernel
theorem d_AW_check_51 : decode y_AW_check.2.1 51 = .ok (.getfield 19, 3) := by decide +kernel
theorem d_AW_check_54 : decode y_AW_check.2.1 54 = .ok (.iconst 0, 1) := by decide +kernel
theorem s_AW_check_49 : aw_VS y_AW_check 49 [o_ist 1, o_ald 0, o_getA 0 1, o_c (.int (0 : Int32))] 55 := .cons (v_istore_n d_AW_check_49) (.cons (v_aload_n (i := 0) d_AW_check_50 rfl) (.cons (v_getA (k := 1) k_AW (by decide) rfl (Or.inl w_491) d_AW_check_51) (.cons (v_iconst (v := (0 : Int32)) d_AW_check_54 (by decide +kernel)) .nil)))
theorem d_AW_check_55 : decode y_AW_check.2.1 55 = .ok (.invokevirtual 99, 3) := by decide +kernel
theorem b_AW_check_49 {X : aw_X} {d : Nat} {Q : Option Value → aw_H → Prop} {I : Nat → Nat → Int32} {L : Nat → Nat → Int64} {D : Nat → Nat} {s0 : Int32}
    (h1 : aw_m X d y_Tp_cut [.ref 2, .int (0 : Int32)] (aw_s I L D) (fun r A => aw_z X (d + 1) y_AW_check Q 58 [none, some (.int s0)] (r.toList ++ []) A)) :
    aw_z X (d + 1) y_AW_check Q 49 [some (.ref 0), none] [.int s0] (aw_s I L D) :=
  (s_AW_check_49.go [some (.ref 0), some (.int s0)] [.int (0 : Int32), .ref 2] (aw_s I L D) rfl (z_callV (av := [.int (0 : Int32)]) (st := []) ok_Tp_cut (Or.inl w_561) w_562 w_563 k_Tp d_AW_check_55 rfl (aw_lt (o := 2) rfl) rfl rfl (Nat.le_of_ble_eq_true rfl) (Nat.le_refl _) (Nat.le_refl _) (aw_C.mono (h1) (fun _ _ zz => aw_Z.weak (ls' := [none, some (.int s0)]) zz (Nat.le_of_ble_eq_true rfl) ⟨Or.inl rfl, ⟨Or.inr rfl, trivial⟩⟩))))
theorem d_AW_check_58 : decode y_AW_check.2.1 58 = .ok (.pop, 1) := by decide +kernel
theorem d_AW_check_59 : decode y_AW_check.2.1 59 = .ok (.iload_n 1, 1) := by decide +kernel
theorem s_AW_check_58 : aw_VS y_AW_check 58 [o_pop, o_ild 1] 60 := .cons (v_pop d_AW_check_58) (.cons (v_iload_n (i := 1) d_AW_check_59 rfl) .nil)
theorem d_AW_check_60 : decode y_AW_check.2.1 60 = .ok (.ireturn, 1) := by decide +kernel
theorem b_AW_check_58 {X : aw_X} {d : Nat} {Q : Option Value → aw_H → Prop} {I : Nat → Nat → Int32} {L : Nat → Nat → Int64} {D : Nat → Nat} {v1 : Int32} {s0 : Int32}
    (h1 : Q (some (.int v1)) (aw_s I L D)) :
    aw_z X (d + 1) y_AW_check Q 58 [none, some (.int v1)] [.int s0] (aw_s I L D) :=
  (s_AW_check_58.go [none, some (.int v1)] [.int v1] (aw_s I L D) rfl (z_iret d_AW_check_60 rfl rfl (h1)))
/-! AW_run -/
theorem d_AW_run_0 : decode y_AW_run.2.1 0 = .ok (.aload_n 0, 1) := by decide +kernel
theorem d_AW_run_1 : decode y_AW_run.2.1 1 = .ok (.iload_n 1, 1) := by decide +kernel
theorem s_AW_run_0 : aw_VS y_AW_run 0 [o_ald 0, o_ild 1] 2 := .cons (v_aload_n (i := 0) d_AW_run_0 rfl) (.cons (v_iload_n (i := 1) d_AW_run_1 rfl) .nil)
theorem d_AW_run_2 : decode y_AW_run.2.1 2 = .ok (.invokevirtual 102, 3) := by decide +kernel
theorem b_AW_run_0 {X : aw_X} {d : Nat} {Q : Option Value → aw_H → Prop} {I : Nat → Nat → Int32} {L : Nat → Nat → Int64} {D : Nat → Nat} {v1 : Int32} {v2 : Int32} {v3 : Int32}
    (h1 : aw_m X d y_AW_programAt [.ref 0, .int v1] (aw_s I L D) (fun r A => aw_z X (d + 1) y_AW_run Q 5 [some (.ref 0), none, some (.int v2), some (.int v3), none] (r.toList ++ []) A)) :
    aw_z X (d + 1) y_AW_run Q 0 [some (.ref 0), some (.int v1), some (.int v2), some (.int v3), none] [] (aw_s I L D) :=
  (s_AW_run_0.go [some (.ref 0), some (.int v1), some (.int v2), some (.int v3), none] [.int v1, .ref 0] (aw_s I L D) rfl (z_callV (av := [.int v1]) (st := []) ok_AW_programAt (Or.inl w_569) w_571 w_0 k_AW d_AW_run_2 rfl (aw_lt (o := 0) rfl) rfl rfl (Nat.le_of_ble_eq_true rfl) (Nat.le_refl _) (Nat.le_refl _) (aw_C.mono (h1) (fun _ _ zz => aw_Z.weak (ls' := [some (.ref 0), none, some (.int v2), some (.int v3), none]) zz (Nat.le_of_ble_eq_true rfl) ⟨Or.inr rfl, ⟨Or.inl rfl, ⟨Or.inr rfl, ⟨Or.inr rfl, ⟨Or.inl rfl, trivial⟩⟩⟩⟩⟩))))
theorem d_AW_run_5 : decode y_AW_run.2.1 5 = .ok (.astore 4, 2) := by decide +kernel
theorem d_AW_run_7 : decode y_AW_run.2.1 7 = .ok (.aload 4, 2) := by decide +kernel
theorem s_AW_run_5 : aw_VS y_AW_run 5 [o_ast 4, o_ald 4] 9 := .cons (v_astore d_AW_run_5) (.cons (v_aload (i := 4) d_AW_run_7) .nil)
theorem d_AW_run_9 : decode y_AW_run.2.1 9 = .ok (.ifnull (25), 3) := by decide +kernel
theorem d_AW_run_12 : decode y_AW_run.2.1 12 = .ok (.iload_n 2, 1) := by decide +kernel
theorem s_AW_run_12 : aw_VS y_AW_run 12 [o_ild 2] 13 := .cons (v_iload_n (i := 2) d_AW_run_12 rfl) .nil
theorem d_AW_run_13 : decode y_AW_run.2.1 13 = .ok (.ifCond .lt (21), 3) := by decide +kernel
theorem d_AW_run_34 : decode y_AW_run.2.1 34 = .ok (.iconst (-1), 1) := by decide +kernel
theorem s_AW_run_34 : aw_VS y_AW_run 34 [o_c (.int (-1 : Int32))] 35 := .cons (v_iconst (v := (-1 : Int32)) d_AW_run_34 (by decide +kernel)) .nil
theorem d_AW_run_35 : decode y_AW_run.2.1 35 = .ok (.ireturn, 1) := by decide +kernel
theorem d_AW_run_16 : decode y_AW_run.2.1 16 = .ok (.iload_n 2, 1) := by decide +kernel
theorem d_AW_run_17 : decode y_AW_run.2.1 17 = .ok (.aload_n 0, 1) := by decide +kernel
theorem d_AW_run_18 : decode y_AW_run.2.1 18 = .ok (.getfield 12, 3) := by decide +kernel
theorem s_AW_run_16 : aw_VS y_AW_run 16 [o_ild 2, o_ald 0, o_getA 0 0] 21 := .cons (v_iload_n (i := 2) d_AW_run_16 rfl) (.cons (v_aload_n (i := 0) d_AW_run_17 rfl) (.cons (v_getA (k := 0) k_AW (by decide) rfl (Or.inl w_490) d_AW_run_18) .nil))
theorem d_AW_run_21 : decode y_AW_run.2.1 21 = .ok (.invokevirtual 139, 3) := by decide +kernel
theorem b_AW_run_5 {X : aw_X} {d : Nat} {Q : Option Value → aw_H → Prop} {I : Nat → Nat → Int32} {L : Nat → Nat → Int64} {D : Nat → Nat} {v2 : Int32} {v3 : Int32} {t0 : Nat}
    (h1 : v2 < 0 → Q (some (.int (-1 : Int32))) (aw_s I L D))
    (h2 : ¬ v2 < 0 → aw_m X d y_Sz_rows [.ref 1] (aw_s I L D) (fun r A => aw_z X (d + 1) y_AW_run Q 24 [some (.ref 0), none, some (.int v2), some (.int v3), some (.ref t0)] (r.toList ++ [.int v2]) A)) :
    aw_z X (d + 1) y_AW_run Q 5 [some (.ref 0), none, some (.int v2), some (.int v3), none] [.ref t0] (aw_s I L D) :=
  (s_AW_run_5.go [some (.ref 0), none, some (.int v2), some (.int v3), some (.ref t0)] [.ref t0] (aw_s I L D) rfl (z_ifnull d_AW_run_9 (s_AW_run_12.go [some (.ref 0), none, some (.int v2), some (.int v3), some (.ref t0)] [.int v2] (aw_s I L D) rfl (z_if_lt (tgt := 34) d_AW_run_13 rfl (fun q1 => (s_AW_run_34.go [some (.ref 0), none, some (.int v2), some (.int v3), some (.ref t0)] [.int (-1 : Int32)] (aw_s I L D) rfl (z_iret d_AW_run_35 rfl rfl (h1 q1)))) (fun q2 => (s_AW_run_16.go [some (.ref 0), none, some (.int v2), some (.int v3), some (.ref t0)] [.ref 1, .int v2] (aw_s I L D) rfl (z_callV (av := []) (st := [.int v2]) ok_Sz_rows (Or.inl w_877) w_878 w_879 k_Sz d_AW_run_21 rfl (aw_lt (o := 1) rfl) rfl rfl (Nat.le_of_ble_eq_true rfl) (Nat.le_refl _) (Nat.le_refl _) (h2 q2))))))))
theorem b_AW_run_5a {X : aw_X} {d : Nat} {Q : Option Value → aw_H → Prop} {I : Nat → Nat → Int32} {L : Nat → Nat → Int64} {D : Nat → Nat} {v2 : Int32} {v3 : Int32}
    (h1 : Q (some (.int (-1 : Int32))) (aw_s I L D)) :
    aw_z X (d + 1) y_AW_run Q 5 [some (.ref 0), none, some (.int v2), some (.int v3), none] [.null] (aw_s I L D) :=
  (s_AW_run_5.go [some (.ref 0), none, some (.int v2), some (.int v3), some .null] [.null] (aw_s I L D) rfl (z_ifnullN (tgt := 34) d_AW_run_9 rfl (s_AW_run_34.go [some (.ref 0), none, some (.int v2), some (.int v3), some .null] [.int (-1 : Int32)] (aw_s I L D) rfl (z_iret d_AW_run_35 rfl rfl (h1)))))
theorem d_AW_run_24 : decode y_AW_run.2.1 24 = .ok (.if_icmp .ge (10), 3) := by decide +kernel
theorem d_AW_run_27 : decode y_AW_run.2.1 27 = .ok (.iload_n 3, 1) := by decide +kernel
theorem s_AW_run_27 : aw_VS y_AW_run 27 [o_ild 3] 28 := .cons (v_iload_n (i := 3) d_AW_run_27 rfl) .nil
theorem d_AW_run_28 : decode y_AW_run.2.1 28 = .ok (.invokestatic 136, 3) := by decide +kernel
theorem b_AW_run_24 {X : aw_X} {d : Nat} {Q : Option Value → aw_H → Prop} {I : Nat → Nat → Int32} {L : Nat → Nat → Int64} {D : Nat → Nat} {v2 : Int32} {v3 : Int32} {c4 : Nat} {s1 : Int32} {s0 : Int32}
    (h1 : s1 ≤ s0 → Q (some (.int (-1 : Int32))) (aw_s I L D))
    (h2 : ¬ s1 ≤ s0 → aw_m X d y_AW_isFuel [.int v3] (aw_s I L D) (fun r A => aw_z X (d + 1) y_AW_run Q 31 [some (.ref 0), none, some (.int v2), some (.int v3), some (.ref c4)] (r.toList ++ []) A)) :
    aw_z X (d + 1) y_AW_run Q 24 [some (.ref 0), none, some (.int v2), some (.int v3), some (.ref c4)] [.int s1, .int s0] (aw_s I L D) :=
  (z_icmp_ge (tgt := 34) d_AW_run_24 rfl (fun q1 => (s_AW_run_34.go [some (.ref 0), none, some (.int v2), some (.int v3), some (.ref c4)] [.int (-1 : Int32)] (aw_s I L D) rfl (z_iret d_AW_run_35 rfl rfl (h1 q1)))) (fun q2 => (s_AW_run_27.go [some (.ref 0), none, some (.int v2), some (.int v3), some (.ref c4)] [.int v3] (aw_s I L D) rfl (z_callS (av := [.int v3]) (st := []) ok_AW_isFuel (Or.inl w_874) w_875 d_AW_run_28 rfl rfl (Nat.le_of_ble_eq_true rfl) (Nat.le_refl _) (Nat.le_refl _) (h2 q2)))))
theorem d_AW_run_31 : decode y_AW_run.2.1 31 = .ok (.ifCond .ne (5), 3) := by decide +kernel
theorem d_AW_run_36 : decode y_AW_run.2.1 36 = .ok (.aload_n 0, 1) := by decide +kernel
theorem d_AW_run_37 : decode y_AW_run.2.1 37 = .ok (.getfield 28, 3) := by decide +kernel
theorem d_AW_run_40 : decode y_AW_run.2.1 40 = .ok (.aload 4, 2) := by decide +kernel
theorem d_AW_run_42 : decode y_AW_run.2.1 42 = .ok (.iload_n 2, 1) := by decide +kernel
theorem d_AW_run_43 : decode y_AW_run.2.1 43 = .ok (.iload_n 3, 1) := by decide +kernel
theorem s_AW_run_36 : aw_VS y_AW_run 36 [o_ald 0, o_getA 0 2, o_ald 4, o_ild 2, o_ild 3] 44 := .cons (v_aload_n (i := 0) d_AW_run_36 rfl) (.cons (v_getA (k := 2) k_AW (by decide) rfl (Or.inl w_492) d_AW_run_37) (.cons (v_aload (i := 4) d_AW_run_40) (.cons (v_iload_n (i := 2) d_AW_run_42 rfl) (.cons (v_iload_n (i := 3) d_AW_run_43 rfl) .nil))))
theorem d_AW_run_44 : decode y_AW_run.2.1 44 = .ok (.invokevirtual 301, 3) := by decide +kernel
theorem b_AW_run_31 {X : aw_X} {d : Nat} {Q : Option Value → aw_H → Prop} {I : Nat → Nat → Int32} {L : Nat → Nat → Int64} {D : Nat → Nat} {v2 : Int32} {v3 : Int32} {c4 : Nat} {s0 : Int32}
    (h1 : ¬ s0 = 0 → aw_m X d y_Mc_launch [.ref 4, .ref c4, .int v2, .int v3] (aw_s I L D) (fun r A => aw_z X (d + 1) y_AW_run Q 47 [some (.ref 0), none, none, none, none] (r.toList ++ []) A))
    (h2 : s0 = 0 → Q (some (.int (-1 : Int32))) (aw_s I L D)) :
    aw_z X (d + 1) y_AW_run Q 31 [some (.ref 0), none, some (.int v2), some (.int v3), some (.ref c4)] [.int s0] (aw_s I L D) :=
  (z_if_ne (tgt := 36) d_AW_run_31 rfl (fun q1 => (s_AW_run_36.go [some (.ref 0), none, some (.int v2), some (.int v3), some (.ref c4)] [.int v3, .int v2, .ref c4, .ref 4] (aw_s I L D) rfl (z_callV (av := [.ref c4, .int v2, .int v3]) (st := []) ok_Mc_launch (Or.inl w_1175) w_894 w_895 k_Mc d_AW_run_44 rfl (aw_lt (o := 4) rfl) rfl rfl (Nat.le_of_ble_eq_true rfl) (Nat.le_refl _) (Nat.le_refl _) (aw_C.mono (h1 q1) (fun _ _ zz => aw_Z.weak (ls' := [some (.ref 0), none, none, none, none]) zz (Nat.le_of_ble_eq_true rfl) ⟨Or.inr rfl, ⟨Or.inl rfl, ⟨Or.inl rfl, ⟨Or.inl rfl, ⟨Or.inl rfl, trivial⟩⟩⟩⟩⟩))))) (fun q2 => (s_AW_run_34.go [some (.ref 0), none, some (.int v2), some (.int v3), some (.ref c4)] [.int (-1 : Int32)] (aw_s I L D) rfl (z_iret d_AW_run_35 rfl rfl (h2 q2)))))
theorem d_AW_run_47 : decode y_AW_run.2.1 47 = .ok (.pop, 1) := by decide +kernel
theorem d_AW_run_48 : decode y_AW_run.2.1 48 = .ok (.aload_n 0, 1) := by decide +kernel
theorem s_AW_run_47 : aw_VS y_AW_run 47 [o_pop, o_ald 0] 49 := .cons (v_pop d_AW_run_47) (.cons (v_aload_n (i := 0) d_AW_run_48 rfl) .nil)
theorem d_AW_run_49 : decode y_AW_run.2.1 49 = .ok (.invokevirtual 304, 3) := by decide +kernel
theorem b_AW_run_47 {X : aw_X} {d : Nat} {Q : Option Value → aw_H → Prop} {I : Nat → Nat → Int32} {L : Nat → Nat → Int64} {D : Nat → Nat} {s0 : Int32}
    (h1 : aw_m X d y_AW_keepRun [.ref 0] (aw_s I L D) (fun r A => aw_z X (d + 1) y_AW_run Q 52 [some (.ref 0), none, none, none, none] (r.toList ++ []) A)) :
    aw_z X (d + 1) y_AW_run Q 47 [some (.ref 0), none, none, none, none] [.int s0] (aw_s I L D) :=
  (s_AW_run_47.go [some (.ref 0), none, none, none, none] [.ref 0] (aw_s I L D) rfl (z_callV (av := []) (st := []) ok_AW_keepRun (Or.inl w_1361) w_1363 w_68 k_AW d_AW_run_49 rfl (aw_lt (o := 0) rfl) rfl rfl (Nat.le_of_ble_eq_true rfl) (Nat.le_refl _) (Nat.le_refl _) (h1)))
theorem d_AW_run_52 : decode y_AW_run.2.1 52 = .ok (.aload_n 0, 1) := by decide +kernel
theorem d_AW_run_53 : decode y_AW_run.2.1 53 = .ok (.getfield 28, 3) := by decide +kernel
theorem d_AW_run_56 : decode y_AW_run.2.1 56 = .ok (.getfield 307, 3) := by decide +kernel
theorem s_AW_run_52 : aw_VS y_AW_run 52 [o_ald 0, o_getA 0 2, o_getI 3 15] 59 := .cons (v_aload_n (i := 0) d_AW_run_52 rfl) (.cons (v_getA (k := 2) k_AW (by decide) rfl (Or.inl w_492) d_AW_run_53) (.cons (v_getI (k := 15) k_Mc (by decide) (Or.inl rfl) (Or.inr ⟨"AllWays", w_230⟩) d_AW_run_56) .nil))
theorem d_AW_run_59 : decode y_AW_run.2.1 59 = .ok (.ireturn, 1) := by decide +kernel
theorem b_AW_run_52 {X : aw_X} {d : Nat} {Q : Option Value → aw_H → Prop} {I : Nat → Nat → Int32} {L : Nat → Nat → Int64} {D : Nat → Nat} 
    (h1 : Q (some (.int (I 4 15))) (aw_s I L D)) :
    aw_z X (d + 1) y_AW_run Q 52 [some (.ref 0), none, none, none, none] [] (aw_s I L D) :=
  (s_AW_run_52.go [some (.ref 0), none, none, none, none] [.int (I 4 15)] (aw_s I L D) rfl (z_iret d_AW_run_59 rfl rfl (h1)))
/-! AW_keepRun -/
theorem d_AW_keepRun_0 : decode y_AW_keepRun.2.1 0 = .ok (.aload_n 0, 1) := by decide +kernel
theorem d_AW_keepRun_1 : decode y_AW_keepRun.2.1 1 = .ok (.iconst 1, 1) := by decide +kernel
theorem s_AW_keepRun_0 : aw_VS y_AW_keepRun 0 [o_ald 0, o_c (.int (1 : Int32))] 2 := .cons (v_aload_n (i := 0) d_AW_keepRun_0 rfl) (.cons (v_iconst (v := (1 : Int32)) d_AW_keepRun_1 (by decide +kernel)) .nil)
theorem d_AW_keepRun_2 : decode y_AW_keepRun.2.1 2 = .ok (.putfield 310, 3) := by decide +kernel
theorem d_AW_keepRun_5 : decode y_AW_keepRun.2.1 5 = .ok (.iconst 0, 1) := by decide +kernel
theorem d_AW_keepRun_6 : decode y_AW_keepRun.2.1 6 = .ok (.istore_n 1, 1) := by decide +kernel
theorem s_AW_keepRun_5 : aw_VS y_AW_keepRun 5 [o_c (.int (0 : Int32)), o_ist 1] 7 := .cons (v_iconst (v := (0 : Int32)) d_AW_keepRun_5 (by decide +kernel)) (.cons (v_istore_n d_AW_keepRun_6) .nil)
theorem b_AW_keepRun_0 {X : aw_X} {d : Nat} {Q : Option Value → aw_H → Prop} {I : Nat → Nat → Int32} {L : Nat → Nat → Int64} {D : Nat → Nat} 
    (h1 : aw_z X (d + 1) y_AW_keepRun Q 7 [some (.ref 0), some (.int (0 : Int32))] [] (aw_s (aw_u I 0 17 (1 : Int32)) L D)) :
    aw_z X (d + 1) y_AW_keepRun Q 0 [some (.ref 0), none] [] (aw_s I L D) :=
  (s_AW_keepRun_0.go [some (.ref 0), none] [.int (1 : Int32), .ref 0] (aw_s I L D) rfl (z_putZ (k := 17) k_AW (by decide) rfl (Or.inl ⟨rfl, Or.inl w_507⟩) d_AW_keepRun_2 rfl (aw_lt (o := 0) rfl) (by decide +kernel) (s_AW_keepRun_5.go [some (.ref 0), some (.int (0 : Int32))] [] (aw_s (aw_u I 0 17 (1 : Int32)) L D) rfl (h1))))
theorem d_AW_keepRun_7 : decode y_AW_keepRun.2.1 7 = .ok (.iload_n 1, 1) := by decide +kernel
theorem d_AW_keepRun_8 : decode y_AW_keepRun.2.1 8 = .ok (.bipush 8, 2) := by decide +kernel
theorem s_AW_keepRun_7 : aw_VS y_AW_keepRun 7 [o_ild 1, o_c (.int (8 : Int32))] 10 := .cons (v_iload_n (i := 1) d_AW_keepRun_7 rfl) (.cons (v_bipush (v := (8 : Int32)) d_AW_keepRun_8 (by decide +kernel)) .nil)
theorem d_AW_keepRun_10 : decode y_AW_keepRun.2.1 10 = .ok (.if_icmp .ge (26), 3) := by decide +kernel
theorem d_AW_keepRun_36 : decode y_AW_keepRun.2.1 36 = .ok (.iconst 0, 1) := by decide +kernel
theorem d_AW_keepRun_37 : decode y_AW_keepRun.2.1 37 = .ok (.istore_n 1, 1) := by decide +kernel
theorem s_AW_keepRun_36 : aw_VS y_AW_keepRun 36 [o_c (.int (0 : Int32)), o_ist 1] 38 := .cons (v_iconst (v := (0 : Int32)) d_AW_keepRun_36 (by decide +kernel)) (.cons (v_istore_n d_AW_keepRun_37) .nil)
theorem d_AW_keepRun_13 : decode y_AW_keepRun.2.1 13 = .ok (.aload_n 0, 1) := by decide +kernel
theorem d_AW_keepRun_14 : decode y_AW_keepRun.2.1 14 = .ok (.getfield 85, 3) := by decide +kernel
theorem d_AW_keepRun_17 : decode y_AW_keepRun.2.1 17 = .ok (.iload_n 1, 1) := by decide +kernel
theorem d_AW_keepRun_18 : decode y_AW_keepRun.2.1 18 = .ok (.aload_n 0, 1) := by decide +kernel
theorem d_AW_keepRun_19 : decode y_AW_keepRun.2.1 19 = .ok (.getfield 28, 3) := by decide +kernel
theorem d_AW_keepRun_22 : decode y_AW_keepRun.2.1 22 = .ok (.getfield 339, 3) := by decide +kernel
theorem d_AW_keepRun_25 : decode y_AW_keepRun.2.1 25 = .ok (.iload_n 1, 1) := by decide +kernel
theorem s_AW_keepRun_13 : aw_VS y_AW_keepRun 13 [o_ald 0, o_getA 0 16, o_ild 1, o_ald 0, o_getA 0 2, o_getA 3 1, o_ild 1] 26 := .cons (v_aload_n (i := 0) d_AW_keepRun_13 rfl) (.cons (v_getA (k := 16) k_AW (by decide) rfl (Or.inl w_506) d_AW_keepRun_14) (.cons (v_iload_n (i := 1) d_AW_keepRun_17 rfl) (.cons (v_aload_n (i := 0) d_AW_keepRun_18 rfl) (.cons (v_getA (k := 2) k_AW (by decide) rfl (Or.inl w_492) d_AW_keepRun_19) (.cons (v_getA (k := 1) k_Mc (by decide) rfl (Or.inr ⟨"AllWays", w_210⟩) d_AW_keepRun_22) (.cons (v_iload_n (i := 1) d_AW_keepRun_25 rfl) .nil))))))
theorem d_AW_keepRun_26 : decode y_AW_keepRun.2.1 26 = .ok (.invokestatic 342, 3) := by decide +kernel
theorem b_AW_keepRun_7 {X : aw_X} {d : Nat} {Q : Option Value → aw_H → Prop} {I : Nat → Nat → Int32} {L : Nat → Nat → Int64} {D : Nat → Nat} {v1 : Int32}
    (h1 : (8 : Int32) ≤ v1 → aw_z X (d + 1) y_AW_keepRun Q 38 [some (.ref 0), some (.int (0 : Int32))] [] (aw_s I L D))
    (h2 : ¬ (8 : Int32) ≤ v1 → aw_m X d y_AW_valueAt_aII [.ref 5, .int v1] (aw_s I L D) (fun r A => aw_z X (d + 1) y_AW_keepRun Q 29 [some (.ref 0), some (.int v1)] (r.toList ++ [.int v1, .ref 68]) A)) :
    aw_z X (d + 1) y_AW_keepRun Q 7 [some (.ref 0), some (.int v1)] [] (aw_s I L D) :=
  (s_AW_keepRun_7.go [some (.ref 0), some (.int v1)] [.int (8 : Int32), .int v1] (aw_s I L D) rfl (z_icmp_ge (tgt := 36) d_AW_keepRun_10 rfl (fun q1 => (s_AW_keepRun_36.go [some (.ref 0), some (.int (0 : Int32))] [] (aw_s I L D) rfl (h1 q1))) (fun q2 => (s_AW_keepRun_13.go [some (.ref 0), some (.int v1)] [.int v1, .ref 5, .int v1, .ref 68] (aw_s I L D) rfl (z_callS (av := [.ref 5, .int v1]) (st := [.int v1, .ref 68]) ok_AW_valueAt_aII (Or.inl w_1365) w_927 d_AW_keepRun_26 rfl rfl (Nat.le_of_ble_eq_true rfl) (Nat.le_refl _) (Nat.le_refl _) (h2 q2))))))
theorem d_AW_keepRun_38 : decode y_AW_keepRun.2.1 38 = .ok (.iload_n 1, 1) := by decide +kernel
theorem d_AW_keepRun_39 : decode y_AW_keepRun.2.1 39 = .ok (.bipush 8, 2) := by decide +kernel
theorem s_AW_keepRun_38 : aw_VS y_AW_keepRun 38 [o_ild 1, o_c (.int (8 : Int32))] 41 := .cons (v_iload_n (i := 1) d_AW_keepRun_38 rfl) (.cons (v_bipush (v := (8 : Int32)) d_AW_keepRun_39 (by decide +kernel)) .nil)
theorem d_AW_keepRun_41 : decode y_AW_keepRun.2.1 41 = .ok (.if_icmp .ge (29), 3) := by decide +kernel
theorem d_AW_keepRun_70 : decode y_AW_keepRun.2.1 70 = .ok (.aload_n 0, 1) := by decide +kernel
theorem d_AW_keepRun_71 : decode y_AW_keepRun.2.1 71 = .ok (.getfield 85, 3) := by decide +kernel
theorem d_AW_keepRun_74 : decode y_AW_keepRun.2.1 74 = .ok (.bipush 16, 2) := by decide +kernel
theorem d_AW_keepRun_76 : decode y_AW_keepRun.2.1 76 = .ok (.aload_n 0, 1) := by decide +kernel
theorem d_AW_keepRun_77 : decode y_AW_keepRun.2.1 77 = .ok (.getfield 28, 3) := by decide +kernel
theorem d_AW_keepRun_80 : decode y_AW_keepRun.2.1 80 = .ok (.getfield 349, 3) := by decide +kernel
theorem s_AW_keepRun_70 : aw_VS y_AW_keepRun 70 [o_ald 0, o_getA 0 16, o_c (.int (16 : Int32)), o_ald 0, o_getA 0 2, o_getI 3 16] 83 := .cons (v_aload_n (i := 0) d_AW_keepRun_70 rfl) (.cons (v_getA (k := 16) k_AW (by decide) rfl (Or.inl w_506) d_AW_keepRun_71) (.cons (v_bipush (v := (16 : Int32)) d_AW_keepRun_74 (by decide +kernel)) (.cons (v_aload_n (i := 0) d_AW_keepRun_76 rfl) (.cons (v_getA (k := 2) k_AW (by decide) rfl (Or.inl w_492) d_AW_keepRun_77) (.cons (v_getI (k := 16) k_Mc (by decide) (Or.inl rfl) (Or.inr ⟨"AllWays", w_233⟩) d_AW_keepRun_80) .nil)))))
theorem d_AW_keepRun_83 : decode y_AW_keepRun.2.1 83 = .ok (.iastore, 1) := by decide +kernel
theorem d_AW_keepRun_84 : decode y_AW_keepRun.2.1 84 = .ok (.return_, 1) := by decide +kernel
theorem d_AW_keepRun_44 : decode y_AW_keepRun.2.1 44 = .ok (.aload_n 0, 1) := by decide +kernel
theorem d_AW_keepRun_45 : decode y_AW_keepRun.2.1 45 = .ok (.getfield 85, 3) := by decide +kernel
theorem d_AW_keepRun_48 : decode y_AW_keepRun.2.1 48 = .ok (.bipush 8, 2) := by decide +kernel
theorem d_AW_keepRun_50 : decode y_AW_keepRun.2.1 50 = .ok (.iload_n 1, 1) := by decide +kernel
theorem d_AW_keepRun_51 : decode y_AW_keepRun.2.1 51 = .ok (.iadd, 1) := by decide +kernel
theorem d_AW_keepRun_52 : decode y_AW_keepRun.2.1 52 = .ok (.aload_n 0, 1) := by decide +kernel
theorem d_AW_keepRun_53 : decode y_AW_keepRun.2.1 53 = .ok (.getfield 28, 3) := by decide +kernel
theorem d_AW_keepRun_56 : decode y_AW_keepRun.2.1 56 = .ok (.getfield 346, 3) := by decide +kernel
theorem d_AW_keepRun_59 : decode y_AW_keepRun.2.1 59 = .ok (.iload_n 1, 1) := by decide +kernel
theorem s_AW_keepRun_44 : aw_VS y_AW_keepRun 44 [o_ald 0, o_getA 0 16, o_c (.int (8 : Int32)), o_ild 1, o_i2 (fun x z => x + z), o_ald 0, o_getA 0 2, o_getA 3 2, o_ild 1] 60 := .cons (v_aload_n (i := 0) d_AW_keepRun_44 rfl) (.cons (v_getA (k := 16) k_AW (by decide) rfl (Or.inl w_506) d_AW_keepRun_45) (.cons (v_bipush (v := (8 : Int32)) d_AW_keepRun_48 (by decide +kernel)) (.cons (v_iload_n (i := 1) d_AW_keepRun_50 rfl) (.cons (v_iadd d_AW_keepRun_51) (.cons (v_aload_n (i := 0) d_AW_keepRun_52 rfl) (.cons (v_getA (k := 2) k_AW (by decide) rfl (Or.inl w_492) d_AW_keepRun_53) (.cons (v_getA (k := 2) k_Mc (by decide) rfl (Or.inr ⟨"AllWays", w_212⟩) d_AW_keepRun_56) (.cons (v_iload_n (i := 1) d_AW_keepRun_59 rfl) .nil))))))))
theorem d_AW_keepRun_60 : decode y_AW_keepRun.2.1 60 = .ok (.invokestatic 342, 3) := by decide +kernel
theorem b_AW_keepRun_38 {X : aw_X} {d : Nat} {Q : Option Value → aw_H → Prop} {I : Nat → Nat → Int32} {L : Nat → Nat → Int64} {D : Nat → Nat} {v1 : Int32}
    (h1 : (8 : Int32) ≤ v1 → Q none (aw_s (aw_u I 68 16 (I 4 16)) L D))
    (h2 : ¬ (8 : Int32) ≤ v1 → aw_m X d y_AW_valueAt_aII [.ref 6, .int v1] (aw_s I L D) (fun r A => aw_z X (d + 1) y_AW_keepRun Q 63 [some (.ref 0), some (.int v1)] (r.toList ++ [.int ((8 : Int32) + v1), .ref 68]) A)) :
    aw_z X (d + 1) y_AW_keepRun Q 38 [some (.ref 0), some (.int v1)] [] (aw_s I L D) :=
  (s_AW_keepRun_38.go [some (.ref 0), some (.int v1)] [.int (8 : Int32), .int v1] (aw_s I L D) rfl (z_icmp_ge (tgt := 70) d_AW_keepRun_41 rfl (fun q1 => (s_AW_keepRun_70.go [some (.ref 0), some (.int v1)] [.int (I 4 16), .int (16 : Int32), .ref 68] (aw_s I L D) rfl (z_iast (n := 17) rfl (aw_lt (o := 68) rfl) (aw_lin (by decide +kernel) (by decide +kernel)) d_AW_keepRun_83 (z_vret d_AW_keepRun_84 rfl (h1 q1))))) (fun q2 => (s_AW_keepRun_44.go [some (.ref 0), some (.int v1)] [.int v1, .ref 6, .int ((8 : Int32) + v1), .ref 68] (aw_s I L D) rfl (z_callS (av := [.ref 6, .int v1]) (st := [.int ((8 : Int32) + v1), .ref 68]) ok_AW_valueAt_aII (Or.inl w_1365) w_927 d_AW_keepRun_60 rfl rfl (Nat.le_of_ble_eq_true rfl) (Nat.le_refl _) (Nat.le_refl _) (h2 q2))))))
theorem d_AW_keepRun_29 : decode y_AW_keepRun.2.1 29 = .ok (.iastore, 1) := by decide +kernel
theorem d_AW_keepRun_30 : decode y_AW_keepRun.2.1 30 = .ok (.iinc 1 (1), 3) := by decide +kernel
theorem s_AW_keepRun_30 : aw_VS y_AW_keepRun 30 [o_inc 1 (1 : Int32)] 33 := .cons (v_iinc (k0 := (1 : Int32)) d_AW_keepRun_30 (by decide +kernel)) .nil
theorem d_AW_keepRun_33 : decode y_AW_keepRun.2.1 33 = .ok (.goto (-26), 3) := by decide +kernel
theorem b_AW_keepRun_29 {X : aw_X} {d : Nat} {Q : Option Value → aw_H → Prop} {I : Nat → Nat → Int32} {L : Nat → Nat → Int64} {D : Nat → Nat} {v1 : Int32} {s2 : Int32} {s1 : Int32}
    (h1 : vp_in s1 17)
    (h2 : aw_z X (d + 1) y_AW_keepRun Q 7 [some (.ref 0), some (.int (v1 + (1 : Int32)))] [] (aw_s (aw_u I 68 s1.toNatClampNeg s2) L D)) :
    aw_z X (d + 1) y_AW_keepRun Q 29 [some (.ref 0), some (.int v1)] [.int s2, .int s1, .ref 68] (aw_s I L D) :=
  (z_iast (n := 17) rfl (aw_lt (o := 68) rfl) (h1) d_AW_keepRun_29 (s_AW_keepRun_30.go [some (.ref 0), some (.int (v1 + (1 : Int32)))] [] (aw_s (aw_u I 68 s1.toNatClampNeg s2) L D) rfl (z_goto (tgt := 7) d_AW_keepRun_33 rfl (h2))))
theorem d_AW_keepRun_63 : decode y_AW_keepRun.2.1 63 = .ok (.iastore, 1) := by decide +kernel
theorem d_AW_keepRun_64 : decode y_AW_keepRun.2.1 64 = .ok (.iinc 1 (1), 3) := by decide +kernel
theorem s_AW_keepRun_64 : aw_VS y_AW_keepRun 64 [o_inc 1 (1 : Int32)] 67 := .cons (v_iinc (k0 := (1 : Int32)) d_AW_keepRun_64 (by decide +kernel)) .nil
theorem d_AW_keepRun_67 : decode y_AW_keepRun.2.1 67 = .ok (.goto (-29), 3) := by decide +kernel
theorem b_AW_keepRun_63 {X : aw_X} {d : Nat} {Q : Option Value → aw_H → Prop} {I : Nat → Nat → Int32} {L : Nat → Nat → Int64} {D : Nat → Nat} {v1 : Int32} {s2 : Int32} {s1 : Int32}
    (h1 : vp_in s1 17)
    (h2 : aw_z X (d + 1) y_AW_keepRun Q 38 [some (.ref 0), some (.int (v1 + (1 : Int32)))] [] (aw_s (aw_u I 68 s1.toNatClampNeg s2) L D)) :
    aw_z X (d + 1) y_AW_keepRun Q 63 [some (.ref 0), some (.int v1)] [.int s2, .int s1, .ref 68] (aw_s I L D) :=
  (z_iast (n := 17) rfl (aw_lt (o := 68) rfl) (h1) d_AW_keepRun_63 (s_AW_keepRun_64.go [some (.ref 0), some (.int (v1 + (1 : Int32)))] [] (aw_s (aw_u I 68 s1.toNatClampNeg s2) L D) rfl (z_goto (tgt := 38) d_AW_keepRun_67 rfl (h2))))
/-! AW_got -/
theorem d_AW_got_0 : decode y_AW_got.2.1 0 = .ok (.aload_n 0, 1) := by decide +kernel
theorem d_AW_got_1 : decode y_AW_got.2.1 1 = .ok (.getfield 310, 3) := by decide +kernel
theorem s_AW_got_0 : aw_VS y_AW_got 0 [o_ald 0, o_getI 0 17] 4 := .cons (v_aload_n (i := 0) d_AW_got_0 rfl) (.cons (v_getI (k := 17) k_AW (by decide) (Or.inr rfl) (Or.inl w_507) d_AW_got_1) .nil)
theorem d_AW_got_4 : decode y_AW_got.2.1 4 = .ok (.ifCond .eq (25), 3) := by decide +kernel
theorem d_AW_got_29 : decode y_AW_got.2.1 29 = .ok (.iconst (-1), 1) := by decide +kernel
theorem s_AW_got_29 : aw_VS y_AW_got 29 [o_c (.int (-1 : Int32))] 30 := .cons (v_iconst (v := (-1 : Int32)) d_AW_got_29 (by decide +kernel)) .nil
theorem d_AW_got_30 : decode y_AW_got.2.1 30 = .ok (.ireturn, 1) := by decide +kernel
theorem d_AW_got_7 : decode y_AW_got.2.1 7 = .ok (.iload_n 1, 1) := by decide +kernel
theorem s_AW_got_7 : aw_VS y_AW_got 7 [o_ild 1] 8 := .cons (v_iload_n (i := 1) d_AW_got_7 rfl) .nil
theorem d_AW_got_8 : decode y_AW_got.2.1 8 = .ok (.ifCond .lt (21), 3) := by decide +kernel
theorem d_AW_got_11 : decode y_AW_got.2.1 11 = .ok (.iload_n 1, 1) := by decide +kernel
theorem d_AW_got_12 : decode y_AW_got.2.1 12 = .ok (.aload_n 0, 1) := by decide +kernel
theorem d_AW_got_13 : decode y_AW_got.2.1 13 = .ok (.getfield 85, 3) := by decide +kernel
theorem d_AW_got_16 : decode y_AW_got.2.1 16 = .ok (.arraylength, 1) := by decide +kernel
theorem s_AW_got_11 : aw_VS y_AW_got 11 [o_ild 1, o_ald 0, o_getA 0 16, o_alen] 17 := .cons (v_iload_n (i := 1) d_AW_got_11 rfl) (.cons (v_aload_n (i := 0) d_AW_got_12 rfl) (.cons (v_getA (k := 16) k_AW (by decide) rfl (Or.inl w_506) d_AW_got_13) (.cons (v_alen d_AW_got_16) .nil)))
theorem d_AW_got_17 : decode y_AW_got.2.1 17 = .ok (.if_icmp .ge (12), 3) := by decide +kernel
theorem d_AW_got_20 : decode y_AW_got.2.1 20 = .ok (.aload_n 0, 1) := by decide +kernel
theorem d_AW_got_21 : decode y_AW_got.2.1 21 = .ok (.getfield 85, 3) := by decide +kernel
theorem d_AW_got_24 : decode y_AW_got.2.1 24 = .ok (.iload_n 1, 1) := by decide +kernel
theorem s_AW_got_20 : aw_VS y_AW_got 20 [o_ald 0, o_getA 0 16, o_ild 1] 25 := .cons (v_aload_n (i := 0) d_AW_got_20 rfl) (.cons (v_getA (k := 16) k_AW (by decide) rfl (Or.inl w_506) d_AW_got_21) (.cons (v_iload_n (i := 1) d_AW_got_24 rfl) .nil))
theorem d_AW_got_25 : decode y_AW_got.2.1 25 = .ok (.iaload, 1) := by decide +kernel
theorem d_AW_got_26 : decode y_AW_got.2.1 26 = .ok (.goto (4), 3) := by decide +kernel
theorem b_AW_got_0 {X : aw_X} {d : Nat} {Q : Option Value → aw_H → Prop} {I : Nat → Nat → Int32} {L : Nat → Nat → Int64} {D : Nat → Nat} {v1 : Int32}
    (h1 : (I 0 17) = 0 → Q (some (.int (-1 : Int32))) (aw_s I L D))
    (h2 : ¬ (I 0 17) = 0 → v1 < 0 → Q (some (.int (-1 : Int32))) (aw_s I L D))
    (h3 : ¬ (I 0 17) = 0 → ¬ v1 < 0 → (17 : Int32) ≤ v1 → Q (some (.int (-1 : Int32))) (aw_s I L D))
    (h4 : ¬ (I 0 17) = 0 → ¬ v1 < 0 → ¬ (17 : Int32) ≤ v1 → vp_in v1 17)
    (h5 : ¬ (I 0 17) = 0 → ¬ v1 < 0 → ¬ (17 : Int32) ≤ v1 → Q (some (.int (I 68 v1.toNatClampNeg))) (aw_s I L D)) :
    aw_z X d y_AW_got Q 0 [some (.ref 0), some (.int v1)] [] (aw_s I L D) :=
  (s_AW_got_0.go [some (.ref 0), some (.int v1)] [.int (I 0 17)] (aw_s I L D) rfl (z_if_eq (tgt := 29) d_AW_got_4 rfl (fun q1 => (s_AW_got_29.go [some (.ref 0), some (.int v1)] [.int (-1 : Int32)] (aw_s I L D) rfl (z_iret d_AW_got_30 rfl rfl (h1 q1)))) (fun q2 => (s_AW_got_7.go [some (.ref 0), some (.int v1)] [.int v1] (aw_s I L D) rfl (z_if_lt (tgt := 29) d_AW_got_8 rfl (fun q3 => (s_AW_got_29.go [some (.ref 0), some (.int v1)] [.int (-1 : Int32)] (aw_s I L D) rfl (z_iret d_AW_got_30 rfl rfl (h2 q2 q3)))) (fun q4 => (s_AW_got_11.go [some (.ref 0), some (.int v1)] [.int (17 : Int32), .int v1] (aw_s I L D) rfl (z_icmp_ge (tgt := 29) d_AW_got_17 rfl (fun q5 => (s_AW_got_29.go [some (.ref 0), some (.int v1)] [.int (-1 : Int32)] (aw_s I L D) rfl (z_iret d_AW_got_30 rfl rfl (h3 q2 q4 q5)))) (fun q6 => (s_AW_got_20.go [some (.ref 0), some (.int v1)] [.int v1, .ref 68] (aw_s I L D) rfl (z_iald (n := 17) rfl (aw_lt (o := 68) rfl) (h4 q2 q4 q6) d_AW_got_25 (z_goto (tgt := 30) d_AW_got_26 rfl (z_iret d_AW_got_30 rfl rfl (h5 q2 q4 q6))))))))))))))
/-! AW_count -/
theorem d_AW_count_0 : decode y_AW_count.2.1 0 = .ok (.iload_n 1, 1) := by decide +kernel
theorem s_AW_count_0 : aw_VS y_AW_count 0 [o_ild 1] 1 := .cons (v_iload_n (i := 1) d_AW_count_0 rfl) .nil
theorem d_AW_count_1 : decode y_AW_count.2.1 1 = .ok (.tableswitch (63) (0) (3) #[31, 39, 47, 55], 31) := by decide +kernel
theorem d_AW_count_32 : decode y_AW_count.2.1 32 = .ok (.aload_n 0, 1) := by decide +kernel
theorem d_AW_count_33 : decode y_AW_count.2.1 33 = .ok (.getfield 12, 3) := by decide +kernel
theorem d_AW_count_36 : decode y_AW_count.2.1 36 = .ok (.getfield 264, 3) := by decide +kernel
theorem s_AW_count_32 : aw_VS y_AW_count 32 [o_ald 0, o_getA 0 0, o_getI 1 0] 39 := .cons (v_aload_n (i := 0) d_AW_count_32 rfl) (.cons (v_getA (k := 0) k_AW (by decide) rfl (Or.inl w_490) d_AW_count_33) (.cons (v_getI (k := 0) k_Sz (by decide) (Or.inl rfl) (Or.inr ⟨"AllWays", w_172⟩) d_AW_count_36) .nil))
theorem d_AW_count_39 : decode y_AW_count.2.1 39 = .ok (.ireturn, 1) := by decide +kernel
theorem d_AW_count_40 : decode y_AW_count.2.1 40 = .ok (.aload_n 0, 1) := by decide +kernel
theorem d_AW_count_41 : decode y_AW_count.2.1 41 = .ok (.getfield 12, 3) := by decide +kernel
theorem d_AW_count_44 : decode y_AW_count.2.1 44 = .ok (.getfield 261, 3) := by decide +kernel
theorem s_AW_count_40 : aw_VS y_AW_count 40 [o_ald 0, o_getA 0 0, o_getI 1 1] 47 := .cons (v_aload_n (i := 0) d_AW_count_40 rfl) (.cons (v_getA (k := 0) k_AW (by decide) rfl (Or.inl w_490) d_AW_count_41) (.cons (v_getI (k := 1) k_Sz (by decide) (Or.inl rfl) (Or.inr ⟨"AllWays", w_175⟩) d_AW_count_44) .nil))
theorem d_AW_count_47 : decode y_AW_count.2.1 47 = .ok (.ireturn, 1) := by decide +kernel
theorem d_AW_count_48 : decode y_AW_count.2.1 48 = .ok (.aload_n 0, 1) := by decide +kernel
theorem d_AW_count_49 : decode y_AW_count.2.1 49 = .ok (.getfield 12, 3) := by decide +kernel
theorem d_AW_count_52 : decode y_AW_count.2.1 52 = .ok (.getfield 313, 3) := by decide +kernel
theorem s_AW_count_48 : aw_VS y_AW_count 48 [o_ald 0, o_getA 0 0, o_getI 1 2] 55 := .cons (v_aload_n (i := 0) d_AW_count_48 rfl) (.cons (v_getA (k := 0) k_AW (by decide) rfl (Or.inl w_490) d_AW_count_49) (.cons (v_getI (k := 2) k_Sz (by decide) (Or.inl rfl) (Or.inr ⟨"AllWays", w_177⟩) d_AW_count_52) .nil))
theorem d_AW_count_55 : decode y_AW_count.2.1 55 = .ok (.ireturn, 1) := by decide +kernel
theorem d_AW_count_56 : decode y_AW_count.2.1 56 = .ok (.aload_n 0, 1) := by decide +kernel
theorem d_AW_count_57 : decode y_AW_count.2.1 57 = .ok (.getfield 19, 3) := by decide +kernel
theorem d_AW_count_60 : decode y_AW_count.2.1 60 = .ok (.getfield 96, 3) := by decide +kernel
theorem s_AW_count_56 : aw_VS y_AW_count 56 [o_ald 0, o_getA 0 1, o_getI 2 1] 63 := .cons (v_aload_n (i := 0) d_AW_count_56 rfl) (.cons (v_getA (k := 1) k_AW (by decide) rfl (Or.inl w_491) d_AW_count_57) (.cons (v_getI (k := 1) k_Tp (by decide) (Or.inl rfl) (Or.inr ⟨"AllWays", w_193⟩) d_AW_count_60) .nil))
theorem d_AW_count_63 : decode y_AW_count.2.1 63 = .ok (.ireturn, 1) := by decide +kernel
theorem d_AW_count_64 : decode y_AW_count.2.1 64 = .ok (.iconst (-1), 1) := by decide +kernel
theorem s_AW_count_64 : aw_VS y_AW_count 64 [o_c (.int (-1 : Int32))] 65 := .cons (v_iconst (v := (-1 : Int32)) d_AW_count_64 (by decide +kernel)) .nil
theorem d_AW_count_65 : decode y_AW_count.2.1 65 = .ok (.ireturn, 1) := by decide +kernel
theorem b_AW_count_0 {X : aw_X} {d : Nat} {Q : Option Value → aw_H → Prop} {I : Nat → Nat → Int32} {L : Nat → Nat → Int64} {D : Nat → Nat} {v1 : Int32}
    (h1 : v1 = (0 : Int32) → Q (some (.int (I 1 0))) (aw_s I L D))
    (h2 : ¬ v1 = (0 : Int32) → v1 = (1 : Int32) → Q (some (.int (I 1 1))) (aw_s I L D))
    (h3 : ¬ v1 = (0 : Int32) → ¬ v1 = (1 : Int32) → v1 = (2 : Int32) → Q (some (.int (I 1 2))) (aw_s I L D))
    (h4 : ¬ v1 = (0 : Int32) → ¬ v1 = (1 : Int32) → ¬ v1 = (2 : Int32) → v1 = (3 : Int32) → Q (some (.int (I 2 1))) (aw_s I L D))
    (h5 : ¬ v1 = (0 : Int32) → ¬ v1 = (1 : Int32) → ¬ v1 = (2 : Int32) → ¬ v1 = (3 : Int32) → Q (some (.int (-1 : Int32))) (aw_s I L D)) :
    aw_z X d y_AW_count Q 0 [some (.ref 0), some (.int v1)] [] (aw_s I L D) :=
  (s_AW_count_0.go [some (.ref 0), some (.int v1)] [.int v1] (aw_s I L D) rfl (Decidable.byCases (fun q1 => z_tableIn (off := 31) (tgt := 32) d_AW_count_1 (by rw [q1]; decide +kernel) (by rw [q1]; decide +kernel) (by rw [q1]; decide +kernel) rfl (s_AW_count_32.go [some (.ref 0), some (.int v1)] [.int (I 1 0)] (aw_s I L D) rfl (z_iret d_AW_count_39 rfl rfl (h1 q1)))) (fun q1n => (Decidable.byCases (fun q2 => z_tableIn (off := 39) (tgt := 40) d_AW_count_1 (by rw [q2]; decide +kernel) (by rw [q2]; decide +kernel) (by rw [q2]; decide +kernel) rfl (s_AW_count_40.go [some (.ref 0), some (.int v1)] [.int (I 1 1)] (aw_s I L D) rfl (z_iret d_AW_count_47 rfl rfl (h2 q1n q2)))) (fun q2n => (Decidable.byCases (fun q3 => z_tableIn (off := 47) (tgt := 48) d_AW_count_1 (by rw [q3]; decide +kernel) (by rw [q3]; decide +kernel) (by rw [q3]; decide +kernel) rfl (s_AW_count_48.go [some (.ref 0), some (.int v1)] [.int (I 1 2)] (aw_s I L D) rfl (z_iret d_AW_count_55 rfl rfl (h3 q1n q2n q3)))) (fun q3n => (Decidable.byCases (fun q4 => z_tableIn (off := 55) (tgt := 56) d_AW_count_1 (by rw [q4]; decide +kernel) (by rw [q4]; decide +kernel) (by rw [q4]; decide +kernel) rfl (s_AW_count_56.go [some (.ref 0), some (.int v1)] [.int (I 2 1)] (aw_s I L D) rfl (z_iret d_AW_count_63 rfl rfl (h4 q1n q2n q3n q4)))) (fun q4n => z_tableOut (tgt := 64) d_AW_count_1 (by have := aw_swout q1n (a := 0) rfl; have := aw_swout q2n (a := 1) rfl; have := aw_swout q3n (a := 2) rfl; have := aw_swout q4n (a := 3) rfl; omega) rfl (s_AW_count_64.go [some (.ref 0), some (.int v1)] [.int (-1 : Int32)] (aw_s I L D) rfl (z_iret d_AW_count_65 rfl rfl (h5 q1n q2n q3n q4n))))))))))))
