/-! by gen_blk.py (genall.py) -/
/-! M_beginsStep -/
theorem d_M_beginsStep_0 : decode y_M_beginsStep.2.1 0 = .ok (.aload_n 0, 1) := by decide +kernel
theorem s_M_beginsStep_0 : aw_VS y_M_beginsStep 0 [o_ald 0] 1 := .cons (v_aload_n (i := 0) d_M_beginsStep_0 rfl) .nil
theorem d_M_beginsStep_1 : decode y_M_beginsStep.2.1 1 = .ok (.invokevirtual 252, 3) := by decide +kernel
theorem b_M_beginsStep_0 {X : aw_X} {d : Nat} {Q : Option Value → aw_H → Prop} {I : Nat → Nat → Int32} {L : Nat → Nat → Int64} {D : Nat → Nat} 
    (h1 : aw_m X d y_M_isName [.ref 69] (aw_s I L D) (fun r A => aw_z X (d + 1) y_M_beginsStep Q 4 [some (.ref 69)] (r.toList ++ []) A)) :
    aw_z X (d + 1) y_M_beginsStep Q 0 [some (.ref 69)] [] (aw_s I L D) :=
  (s_M_beginsStep_0.go [some (.ref 69)] [.ref 69] (aw_s I L D) rfl (z_callV (av := []) (st := []) ok_M_isName (Or.inl w_1828) w_1830 w_88 k_M d_M_beginsStep_1 rfl (aw_lt (o := 69) rfl) rfl rfl (Nat.le_of_ble_eq_true rfl) (Nat.le_refl _) (Nat.le_refl _) (h1)))
theorem d_M_beginsStep_4 : decode y_M_beginsStep.2.1 4 = .ok (.ifCond .ne (55), 3) := by decide +kernel
theorem d_M_beginsStep_59 : decode y_M_beginsStep.2.1 59 = .ok (.iconst 1, 1) := by decide +kernel
theorem s_M_beginsStep_59 : aw_VS y_M_beginsStep 59 [o_c (.int (1 : Int32))] 60 := .cons (v_iconst (v := (1 : Int32)) d_M_beginsStep_59 (by decide +kernel)) .nil
theorem d_M_beginsStep_60 : decode y_M_beginsStep.2.1 60 = .ok (.ireturn, 1) := by decide +kernel
theorem d_M_beginsStep_7 : decode y_M_beginsStep.2.1 7 = .ok (.aload_n 0, 1) := by decide +kernel
theorem s_M_beginsStep_7 : aw_VS y_M_beginsStep 7 [o_ald 0] 8 := .cons (v_aload_n (i := 0) d_M_beginsStep_7 rfl) .nil
theorem d_M_beginsStep_8 : decode y_M_beginsStep.2.1 8 = .ok (.invokevirtual 304, 3) := by decide +kernel
theorem b_M_beginsStep_4 {X : aw_X} {d : Nat} {Q : Option Value → aw_H → Prop} {I : Nat → Nat → Int32} {L : Nat → Nat → Int64} {D : Nat → Nat} {s0 : Int32}
    (h1 : ¬ s0 = 0 → Q (some (.int (1 : Int32))) (aw_s I L D))
    (h2 : s0 = 0 → aw_m X d y_M_isIf [.ref 69] (aw_s I L D) (fun r A => aw_z X (d + 1) y_M_beginsStep Q 11 [some (.ref 69)] (r.toList ++ []) A)) :
    aw_z X (d + 1) y_M_beginsStep Q 4 [some (.ref 69)] [.int s0] (aw_s I L D) :=
  (z_if_ne (tgt := 59) d_M_beginsStep_4 rfl (fun q1 => (s_M_beginsStep_59.go [some (.ref 69)] [.int (1 : Int32)] (aw_s I L D) rfl (z_iret d_M_beginsStep_60 rfl (aw_nz (by decide +kernel)) (h1 q1)))) (fun q2 => (s_M_beginsStep_7.go [some (.ref 69)] [.ref 69] (aw_s I L D) rfl (z_callV (av := []) (st := []) ok_M_isIf (Or.inl w_1833) w_1835 w_89 k_M d_M_beginsStep_8 rfl (aw_lt (o := 69) rfl) rfl rfl (Nat.le_of_ble_eq_true rfl) (Nat.le_refl _) (Nat.le_refl _) (h2 q2)))))
theorem d_M_beginsStep_11 : decode y_M_beginsStep.2.1 11 = .ok (.ifCond .ne (48), 3) := by decide +kernel
theorem d_M_beginsStep_14 : decode y_M_beginsStep.2.1 14 = .ok (.aload_n 0, 1) := by decide +kernel
theorem s_M_beginsStep_14 : aw_VS y_M_beginsStep 14 [o_ald 0] 15 := .cons (v_aload_n (i := 0) d_M_beginsStep_14 rfl) .nil
theorem d_M_beginsStep_15 : decode y_M_beginsStep.2.1 15 = .ok (.invokevirtual 307, 3) := by decide +kernel
theorem b_M_beginsStep_11 {X : aw_X} {d : Nat} {Q : Option Value → aw_H → Prop} {I : Nat → Nat → Int32} {L : Nat → Nat → Int64} {D : Nat → Nat} {s0 : Int32}
    (h1 : ¬ s0 = 0 → Q (some (.int (1 : Int32))) (aw_s I L D))
    (h2 : s0 = 0 → aw_m X d y_M_isLoop [.ref 69] (aw_s I L D) (fun r A => aw_z X (d + 1) y_M_beginsStep Q 18 [some (.ref 69)] (r.toList ++ []) A)) :
    aw_z X (d + 1) y_M_beginsStep Q 11 [some (.ref 69)] [.int s0] (aw_s I L D) :=
  (z_if_ne (tgt := 59) d_M_beginsStep_11 rfl (fun q1 => (s_M_beginsStep_59.go [some (.ref 69)] [.int (1 : Int32)] (aw_s I L D) rfl (z_iret d_M_beginsStep_60 rfl (aw_nz (by decide +kernel)) (h1 q1)))) (fun q2 => (s_M_beginsStep_14.go [some (.ref 69)] [.ref 69] (aw_s I L D) rfl (z_callV (av := []) (st := []) ok_M_isLoop (Or.inl w_1837) w_1839 w_90 k_M d_M_beginsStep_15 rfl (aw_lt (o := 69) rfl) rfl rfl (Nat.le_of_ble_eq_true rfl) (Nat.le_refl _) (Nat.le_refl _) (h2 q2)))))
theorem d_M_beginsStep_18 : decode y_M_beginsStep.2.1 18 = .ok (.ifCond .ne (41), 3) := by decide +kernel
theorem d_M_beginsStep_21 : decode y_M_beginsStep.2.1 21 = .ok (.aload_n 0, 1) := by decide +kernel
theorem d_M_beginsStep_22 : decode y_M_beginsStep.2.1 22 = .ok (.bipush 99, 2) := by decide +kernel
theorem d_M_beginsStep_24 : decode y_M_beginsStep.2.1 24 = .ok (.bipush 97, 2) := by decide +kernel
theorem d_M_beginsStep_26 : decode y_M_beginsStep.2.1 26 = .ok (.bipush 108, 2) := by decide +kernel
theorem d_M_beginsStep_28 : decode y_M_beginsStep.2.1 28 = .ok (.bipush 108, 2) := by decide +kernel
theorem d_M_beginsStep_30 : decode y_M_beginsStep.2.1 30 = .ok (.iconst 0, 1) := by decide +kernel
theorem s_M_beginsStep_21 : aw_VS y_M_beginsStep 21 [o_ald 0, o_c (.int (99 : Int32)), o_c (.int (97 : Int32)), o_c (.int (108 : Int32)), o_c (.int (108 : Int32)), o_c (.int (0 : Int32))] 31 := .cons (v_aload_n (i := 0) d_M_beginsStep_21 rfl) (.cons (v_bipush (v := (99 : Int32)) d_M_beginsStep_22 (by decide +kernel)) (.cons (v_bipush (v := (97 : Int32)) d_M_beginsStep_24 (by decide +kernel)) (.cons (v_bipush (v := (108 : Int32)) d_M_beginsStep_26 (by decide +kernel)) (.cons (v_bipush (v := (108 : Int32)) d_M_beginsStep_28 (by decide +kernel)) (.cons (v_iconst (v := (0 : Int32)) d_M_beginsStep_30 (by decide +kernel)) .nil)))))
theorem d_M_beginsStep_31 : decode y_M_beginsStep.2.1 31 = .ok (.invokestatic 244, 3) := by decide +kernel
theorem b_M_beginsStep_18 {X : aw_X} {d : Nat} {Q : Option Value → aw_H → Prop} {I : Nat → Nat → Int32} {L : Nat → Nat → Int64} {D : Nat → Nat} {s0 : Int32}
    (h1 : ¬ s0 = 0 → Q (some (.int (1 : Int32))) (aw_s I L D))
    (h2 : s0 = 0 → aw_m X d y_M_spelt [.int (99 : Int32), .int (97 : Int32), .int (108 : Int32), .int (108 : Int32), .int (0 : Int32)] (aw_s I L D) (fun r A => aw_z X (d + 1) y_M_beginsStep Q 34 [some (.ref 69)] (r.toList ++ [.ref 69]) A)) :
    aw_z X (d + 1) y_M_beginsStep Q 18 [some (.ref 69)] [.int s0] (aw_s I L D) :=
  (z_if_ne (tgt := 59) d_M_beginsStep_18 rfl (fun q1 => (s_M_beginsStep_59.go [some (.ref 69)] [.int (1 : Int32)] (aw_s I L D) rfl (z_iret d_M_beginsStep_60 rfl (aw_nz (by decide +kernel)) (h1 q1)))) (fun q2 => (s_M_beginsStep_21.go [some (.ref 69)] [.int (0 : Int32), .int (108 : Int32), .int (108 : Int32), .int (97 : Int32), .int (99 : Int32), .ref 69] (aw_s I L D) rfl (z_callS (av := [.int (99 : Int32), .int (97 : Int32), .int (108 : Int32), .int (108 : Int32), .int (0 : Int32)]) (st := [.ref 69]) ok_M_spelt (Or.inl w_1795) w_1796 d_M_beginsStep_31 rfl rfl (Nat.le_of_ble_eq_true rfl) (Nat.le_refl _) (Nat.le_refl _) (h2 q2)))))
theorem d_M_beginsStep_34 : decode y_M_beginsStep.2.1 34 = .ok (.invokevirtual 248, 3) := by decide +kernel
theorem b_M_beginsStep_34 {X : aw_X} {d : Nat} {Q : Option Value → aw_H → Prop} {I : Nat → Nat → Int32} {L : Nat → Nat → Int64} {D : Nat → Nat} {s1 : Int64}
    (h1 : aw_m X d y_M_isKey [.ref 69, .long s1] (aw_s I L D) (fun r A => aw_z X (d + 1) y_M_beginsStep Q 37 [some (.ref 69)] (r.toList ++ []) A)) :
    aw_z X (d + 1) y_M_beginsStep Q 34 [some (.ref 69)] [.long s1, .ref 69] (aw_s I L D) :=
  (z_callV (av := [.long s1]) (st := []) ok_M_isKey (Or.inl w_1798) w_1800 w_81 k_M d_M_beginsStep_34 rfl (aw_lt (o := 69) rfl) rfl rfl (Nat.le_of_ble_eq_true rfl) (Nat.le_refl _) (Nat.le_refl _) (h1))
theorem d_M_beginsStep_37 : decode y_M_beginsStep.2.1 37 = .ok (.ifCond .ne (22), 3) := by decide +kernel
theorem d_M_beginsStep_40 : decode y_M_beginsStep.2.1 40 = .ok (.aload_n 0, 1) := by decide +kernel
theorem d_M_beginsStep_41 : decode y_M_beginsStep.2.1 41 = .ok (.bipush 99, 2) := by decide +kernel
theorem d_M_beginsStep_43 : decode y_M_beginsStep.2.1 43 = .ok (.bipush 101, 2) := by decide +kernel
theorem d_M_beginsStep_45 : decode y_M_beginsStep.2.1 45 = .ok (.bipush 108, 2) := by decide +kernel
theorem d_M_beginsStep_47 : decode y_M_beginsStep.2.1 47 = .ok (.bipush 108, 2) := by decide +kernel
theorem d_M_beginsStep_49 : decode y_M_beginsStep.2.1 49 = .ok (.iconst 0, 1) := by decide +kernel
theorem s_M_beginsStep_40 : aw_VS y_M_beginsStep 40 [o_ald 0, o_c (.int (99 : Int32)), o_c (.int (101 : Int32)), o_c (.int (108 : Int32)), o_c (.int (108 : Int32)), o_c (.int (0 : Int32))] 50 := .cons (v_aload_n (i := 0) d_M_beginsStep_40 rfl) (.cons (v_bipush (v := (99 : Int32)) d_M_beginsStep_41 (by decide +kernel)) (.cons (v_bipush (v := (101 : Int32)) d_M_beginsStep_43 (by decide +kernel)) (.cons (v_bipush (v := (108 : Int32)) d_M_beginsStep_45 (by decide +kernel)) (.cons (v_bipush (v := (108 : Int32)) d_M_beginsStep_47 (by decide +kernel)) (.cons (v_iconst (v := (0 : Int32)) d_M_beginsStep_49 (by decide +kernel)) .nil)))))
theorem d_M_beginsStep_50 : decode y_M_beginsStep.2.1 50 = .ok (.invokestatic 244, 3) := by decide +kernel
theorem b_M_beginsStep_37 {X : aw_X} {d : Nat} {Q : Option Value → aw_H → Prop} {I : Nat → Nat → Int32} {L : Nat → Nat → Int64} {D : Nat → Nat} {s0 : Int32}
    (h1 : ¬ s0 = 0 → Q (some (.int (1 : Int32))) (aw_s I L D))
    (h2 : s0 = 0 → aw_m X d y_M_spelt [.int (99 : Int32), .int (101 : Int32), .int (108 : Int32), .int (108 : Int32), .int (0 : Int32)] (aw_s I L D) (fun r A => aw_z X (d + 1) y_M_beginsStep Q 53 [some (.ref 69)] (r.toList ++ [.ref 69]) A)) :
    aw_z X (d + 1) y_M_beginsStep Q 37 [some (.ref 69)] [.int s0] (aw_s I L D) :=
  (z_if_ne (tgt := 59) d_M_beginsStep_37 rfl (fun q1 => (s_M_beginsStep_59.go [some (.ref 69)] [.int (1 : Int32)] (aw_s I L D) rfl (z_iret d_M_beginsStep_60 rfl (aw_nz (by decide +kernel)) (h1 q1)))) (fun q2 => (s_M_beginsStep_40.go [some (.ref 69)] [.int (0 : Int32), .int (108 : Int32), .int (108 : Int32), .int (101 : Int32), .int (99 : Int32), .ref 69] (aw_s I L D) rfl (z_callS (av := [.int (99 : Int32), .int (101 : Int32), .int (108 : Int32), .int (108 : Int32), .int (0 : Int32)]) (st := [.ref 69]) ok_M_spelt (Or.inl w_1795) w_1796 d_M_beginsStep_50 rfl rfl (Nat.le_of_ble_eq_true rfl) (Nat.le_refl _) (Nat.le_refl _) (h2 q2)))))
theorem d_M_beginsStep_53 : decode y_M_beginsStep.2.1 53 = .ok (.invokevirtual 248, 3) := by decide +kernel
theorem b_M_beginsStep_53 {X : aw_X} {d : Nat} {Q : Option Value → aw_H → Prop} {I : Nat → Nat → Int32} {L : Nat → Nat → Int64} {D : Nat → Nat} {s1 : Int64}
    (h1 : aw_m X d y_M_isKey [.ref 69, .long s1] (aw_s I L D) (fun r A => aw_z X (d + 1) y_M_beginsStep Q 56 [some (.ref 69)] (r.toList ++ []) A)) :
    aw_z X (d + 1) y_M_beginsStep Q 53 [some (.ref 69)] [.long s1, .ref 69] (aw_s I L D) :=
  (z_callV (av := [.long s1]) (st := []) ok_M_isKey (Or.inl w_1798) w_1800 w_81 k_M d_M_beginsStep_53 rfl (aw_lt (o := 69) rfl) rfl rfl (Nat.le_of_ble_eq_true rfl) (Nat.le_refl _) (Nat.le_refl _) (h1))
theorem d_M_beginsStep_56 : decode y_M_beginsStep.2.1 56 = .ok (.ifCond .eq (5), 3) := by decide +kernel
theorem d_M_beginsStep_61 : decode y_M_beginsStep.2.1 61 = .ok (.aload_n 0, 1) := by decide +kernel
theorem d_M_beginsStep_62 : decode y_M_beginsStep.2.1 62 = .ok (.bipush 109, 2) := by decide +kernel
theorem d_M_beginsStep_64 : decode y_M_beginsStep.2.1 64 = .ok (.bipush 117, 2) := by decide +kernel
theorem d_M_beginsStep_66 : decode y_M_beginsStep.2.1 66 = .ok (.bipush 115, 2) := by decide +kernel
theorem d_M_beginsStep_68 : decode y_M_beginsStep.2.1 68 = .ok (.bipush 116, 2) := by decide +kernel
theorem d_M_beginsStep_70 : decode y_M_beginsStep.2.1 70 = .ok (.iconst 0, 1) := by decide +kernel
theorem s_M_beginsStep_61 : aw_VS y_M_beginsStep 61 [o_ald 0, o_c (.int (109 : Int32)), o_c (.int (117 : Int32)), o_c (.int (115 : Int32)), o_c (.int (116 : Int32)), o_c (.int (0 : Int32))] 71 := .cons (v_aload_n (i := 0) d_M_beginsStep_61 rfl) (.cons (v_bipush (v := (109 : Int32)) d_M_beginsStep_62 (by decide +kernel)) (.cons (v_bipush (v := (117 : Int32)) d_M_beginsStep_64 (by decide +kernel)) (.cons (v_bipush (v := (115 : Int32)) d_M_beginsStep_66 (by decide +kernel)) (.cons (v_bipush (v := (116 : Int32)) d_M_beginsStep_68 (by decide +kernel)) (.cons (v_iconst (v := (0 : Int32)) d_M_beginsStep_70 (by decide +kernel)) .nil)))))
theorem d_M_beginsStep_71 : decode y_M_beginsStep.2.1 71 = .ok (.invokestatic 244, 3) := by decide +kernel
theorem b_M_beginsStep_56 {X : aw_X} {d : Nat} {Q : Option Value → aw_H → Prop} {I : Nat → Nat → Int32} {L : Nat → Nat → Int64} {D : Nat → Nat} {s0 : Int32}
    (h1 : s0 = 0 → aw_m X d y_M_spelt [.int (109 : Int32), .int (117 : Int32), .int (115 : Int32), .int (116 : Int32), .int (0 : Int32)] (aw_s I L D) (fun r A => aw_z X (d + 1) y_M_beginsStep Q 74 [some (.ref 69)] (r.toList ++ [.ref 69]) A))
    (h2 : ¬ s0 = 0 → Q (some (.int (1 : Int32))) (aw_s I L D)) :
    aw_z X (d + 1) y_M_beginsStep Q 56 [some (.ref 69)] [.int s0] (aw_s I L D) :=
  (z_if_eq (tgt := 61) d_M_beginsStep_56 rfl (fun q1 => (s_M_beginsStep_61.go [some (.ref 69)] [.int (0 : Int32), .int (116 : Int32), .int (115 : Int32), .int (117 : Int32), .int (109 : Int32), .ref 69] (aw_s I L D) rfl (z_callS (av := [.int (109 : Int32), .int (117 : Int32), .int (115 : Int32), .int (116 : Int32), .int (0 : Int32)]) (st := [.ref 69]) ok_M_spelt (Or.inl w_1795) w_1796 d_M_beginsStep_71 rfl rfl (Nat.le_of_ble_eq_true rfl) (Nat.le_refl _) (Nat.le_refl _) (h1 q1)))) (fun q2 => (s_M_beginsStep_59.go [some (.ref 69)] [.int (1 : Int32)] (aw_s I L D) rfl (z_iret d_M_beginsStep_60 rfl (aw_nz (by decide +kernel)) (h2 q2)))))
theorem d_M_beginsStep_74 : decode y_M_beginsStep.2.1 74 = .ok (.invokevirtual 248, 3) := by decide +kernel
theorem b_M_beginsStep_74 {X : aw_X} {d : Nat} {Q : Option Value → aw_H → Prop} {I : Nat → Nat → Int32} {L : Nat → Nat → Int64} {D : Nat → Nat} {s1 : Int64}
    (h1 : aw_m X d y_M_isKey [.ref 69, .long s1] (aw_s I L D) (fun r A => aw_z X (d + 1) y_M_beginsStep Q 77 [some (.ref 69)] (r.toList ++ []) A)) :
    aw_z X (d + 1) y_M_beginsStep Q 74 [some (.ref 69)] [.long s1, .ref 69] (aw_s I L D) :=
  (z_callV (av := [.long s1]) (st := []) ok_M_isKey (Or.inl w_1798) w_1800 w_81 k_M d_M_beginsStep_74 rfl (aw_lt (o := 69) rfl) rfl rfl (Nat.le_of_ble_eq_true rfl) (Nat.le_refl _) (Nat.le_refl _) (h1))
theorem d_M_beginsStep_77 : decode y_M_beginsStep.2.1 77 = .ok (.ifCond .ne (57), 3) := by decide +kernel
theorem d_M_beginsStep_134 : decode y_M_beginsStep.2.1 134 = .ok (.iconst 1, 1) := by decide +kernel
theorem s_M_beginsStep_134 : aw_VS y_M_beginsStep 134 [o_c (.int (1 : Int32))] 135 := .cons (v_iconst (v := (1 : Int32)) d_M_beginsStep_134 (by decide +kernel)) .nil
theorem d_M_beginsStep_135 : decode y_M_beginsStep.2.1 135 = .ok (.goto (4), 3) := by decide +kernel
theorem d_M_beginsStep_139 : decode y_M_beginsStep.2.1 139 = .ok (.ireturn, 1) := by decide +kernel
theorem d_M_beginsStep_80 : decode y_M_beginsStep.2.1 80 = .ok (.aload_n 0, 1) := by decide +kernel
theorem d_M_beginsStep_81 : decode y_M_beginsStep.2.1 81 = .ok (.bipush 108, 2) := by decide +kernel
theorem d_M_beginsStep_83 : decode y_M_beginsStep.2.1 83 = .ok (.bipush 101, 2) := by decide +kernel
theorem d_M_beginsStep_85 : decode y_M_beginsStep.2.1 85 = .ok (.bipush 116, 2) := by decide +kernel
theorem d_M_beginsStep_87 : decode y_M_beginsStep.2.1 87 = .ok (.iconst 0, 1) := by decide +kernel
theorem d_M_beginsStep_88 : decode y_M_beginsStep.2.1 88 = .ok (.iconst 0, 1) := by decide +kernel
theorem s_M_beginsStep_80 : aw_VS y_M_beginsStep 80 [o_ald 0, o_c (.int (108 : Int32)), o_c (.int (101 : Int32)), o_c (.int (116 : Int32)), o_c (.int (0 : Int32)), o_c (.int (0 : Int32))] 89 := .cons (v_aload_n (i := 0) d_M_beginsStep_80 rfl) (.cons (v_bipush (v := (108 : Int32)) d_M_beginsStep_81 (by decide +kernel)) (.cons (v_bipush (v := (101 : Int32)) d_M_beginsStep_83 (by decide +kernel)) (.cons (v_bipush (v := (116 : Int32)) d_M_beginsStep_85 (by decide +kernel)) (.cons (v_iconst (v := (0 : Int32)) d_M_beginsStep_87 (by decide +kernel)) (.cons (v_iconst (v := (0 : Int32)) d_M_beginsStep_88 (by decide +kernel)) .nil)))))
theorem d_M_beginsStep_89 : decode y_M_beginsStep.2.1 89 = .ok (.invokestatic 244, 3) := by decide +kernel
theorem b_M_beginsStep_77 {X : aw_X} {d : Nat} {Q : Option Value → aw_H → Prop} {I : Nat → Nat → Int32} {L : Nat → Nat → Int64} {D : Nat → Nat} {s0 : Int32}
    (h1 : ¬ s0 = 0 → Q (some (.int (1 : Int32))) (aw_s I L D))
    (h2 : s0 = 0 → aw_m X d y_M_spelt [.int (108 : Int32), .int (101 : Int32), .int (116 : Int32), .int (0 : Int32), .int (0 : Int32)] (aw_s I L D) (fun r A => aw_z X (d + 1) y_M_beginsStep Q 92 [some (.ref 69)] (r.toList ++ [.ref 69]) A)) :
    aw_z X (d + 1) y_M_beginsStep Q 77 [some (.ref 69)] [.int s0] (aw_s I L D) :=
  (z_if_ne (tgt := 134) d_M_beginsStep_77 rfl (fun q1 => (s_M_beginsStep_134.go [some (.ref 69)] [.int (1 : Int32)] (aw_s I L D) rfl (z_goto (tgt := 139) d_M_beginsStep_135 rfl (z_iret d_M_beginsStep_139 rfl (aw_nz (by decide +kernel)) (h1 q1))))) (fun q2 => (s_M_beginsStep_80.go [some (.ref 69)] [.int (0 : Int32), .int (0 : Int32), .int (116 : Int32), .int (101 : Int32), .int (108 : Int32), .ref 69] (aw_s I L D) rfl (z_callS (av := [.int (108 : Int32), .int (101 : Int32), .int (116 : Int32), .int (0 : Int32), .int (0 : Int32)]) (st := [.ref 69]) ok_M_spelt (Or.inl w_1795) w_1796 d_M_beginsStep_89 rfl rfl (Nat.le_of_ble_eq_true rfl) (Nat.le_refl _) (Nat.le_refl _) (h2 q2)))))
theorem d_M_beginsStep_92 : decode y_M_beginsStep.2.1 92 = .ok (.invokevirtual 248, 3) := by decide +kernel
theorem b_M_beginsStep_92 {X : aw_X} {d : Nat} {Q : Option Value → aw_H → Prop} {I : Nat → Nat → Int32} {L : Nat → Nat → Int64} {D : Nat → Nat} {s1 : Int64}
    (h1 : aw_m X d y_M_isKey [.ref 69, .long s1] (aw_s I L D) (fun r A => aw_z X (d + 1) y_M_beginsStep Q 95 [some (.ref 69)] (r.toList ++ []) A)) :
    aw_z X (d + 1) y_M_beginsStep Q 92 [some (.ref 69)] [.long s1, .ref 69] (aw_s I L D) :=
  (z_callV (av := [.long s1]) (st := []) ok_M_isKey (Or.inl w_1798) w_1800 w_81 k_M d_M_beginsStep_92 rfl (aw_lt (o := 69) rfl) rfl rfl (Nat.le_of_ble_eq_true rfl) (Nat.le_refl _) (Nat.le_refl _) (h1))
theorem d_M_beginsStep_95 : decode y_M_beginsStep.2.1 95 = .ok (.ifCond .ne (39), 3) := by decide +kernel
theorem d_M_beginsStep_98 : decode y_M_beginsStep.2.1 98 = .ok (.aload_n 0, 1) := by decide +kernel
theorem d_M_beginsStep_99 : decode y_M_beginsStep.2.1 99 = .ok (.bipush 97, 2) := by decide +kernel
theorem d_M_beginsStep_101 : decode y_M_beginsStep.2.1 101 = .ok (.bipush 115, 2) := by decide +kernel
theorem d_M_beginsStep_103 : decode y_M_beginsStep.2.1 103 = .ok (.bipush 107, 2) := by decide +kernel
theorem d_M_beginsStep_105 : decode y_M_beginsStep.2.1 105 = .ok (.iconst 0, 1) := by decide +kernel
theorem d_M_beginsStep_106 : decode y_M_beginsStep.2.1 106 = .ok (.iconst 0, 1) := by decide +kernel
theorem s_M_beginsStep_98 : aw_VS y_M_beginsStep 98 [o_ald 0, o_c (.int (97 : Int32)), o_c (.int (115 : Int32)), o_c (.int (107 : Int32)), o_c (.int (0 : Int32)), o_c (.int (0 : Int32))] 107 := .cons (v_aload_n (i := 0) d_M_beginsStep_98 rfl) (.cons (v_bipush (v := (97 : Int32)) d_M_beginsStep_99 (by decide +kernel)) (.cons (v_bipush (v := (115 : Int32)) d_M_beginsStep_101 (by decide +kernel)) (.cons (v_bipush (v := (107 : Int32)) d_M_beginsStep_103 (by decide +kernel)) (.cons (v_iconst (v := (0 : Int32)) d_M_beginsStep_105 (by decide +kernel)) (.cons (v_iconst (v := (0 : Int32)) d_M_beginsStep_106 (by decide +kernel)) .nil)))))
theorem d_M_beginsStep_107 : decode y_M_beginsStep.2.1 107 = .ok (.invokestatic 244, 3) := by decide +kernel
theorem b_M_beginsStep_95 {X : aw_X} {d : Nat} {Q : Option Value → aw_H → Prop} {I : Nat → Nat → Int32} {L : Nat → Nat → Int64} {D : Nat → Nat} {s0 : Int32}
    (h1 : ¬ s0 = 0 → Q (some (.int (1 : Int32))) (aw_s I L D))
    (h2 : s0 = 0 → aw_m X d y_M_spelt [.int (97 : Int32), .int (115 : Int32), .int (107 : Int32), .int (0 : Int32), .int (0 : Int32)] (aw_s I L D) (fun r A => aw_z X (d + 1) y_M_beginsStep Q 110 [some (.ref 69)] (r.toList ++ [.ref 69]) A)) :
    aw_z X (d + 1) y_M_beginsStep Q 95 [some (.ref 69)] [.int s0] (aw_s I L D) :=
  (z_if_ne (tgt := 134) d_M_beginsStep_95 rfl (fun q1 => (s_M_beginsStep_134.go [some (.ref 69)] [.int (1 : Int32)] (aw_s I L D) rfl (z_goto (tgt := 139) d_M_beginsStep_135 rfl (z_iret d_M_beginsStep_139 rfl (aw_nz (by decide +kernel)) (h1 q1))))) (fun q2 => (s_M_beginsStep_98.go [some (.ref 69)] [.int (0 : Int32), .int (0 : Int32), .int (107 : Int32), .int (115 : Int32), .int (97 : Int32), .ref 69] (aw_s I L D) rfl (z_callS (av := [.int (97 : Int32), .int (115 : Int32), .int (107 : Int32), .int (0 : Int32), .int (0 : Int32)]) (st := [.ref 69]) ok_M_spelt (Or.inl w_1795) w_1796 d_M_beginsStep_107 rfl rfl (Nat.le_of_ble_eq_true rfl) (Nat.le_refl _) (Nat.le_refl _) (h2 q2)))))
theorem d_M_beginsStep_110 : decode y_M_beginsStep.2.1 110 = .ok (.invokevirtual 248, 3) := by decide +kernel
theorem b_M_beginsStep_110 {X : aw_X} {d : Nat} {Q : Option Value → aw_H → Prop} {I : Nat → Nat → Int32} {L : Nat → Nat → Int64} {D : Nat → Nat} {s1 : Int64}
    (h1 : aw_m X d y_M_isKey [.ref 69, .long s1] (aw_s I L D) (fun r A => aw_z X (d + 1) y_M_beginsStep Q 113 [some (.ref 69)] (r.toList ++ []) A)) :
    aw_z X (d + 1) y_M_beginsStep Q 110 [some (.ref 69)] [.long s1, .ref 69] (aw_s I L D) :=
  (z_callV (av := [.long s1]) (st := []) ok_M_isKey (Or.inl w_1798) w_1800 w_81 k_M d_M_beginsStep_110 rfl (aw_lt (o := 69) rfl) rfl rfl (Nat.le_of_ble_eq_true rfl) (Nat.le_refl _) (Nat.le_refl _) (h1))
theorem d_M_beginsStep_113 : decode y_M_beginsStep.2.1 113 = .ok (.ifCond .ne (21), 3) := by decide +kernel
theorem d_M_beginsStep_116 : decode y_M_beginsStep.2.1 116 = .ok (.aload_n 0, 1) := by decide +kernel
theorem d_M_beginsStep_117 : decode y_M_beginsStep.2.1 117 = .ok (.bipush 101, 2) := by decide +kernel
theorem d_M_beginsStep_119 : decode y_M_beginsStep.2.1 119 = .ok (.bipush 110, 2) := by decide +kernel
theorem d_M_beginsStep_121 : decode y_M_beginsStep.2.1 121 = .ok (.bipush 100, 2) := by decide +kernel
theorem d_M_beginsStep_123 : decode y_M_beginsStep.2.1 123 = .ok (.iconst 0, 1) := by decide +kernel
theorem d_M_beginsStep_124 : decode y_M_beginsStep.2.1 124 = .ok (.iconst 0, 1) := by decide +kernel
theorem s_M_beginsStep_116 : aw_VS y_M_beginsStep 116 [o_ald 0, o_c (.int (101 : Int32)), o_c (.int (110 : Int32)), o_c (.int (100 : Int32)), o_c (.int (0 : Int32)), o_c (.int (0 : Int32))] 125 := .cons (v_aload_n (i := 0) d_M_beginsStep_116 rfl) (.cons (v_bipush (v := (101 : Int32)) d_M_beginsStep_117 (by decide +kernel)) (.cons (v_bipush (v := (110 : Int32)) d_M_beginsStep_119 (by decide +kernel)) (.cons (v_bipush (v := (100 : Int32)) d_M_beginsStep_121 (by decide +kernel)) (.cons (v_iconst (v := (0 : Int32)) d_M_beginsStep_123 (by decide +kernel)) (.cons (v_iconst (v := (0 : Int32)) d_M_beginsStep_124 (by decide +kernel)) .nil)))))
theorem d_M_beginsStep_125 : decode y_M_beginsStep.2.1 125 = .ok (.invokestatic 244, 3) := by decide +kernel
theorem b_M_beginsStep_113 {X : aw_X} {d : Nat} {Q : Option Value → aw_H → Prop} {I : Nat → Nat → Int32} {L : Nat → Nat → Int64} {D : Nat → Nat} {s0 : Int32}
    (h1 : ¬ s0 = 0 → Q (some (.int (1 : Int32))) (aw_s I L D))
    (h2 : s0 = 0 → aw_m X d y_M_spelt [.int (101 : Int32), .int (110 : Int32), .int (100 : Int32), .int (0 : Int32), .int (0 : Int32)] (aw_s I L D) (fun r A => aw_z X (d + 1) y_M_beginsStep Q 128 [none] (r.toList ++ [.ref 69]) A)) :
    aw_z X (d + 1) y_M_beginsStep Q 113 [some (.ref 69)] [.int s0] (aw_s I L D) :=
  (z_if_ne (tgt := 134) d_M_beginsStep_113 rfl (fun q1 => (s_M_beginsStep_134.go [some (.ref 69)] [.int (1 : Int32)] (aw_s I L D) rfl (z_goto (tgt := 139) d_M_beginsStep_135 rfl (z_iret d_M_beginsStep_139 rfl (aw_nz (by decide +kernel)) (h1 q1))))) (fun q2 => (s_M_beginsStep_116.go [some (.ref 69)] [.int (0 : Int32), .int (0 : Int32), .int (100 : Int32), .int (110 : Int32), .int (101 : Int32), .ref 69] (aw_s I L D) rfl (z_callS (av := [.int (101 : Int32), .int (110 : Int32), .int (100 : Int32), .int (0 : Int32), .int (0 : Int32)]) (st := [.ref 69]) ok_M_spelt (Or.inl w_1795) w_1796 d_M_beginsStep_125 rfl rfl (Nat.le_of_ble_eq_true rfl) (Nat.le_refl _) (Nat.le_refl _) (aw_C.mono (h2 q2) (fun _ _ zz => aw_Z.weak (ls' := [none]) zz (Nat.le_of_ble_eq_true rfl) ⟨Or.inl rfl, trivial⟩))))))
theorem d_M_beginsStep_128 : decode y_M_beginsStep.2.1 128 = .ok (.invokevirtual 248, 3) := by decide +kernel
theorem b_M_beginsStep_128 {X : aw_X} {d : Nat} {Q : Option Value → aw_H → Prop} {I : Nat → Nat → Int32} {L : Nat → Nat → Int64} {D : Nat → Nat} {s1 : Int64}
    (h1 : aw_m X d y_M_isKey [.ref 69, .long s1] (aw_s I L D) (fun r A => aw_z X (d + 1) y_M_beginsStep Q 131 [none] (r.toList ++ []) A)) :
    aw_z X (d + 1) y_M_beginsStep Q 128 [none] [.long s1, .ref 69] (aw_s I L D) :=
  (z_callV (av := [.long s1]) (st := []) ok_M_isKey (Or.inl w_1798) w_1800 w_81 k_M d_M_beginsStep_128 rfl (aw_lt (o := 69) rfl) rfl rfl (Nat.le_of_ble_eq_true rfl) (Nat.le_refl _) (Nat.le_refl _) (h1))
theorem d_M_beginsStep_131 : decode y_M_beginsStep.2.1 131 = .ok (.ifCond .eq (7), 3) := by decide +kernel
theorem d_M_beginsStep_138 : decode y_M_beginsStep.2.1 138 = .ok (.iconst 0, 1) := by decide +kernel
theorem s_M_beginsStep_138 : aw_VS y_M_beginsStep 138 [o_c (.int (0 : Int32))] 139 := .cons (v_iconst (v := (0 : Int32)) d_M_beginsStep_138 (by decide +kernel)) .nil
theorem b_M_beginsStep_131 {X : aw_X} {d : Nat} {Q : Option Value → aw_H → Prop} {I : Nat → Nat → Int32} {L : Nat → Nat → Int64} {D : Nat → Nat} {s0 : Int32}
    (h1 : s0 = 0 → Q (some (.int (0 : Int32))) (aw_s I L D))
    (h2 : ¬ s0 = 0 → Q (some (.int (1 : Int32))) (aw_s I L D)) :
    aw_z X (d + 1) y_M_beginsStep Q 131 [none] [.int s0] (aw_s I L D) :=
  (z_if_eq (tgt := 138) d_M_beginsStep_131 rfl (fun q1 => (s_M_beginsStep_138.go [none] [.int (0 : Int32)] (aw_s I L D) rfl (z_iret d_M_beginsStep_139 rfl (aw_nz (by decide +kernel)) (h1 q1)))) (fun q2 => (s_M_beginsStep_134.go [none] [.int (1 : Int32)] (aw_s I L D) rfl (z_goto (tgt := 139) d_M_beginsStep_135 rfl (z_iret d_M_beginsStep_139 rfl (aw_nz (by decide +kernel)) (h2 q2))))))
/-! M_isName -/
theorem d_M_isName_0 : decode y_M_isName.2.1 0 = .ok (.aload_n 0, 1) := by decide +kernel
theorem d_M_isName_1 : decode y_M_isName.2.1 1 = .ok (.getfield 179, 3) := by decide +kernel
theorem d_M_isName_4 : decode y_M_isName.2.1 4 = .ok (.iconst 2, 1) := by decide +kernel
theorem s_M_isName_0 : aw_VS y_M_isName 0 [o_ald 0, o_getI 9 6, o_c (.int (2 : Int32))] 5 := .cons (v_aload_n (i := 0) d_M_isName_0 rfl) (.cons (v_getI (k := 6) k_M (by decide) (Or.inl rfl) (Or.inl w_1467) d_M_isName_1) (.cons (v_iconst (v := (2 : Int32)) d_M_isName_4 (by decide +kernel)) .nil))
theorem d_M_isName_5 : decode y_M_isName.2.1 5 = .ok (.if_icmp .ne (27), 3) := by decide +kernel
theorem d_M_isName_32 : decode y_M_isName.2.1 32 = .ok (.iconst 0, 1) := by decide +kernel
theorem s_M_isName_32 : aw_VS y_M_isName 32 [o_c (.int (0 : Int32))] 33 := .cons (v_iconst (v := (0 : Int32)) d_M_isName_32 (by decide +kernel)) .nil
theorem d_M_isName_33 : decode y_M_isName.2.1 33 = .ok (.ireturn, 1) := by decide +kernel
theorem d_M_isName_8 : decode y_M_isName.2.1 8 = .ok (.aload_n 0, 1) := by decide +kernel
theorem d_M_isName_9 : decode y_M_isName.2.1 9 = .ok (.getfield 195, 3) := by decide +kernel
theorem d_M_isName_12 : decode y_M_isName.2.1 12 = .ok (.lconst 1, 1) := by decide +kernel
theorem d_M_isName_13 : decode y_M_isName.2.1 13 = .ok (.lcmp, 1) := by decide +kernel
theorem s_M_isName_8 : aw_VS y_M_isName 8 [o_ald 0, o_getJ 9 11, o_c (.long (1 : Int64)), o_lc] 14 := .cons (v_aload_n (i := 0) d_M_isName_8 rfl) (.cons (v_getJ (k := 11) k_M (by decide) rfl (Or.inl w_1472) d_M_isName_9) (.cons (v_lconst (v := (1 : Int64)) d_M_isName_12 (by decide +kernel)) (.cons (v_lcmp d_M_isName_13) .nil)))
theorem d_M_isName_14 : decode y_M_isName.2.1 14 = .ok (.ifCond .lt (18), 3) := by decide +kernel
theorem d_M_isName_17 : decode y_M_isName.2.1 17 = .ok (.aload_n 0, 1) := by decide +kernel
theorem d_M_isName_18 : decode y_M_isName.2.1 18 = .ok (.getfield 195, 3) := by decide +kernel
theorem d_M_isName_21 : decode y_M_isName.2.1 21 = .ok (.ldc2_w 242, 3) := by decide +kernel
theorem d_M_isName_24 : decode y_M_isName.2.1 24 = .ok (.lcmp, 1) := by decide +kernel
theorem s_M_isName_17 : aw_VS y_M_isName 17 [o_ald 0, o_getJ 9 11, o_c (.long (8 : Int64)), o_lc] 25 := .cons (v_aload_n (i := 0) d_M_isName_17 rfl) (.cons (v_getJ (k := 11) k_M (by decide) rfl (Or.inl w_1472) d_M_isName_18) (.cons (v_ldc2 d_M_isName_21 w_1832) (.cons (v_lcmp d_M_isName_24) .nil)))
theorem d_M_isName_25 : decode y_M_isName.2.1 25 = .ok (.ifCond .gt (7), 3) := by decide +kernel
theorem d_M_isName_28 : decode y_M_isName.2.1 28 = .ok (.iconst 1, 1) := by decide +kernel
theorem s_M_isName_28 : aw_VS y_M_isName 28 [o_c (.int (1 : Int32))] 29 := .cons (v_iconst (v := (1 : Int32)) d_M_isName_28 (by decide +kernel)) .nil
theorem d_M_isName_29 : decode y_M_isName.2.1 29 = .ok (.goto (4), 3) := by decide +kernel
theorem b_M_isName_0 {X : aw_X} {d : Nat} {Q : Option Value → aw_H → Prop} {I : Nat → Nat → Int32} {L : Nat → Nat → Int64} {D : Nat → Nat} 
    (h1 : ¬ (I 69 6) = (2 : Int32) → Q (some (.int (0 : Int32))) (aw_s I L D))
    (h2 : (I 69 6) = (2 : Int32) → (lg_cmp (L 69 11) (1 : Int64)) < 0 → Q (some (.int (0 : Int32))) (aw_s I L D))
    (h3 : (I 69 6) = (2 : Int32) → ¬ (lg_cmp (L 69 11) (1 : Int64)) < 0 → 0 < (lg_cmp (L 69 11) (8 : Int64)) → Q (some (.int (0 : Int32))) (aw_s I L D))
    (h4 : (I 69 6) = (2 : Int32) → ¬ (lg_cmp (L 69 11) (1 : Int64)) < 0 → ¬ 0 < (lg_cmp (L 69 11) (8 : Int64)) → Q (some (.int (1 : Int32))) (aw_s I L D)) :
    aw_z X d y_M_isName Q 0 [some (.ref 69)] [] (aw_s I L D) :=
  (s_M_isName_0.go [some (.ref 69)] [.int (2 : Int32), .int (I 69 6)] (aw_s I L D) rfl (z_icmp_ne (tgt := 32) d_M_isName_5 rfl (fun q1 => (s_M_isName_32.go [some (.ref 69)] [.int (0 : Int32)] (aw_s I L D) rfl (z_iret d_M_isName_33 rfl (aw_nz (by decide +kernel)) (h1 q1)))) (fun q2 => (s_M_isName_8.go [some (.ref 69)] [.int (lg_cmp (L 69 11) (1 : Int64))] (aw_s I L D) rfl (z_if_lt (tgt := 32) d_M_isName_14 rfl (fun q3 => (s_M_isName_32.go [some (.ref 69)] [.int (0 : Int32)] (aw_s I L D) rfl (z_iret d_M_isName_33 rfl (aw_nz (by decide +kernel)) (h2 q2 q3)))) (fun q4 => (s_M_isName_17.go [some (.ref 69)] [.int (lg_cmp (L 69 11) (8 : Int64))] (aw_s I L D) rfl (z_if_gt (tgt := 32) d_M_isName_25 rfl (fun q5 => (s_M_isName_32.go [some (.ref 69)] [.int (0 : Int32)] (aw_s I L D) rfl (z_iret d_M_isName_33 rfl (aw_nz (by decide +kernel)) (h3 q2 q4 q5)))) (fun q6 => (s_M_isName_28.go [some (.ref 69)] [.int (1 : Int32)] (aw_s I L D) rfl (z_goto (tgt := 33) d_M_isName_29 rfl (z_iret d_M_isName_33 rfl (aw_nz (by decide +kernel)) (h4 q2 q4 q6)))))))))))))
/-! M_isIf -/
theorem d_M_isIf_0 : decode y_M_isIf.2.1 0 = .ok (.aload_n 0, 1) := by decide +kernel
theorem d_M_isIf_1 : decode y_M_isIf.2.1 1 = .ok (.bipush 105, 2) := by decide +kernel
theorem d_M_isIf_3 : decode y_M_isIf.2.1 3 = .ok (.bipush 102, 2) := by decide +kernel
theorem d_M_isIf_5 : decode y_M_isIf.2.1 5 = .ok (.iconst 0, 1) := by decide +kernel
theorem d_M_isIf_6 : decode y_M_isIf.2.1 6 = .ok (.iconst 0, 1) := by decide +kernel
theorem d_M_isIf_7 : decode y_M_isIf.2.1 7 = .ok (.iconst 0, 1) := by decide +kernel
theorem s_M_isIf_0 : aw_VS y_M_isIf 0 [o_ald 0, o_c (.int (105 : Int32)), o_c (.int (102 : Int32)), o_c (.int (0 : Int32)), o_c (.int (0 : Int32)), o_c (.int (0 : Int32))] 8 := .cons (v_aload_n (i := 0) d_M_isIf_0 rfl) (.cons (v_bipush (v := (105 : Int32)) d_M_isIf_1 (by decide +kernel)) (.cons (v_bipush (v := (102 : Int32)) d_M_isIf_3 (by decide +kernel)) (.cons (v_iconst (v := (0 : Int32)) d_M_isIf_5 (by decide +kernel)) (.cons (v_iconst (v := (0 : Int32)) d_M_isIf_6 (by decide +kernel)) (.cons (v_iconst (v := (0 : Int32)) d_M_isIf_7 (by decide +kernel)) .nil)))))
theorem d_M_isIf_8 : decode y_M_isIf.2.1 8 = .ok (.invokestatic 244, 3) := by decide +kernel
theorem b_M_isIf_0 {X : aw_X} {d : Nat} {Q : Option Value → aw_H → Prop} {I : Nat → Nat → Int32} {L : Nat → Nat → Int64} {D : Nat → Nat} 
    (h1 : aw_m X d y_M_spelt [.int (105 : Int32), .int (102 : Int32), .int (0 : Int32), .int (0 : Int32), .int (0 : Int32)] (aw_s I L D) (fun r A => aw_z X (d + 1) y_M_isIf Q 11 [none] (r.toList ++ [.ref 69]) A)) :
    aw_z X (d + 1) y_M_isIf Q 0 [some (.ref 69)] [] (aw_s I L D) :=
  (s_M_isIf_0.go [some (.ref 69)] [.int (0 : Int32), .int (0 : Int32), .int (0 : Int32), .int (102 : Int32), .int (105 : Int32), .ref 69] (aw_s I L D) rfl (z_callS (av := [.int (105 : Int32), .int (102 : Int32), .int (0 : Int32), .int (0 : Int32), .int (0 : Int32)]) (st := [.ref 69]) ok_M_spelt (Or.inl w_1795) w_1796 d_M_isIf_8 rfl rfl (Nat.le_of_ble_eq_true rfl) (Nat.le_refl _) (Nat.le_refl _) (aw_C.mono (h1) (fun _ _ zz => aw_Z.weak (ls' := [none]) zz (Nat.le_of_ble_eq_true rfl) ⟨Or.inl rfl, trivial⟩))))
theorem d_M_isIf_11 : decode y_M_isIf.2.1 11 = .ok (.invokevirtual 248, 3) := by decide +kernel
theorem b_M_isIf_11 {X : aw_X} {d : Nat} {Q : Option Value → aw_H → Prop} {I : Nat → Nat → Int32} {L : Nat → Nat → Int64} {D : Nat → Nat} {s1 : Int64}
    (h1 : aw_m X d y_M_isKey [.ref 69, .long s1] (aw_s I L D) (fun r A => aw_z X (d + 1) y_M_isIf Q 14 [none] (r.toList ++ []) A)) :
    aw_z X (d + 1) y_M_isIf Q 11 [none] [.long s1, .ref 69] (aw_s I L D) :=
  (z_callV (av := [.long s1]) (st := []) ok_M_isKey (Or.inl w_1798) w_1800 w_81 k_M d_M_isIf_11 rfl (aw_lt (o := 69) rfl) rfl rfl (Nat.le_of_ble_eq_true rfl) (Nat.le_refl _) (Nat.le_refl _) (h1))
theorem d_M_isIf_14 : decode y_M_isIf.2.1 14 = .ok (.ireturn, 1) := by decide +kernel
theorem b_M_isIf_14 {X : aw_X} {d : Nat} {Q : Option Value → aw_H → Prop} {I : Nat → Nat → Int32} {L : Nat → Nat → Int64} {D : Nat → Nat} {s0 : Int32}
    (h1 : (s0 = 0 ∨ s0 = 1))
    (h2 : Q (some (.int s0)) (aw_s I L D)) :
    aw_z X (d + 1) y_M_isIf Q 14 [none] [.int s0] (aw_s I L D) :=
  (z_iret d_M_isIf_14 rfl (aw_nz (h1)) (h2))
/-! M_isLoop -/
theorem d_M_isLoop_0 : decode y_M_isLoop.2.1 0 = .ok (.aload_n 0, 1) := by decide +kernel
theorem d_M_isLoop_1 : decode y_M_isLoop.2.1 1 = .ok (.bipush 119, 2) := by decide +kernel
theorem d_M_isLoop_3 : decode y_M_isLoop.2.1 3 = .ok (.bipush 104, 2) := by decide +kernel
theorem d_M_isLoop_5 : decode y_M_isLoop.2.1 5 = .ok (.bipush 105, 2) := by decide +kernel
theorem d_M_isLoop_7 : decode y_M_isLoop.2.1 7 = .ok (.bipush 108, 2) := by decide +kernel
theorem d_M_isLoop_9 : decode y_M_isLoop.2.1 9 = .ok (.bipush 101, 2) := by decide +kernel
theorem s_M_isLoop_0 : aw_VS y_M_isLoop 0 [o_ald 0, o_c (.int (119 : Int32)), o_c (.int (104 : Int32)), o_c (.int (105 : Int32)), o_c (.int (108 : Int32)), o_c (.int (101 : Int32))] 11 := .cons (v_aload_n (i := 0) d_M_isLoop_0 rfl) (.cons (v_bipush (v := (119 : Int32)) d_M_isLoop_1 (by decide +kernel)) (.cons (v_bipush (v := (104 : Int32)) d_M_isLoop_3 (by decide +kernel)) (.cons (v_bipush (v := (105 : Int32)) d_M_isLoop_5 (by decide +kernel)) (.cons (v_bipush (v := (108 : Int32)) d_M_isLoop_7 (by decide +kernel)) (.cons (v_bipush (v := (101 : Int32)) d_M_isLoop_9 (by decide +kernel)) .nil)))))
theorem d_M_isLoop_11 : decode y_M_isLoop.2.1 11 = .ok (.invokestatic 244, 3) := by decide +kernel
theorem b_M_isLoop_0 {X : aw_X} {d : Nat} {Q : Option Value → aw_H → Prop} {I : Nat → Nat → Int32} {L : Nat → Nat → Int64} {D : Nat → Nat} 
    (h1 : aw_m X d y_M_spelt [.int (119 : Int32), .int (104 : Int32), .int (105 : Int32), .int (108 : Int32), .int (101 : Int32)] (aw_s I L D) (fun r A => aw_z X (d + 1) y_M_isLoop Q 14 [none] (r.toList ++ [.ref 69]) A)) :
    aw_z X (d + 1) y_M_isLoop Q 0 [some (.ref 69)] [] (aw_s I L D) :=
  (s_M_isLoop_0.go [some (.ref 69)] [.int (101 : Int32), .int (108 : Int32), .int (105 : Int32), .int (104 : Int32), .int (119 : Int32), .ref 69] (aw_s I L D) rfl (z_callS (av := [.int (119 : Int32), .int (104 : Int32), .int (105 : Int32), .int (108 : Int32), .int (101 : Int32)]) (st := [.ref 69]) ok_M_spelt (Or.inl w_1795) w_1796 d_M_isLoop_11 rfl rfl (Nat.le_of_ble_eq_true rfl) (Nat.le_refl _) (Nat.le_refl _) (aw_C.mono (h1) (fun _ _ zz => aw_Z.weak (ls' := [none]) zz (Nat.le_of_ble_eq_true rfl) ⟨Or.inl rfl, trivial⟩))))
theorem d_M_isLoop_14 : decode y_M_isLoop.2.1 14 = .ok (.invokevirtual 248, 3) := by decide +kernel
theorem b_M_isLoop_14 {X : aw_X} {d : Nat} {Q : Option Value → aw_H → Prop} {I : Nat → Nat → Int32} {L : Nat → Nat → Int64} {D : Nat → Nat} {s1 : Int64}
    (h1 : aw_m X d y_M_isKey [.ref 69, .long s1] (aw_s I L D) (fun r A => aw_z X (d + 1) y_M_isLoop Q 17 [none] (r.toList ++ []) A)) :
    aw_z X (d + 1) y_M_isLoop Q 14 [none] [.long s1, .ref 69] (aw_s I L D) :=
  (z_callV (av := [.long s1]) (st := []) ok_M_isKey (Or.inl w_1798) w_1800 w_81 k_M d_M_isLoop_14 rfl (aw_lt (o := 69) rfl) rfl rfl (Nat.le_of_ble_eq_true rfl) (Nat.le_refl _) (Nat.le_refl _) (h1))
theorem d_M_isLoop_17 : decode y_M_isLoop.2.1 17 = .ok (.ireturn, 1) := by decide +kernel
theorem b_M_isLoop_17 {X : aw_X} {d : Nat} {Q : Option Value → aw_H → Prop} {I : Nat → Nat → Int32} {L : Nat → Nat → Int64} {D : Nat → Nat} {s0 : Int32}
    (h1 : (s0 = 0 ∨ s0 = 1))
    (h2 : Q (some (.int s0)) (aw_s I L D)) :
    aw_z X (d + 1) y_M_isLoop Q 17 [none] [.int s0] (aw_s I L D) :=
  (z_iret d_M_isLoop_17 rfl (aw_nz (h1)) (h2))
/-! M_readDecision -/
theorem d_M_readDecision_0 : decode y_M_readDecision.2.1 0 = .ok (.aload_n 0, 1) := by decide +kernel
theorem s_M_readDecision_0 : aw_VS y_M_readDecision 0 [o_ald 0] 1 := .cons (v_aload_n (i := 0) d_M_readDecision_0 rfl) .nil
theorem d_M_readDecision_1 : decode y_M_readDecision.2.1 1 = .ok (.invokevirtual 307, 3) := by decide +kernel
theorem b_M_readDecision_0 {X : aw_X} {d : Nat} {Q : Option Value → aw_H → Prop} {I : Nat → Nat → Int32} {L : Nat → Nat → Int64} {D : Nat → Nat} {v1 : Int32}
    (h1 : aw_m X d y_M_isLoop [.ref 69] (aw_s I L D) (fun r A => aw_z X (d + 1) y_M_readDecision Q 4 [some (.ref 69), some (.int v1), none, none, none] (r.toList ++ []) A)) :
    aw_z X (d + 1) y_M_readDecision Q 0 [some (.ref 69), some (.int v1), none, none, none] [] (aw_s I L D) :=
  (s_M_readDecision_0.go [some (.ref 69), some (.int v1), none, none, none] [.ref 69] (aw_s I L D) rfl (z_callV (av := []) (st := []) ok_M_isLoop (Or.inl w_1837) w_1839 w_90 k_M d_M_readDecision_1 rfl (aw_lt (o := 69) rfl) rfl rfl (Nat.le_of_ble_eq_true rfl) (Nat.le_refl _) (Nat.le_refl _) (h1)))
theorem d_M_readDecision_4 : decode y_M_readDecision.2.1 4 = .ok (.istore_n 2, 1) := by decide +kernel
theorem d_M_readDecision_5 : decode y_M_readDecision.2.1 5 = .ok (.aload_n 0, 1) := by decide +kernel
theorem d_M_readDecision_6 : decode y_M_readDecision.2.1 6 = .ok (.iconst 1, 1) := by decide +kernel
theorem d_M_readDecision_7 : decode y_M_readDecision.2.1 7 = .ok (.iload_n 1, 1) := by decide +kernel
theorem s_M_readDecision_4 : aw_VS y_M_readDecision 4 [o_ist 2, o_ald 0, o_c (.int (1 : Int32)), o_ild 1] 8 := .cons (v_istore_n d_M_readDecision_4) (.cons (v_aload_n (i := 0) d_M_readDecision_5 rfl) (.cons (v_iconst (v := (1 : Int32)) d_M_readDecision_6 (by decide +kernel)) (.cons (v_iload_n (i := 1) d_M_readDecision_7 rfl) .nil)))
theorem d_M_readDecision_8 : decode y_M_readDecision.2.1 8 = .ok (.invokevirtual 238, 3) := by decide +kernel
theorem b_M_readDecision_4 {X : aw_X} {d : Nat} {Q : Option Value → aw_H → Prop} {I : Nat → Nat → Int32} {L : Nat → Nat → Int64} {D : Nat → Nat} {v1 : Int32} {s0 : Int32}
    (h1 : aw_m X d y_M_emit [.ref 69, .int (1 : Int32), .int v1] (aw_s I L D) (fun r A => aw_z X (d + 1) y_M_readDecision Q 11 [some (.ref 69), none, some (.int s0), none, none] (r.toList ++ []) A)) :
    aw_z X (d + 1) y_M_readDecision Q 4 [some (.ref 69), some (.int v1), none, none, none] [.int s0] (aw_s I L D) :=
  (s_M_readDecision_4.go [some (.ref 69), some (.int v1), some (.int s0), none, none] [.int v1, .int (1 : Int32), .ref 69] (aw_s I L D) rfl (z_callV (av := [.int (1 : Int32), .int v1]) (st := []) ok_M_emit (Or.inl w_1787) w_1789 w_79 k_M d_M_readDecision_8 rfl (aw_lt (o := 69) rfl) rfl rfl (Nat.le_of_ble_eq_true rfl) (Nat.le_refl _) (Nat.le_refl _) (aw_C.mono (h1) (fun _ _ zz => aw_Z.weak (ls' := [some (.ref 69), none, some (.int s0), none, none]) zz (Nat.le_of_ble_eq_true rfl) ⟨Or.inr rfl, ⟨Or.inl rfl, ⟨Or.inr rfl, ⟨Or.inl rfl, ⟨Or.inl rfl, trivial⟩⟩⟩⟩⟩))))
theorem d_M_readDecision_11 : decode y_M_readDecision.2.1 11 = .ok (.istore_n 3, 1) := by decide +kernel
theorem d_M_readDecision_12 : decode y_M_readDecision.2.1 12 = .ok (.aload_n 0, 1) := by decide +kernel
theorem s_M_readDecision_11 : aw_VS y_M_readDecision 11 [o_ist 3, o_ald 0] 13 := .cons (v_istore_n d_M_readDecision_11) (.cons (v_aload_n (i := 0) d_M_readDecision_12 rfl) .nil)
theorem d_M_readDecision_13 : decode y_M_readDecision.2.1 13 = .ok (.invokevirtual 222, 3) := by decide +kernel
theorem b_M_readDecision_11 {X : aw_X} {d : Nat} {Q : Option Value → aw_H → Prop} {I : Nat → Nat → Int32} {L : Nat → Nat → Int64} {D : Nat → Nat} {v2 : Int32} {s0 : Int32}
    (h1 : aw_m X d y_M_go [.ref 69] (aw_s I L D) (fun r A => aw_z X (d + 1) y_M_readDecision Q 16 [some (.ref 69), none, some (.int v2), some (.int s0), none] (r.toList ++ []) A)) :
    aw_z X (d + 1) y_M_readDecision Q 11 [some (.ref 69), none, some (.int v2), none, none] [.int s0] (aw_s I L D) :=
  (s_M_readDecision_11.go [some (.ref 69), none, some (.int v2), some (.int s0), none] [.ref 69] (aw_s I L D) rfl (z_callV (av := []) (st := []) ok_M_go (Or.inl w_1760) w_1762 w_75 k_M d_M_readDecision_13 rfl (aw_lt (o := 69) rfl) rfl rfl (Nat.le_of_ble_eq_true rfl) (Nat.le_refl _) (Nat.le_refl _) (h1)))
theorem d_M_readDecision_16 : decode y_M_readDecision.2.1 16 = .ok (.aload_n 0, 1) := by decide +kernel
theorem s_M_readDecision_16 : aw_VS y_M_readDecision 16 [o_ald 0] 17 := .cons (v_aload_n (i := 0) d_M_readDecision_16 rfl) .nil
theorem d_M_readDecision_17 : decode y_M_readDecision.2.1 17 = .ok (.invokevirtual 325, 3) := by decide +kernel
theorem b_M_readDecision_16 {X : aw_X} {d : Nat} {Q : Option Value → aw_H → Prop} {I : Nat → Nat → Int32} {L : Nat → Nat → Int64} {D : Nat → Nat} {v2 : Int32} {v3 : Int32}
    (h1 : aw_m X d y_M_readCond [.ref 69] (aw_s I L D) (fun r A => aw_z X (d + 1) y_M_readDecision Q 20 [some (.ref 69), none, some (.int v2), some (.int v3), none] (r.toList ++ []) A)) :
    aw_z X (d + 1) y_M_readDecision Q 16 [some (.ref 69), none, some (.int v2), some (.int v3), none] [] (aw_s I L D) :=
  (s_M_readDecision_16.go [some (.ref 69), none, some (.int v2), some (.int v3), none] [.ref 69] (aw_s I L D) rfl (z_callV (av := []) (st := []) ok_M_readCond (Or.inl w_1845) w_1847 w_92 k_M d_M_readDecision_17 rfl (aw_lt (o := 69) rfl) rfl rfl (Nat.le_of_ble_eq_true rfl) (Nat.le_refl _) (Nat.le_refl _) (h1)))
theorem d_M_readDecision_20 : decode y_M_readDecision.2.1 20 = .ok (.ifCond .ne (5), 3) := by decide +kernel
theorem d_M_readDecision_25 : decode y_M_readDecision.2.1 25 = .ok (.aload_n 0, 1) := by decide +kernel
theorem d_M_readDecision_26 : decode y_M_readDecision.2.1 26 = .ok (.bipush 21, 2) := by decide +kernel
theorem d_M_readDecision_28 : decode y_M_readDecision.2.1 28 = .ok (.iconst 0, 1) := by decide +kernel
theorem s_M_readDecision_25 : aw_VS y_M_readDecision 25 [o_ald 0, o_c (.int (21 : Int32)), o_c (.int (0 : Int32))] 29 := .cons (v_aload_n (i := 0) d_M_readDecision_25 rfl) (.cons (v_bipush (v := (21 : Int32)) d_M_readDecision_26 (by decide +kernel)) (.cons (v_iconst (v := (0 : Int32)) d_M_readDecision_28 (by decide +kernel)) .nil))
theorem d_M_readDecision_29 : decode y_M_readDecision.2.1 29 = .ok (.invokevirtual 238, 3) := by decide +kernel
theorem d_M_readDecision_23 : decode y_M_readDecision.2.1 23 = .ok (.iconst 0, 1) := by decide +kernel
theorem s_M_readDecision_23 : aw_VS y_M_readDecision 23 [o_c (.int (0 : Int32))] 24 := .cons (v_iconst (v := (0 : Int32)) d_M_readDecision_23 (by decide +kernel)) .nil
theorem d_M_readDecision_24 : decode y_M_readDecision.2.1 24 = .ok (.ireturn, 1) := by decide +kernel
theorem b_M_readDecision_20 {X : aw_X} {d : Nat} {Q : Option Value → aw_H → Prop} {I : Nat → Nat → Int32} {L : Nat → Nat → Int64} {D : Nat → Nat} {v2 : Int32} {v3 : Int32} {s0 : Int32}
    (h1 : ¬ s0 = 0 → aw_m X d y_M_emit [.ref 69, .int (21 : Int32), .int (0 : Int32)] (aw_s I L D) (fun r A => aw_z X (d + 1) y_M_readDecision Q 32 [some (.ref 69), none, some (.int v2), some (.int v3), none] (r.toList ++ []) A))
    (h2 : s0 = 0 → Q (some (.int (0 : Int32))) (aw_s I L D)) :
    aw_z X (d + 1) y_M_readDecision Q 20 [some (.ref 69), none, some (.int v2), some (.int v3), none] [.int s0] (aw_s I L D) :=
  (z_if_ne (tgt := 25) d_M_readDecision_20 rfl (fun q1 => (s_M_readDecision_25.go [some (.ref 69), none, some (.int v2), some (.int v3), none] [.int (0 : Int32), .int (21 : Int32), .ref 69] (aw_s I L D) rfl (z_callV (av := [.int (21 : Int32), .int (0 : Int32)]) (st := []) ok_M_emit (Or.inl w_1787) w_1789 w_79 k_M d_M_readDecision_29 rfl (aw_lt (o := 69) rfl) rfl rfl (Nat.le_of_ble_eq_true rfl) (Nat.le_refl _) (Nat.le_refl _) (h1 q1)))) (fun q2 => (s_M_readDecision_23.go [some (.ref 69), none, some (.int v2), some (.int v3), none] [.int (0 : Int32)] (aw_s I L D) rfl (z_iret d_M_readDecision_24 rfl (aw_nz (by decide +kernel)) (h2 q2)))))
theorem d_M_readDecision_32 : decode y_M_readDecision.2.1 32 = .ok (.istore 4, 2) := by decide +kernel
theorem d_M_readDecision_34 : decode y_M_readDecision.2.1 34 = .ok (.aload_n 0, 1) := by decide +kernel
theorem d_M_readDecision_35 : decode y_M_readDecision.2.1 35 = .ok (.iload_n 2, 1) := by decide +kernel
theorem s_M_readDecision_32 : aw_VS y_M_readDecision 32 [o_ist 4, o_ald 0, o_ild 2] 36 := .cons (v_istore d_M_readDecision_32) (.cons (v_aload_n (i := 0) d_M_readDecision_34 rfl) (.cons (v_iload_n (i := 2) d_M_readDecision_35 rfl) .nil))
theorem d_M_readDecision_36 : decode y_M_readDecision.2.1 36 = .ok (.ifCond .eq (7), 3) := by decide +kernel
theorem d_M_readDecision_43 : decode y_M_readDecision.2.1 43 = .ok (.iconst 1, 1) := by decide +kernel
theorem s_M_readDecision_43 : aw_VS y_M_readDecision 43 [o_c (.int (1 : Int32))] 44 := .cons (v_iconst (v := (1 : Int32)) d_M_readDecision_43 (by decide +kernel)) .nil
theorem d_M_readDecision_39 : decode y_M_readDecision.2.1 39 = .ok (.iconst 3, 1) := by decide +kernel
theorem s_M_readDecision_39 : aw_VS y_M_readDecision 39 [o_c (.int (3 : Int32))] 40 := .cons (v_iconst (v := (3 : Int32)) d_M_readDecision_39 (by decide +kernel)) .nil
theorem d_M_readDecision_40 : decode y_M_readDecision.2.1 40 = .ok (.goto (4), 3) := by decide +kernel
theorem b_M_readDecision_32 {X : aw_X} {d : Nat} {Q : Option Value → aw_H → Prop} {I : Nat → Nat → Int32} {L : Nat → Nat → Int64} {D : Nat → Nat} {v2 : Int32} {v3 : Int32} {s0 : Int32}
    (h1 : v2 = 0 → aw_z X (d + 1) y_M_readDecision Q 44 [none, none, none, some (.int v3), some (.int s0)] [.int (1 : Int32), .ref 69] (aw_s I L D))
    (h2 : ¬ v2 = 0 → aw_z X (d + 1) y_M_readDecision Q 44 [none, none, none, some (.int v3), some (.int s0)] [.int (3 : Int32), .ref 69] (aw_s I L D)) :
    aw_z X (d + 1) y_M_readDecision Q 32 [some (.ref 69), none, some (.int v2), some (.int v3), none] [.int s0] (aw_s I L D) :=
  (s_M_readDecision_32.go [some (.ref 69), none, some (.int v2), some (.int v3), some (.int s0)] [.int v2, .ref 69] (aw_s I L D) rfl (z_if_eq (tgt := 43) d_M_readDecision_36 rfl (fun q1 => (s_M_readDecision_43.go [some (.ref 69), none, some (.int v2), some (.int v3), some (.int s0)] [.int (1 : Int32), .ref 69] (aw_s I L D) rfl (aw_Z.weak (ls' := [none, none, none, some (.int v3), some (.int s0)]) (h1 q1) (Nat.le_of_ble_eq_true rfl) ⟨Or.inl rfl, ⟨Or.inl rfl, ⟨Or.inl rfl, ⟨Or.inr rfl, ⟨Or.inr rfl, trivial⟩⟩⟩⟩⟩))) (fun q2 => (s_M_readDecision_39.go [some (.ref 69), none, some (.int v2), some (.int v3), some (.int s0)] [.int (3 : Int32), .ref 69] (aw_s I L D) rfl (z_goto (tgt := 44) d_M_readDecision_40 rfl (aw_Z.weak (ls' := [none, none, none, some (.int v3), some (.int s0)]) (h2 q2) (Nat.le_of_ble_eq_true rfl) ⟨Or.inl rfl, ⟨Or.inl rfl, ⟨Or.inl rfl, ⟨Or.inr rfl, ⟨Or.inr rfl, trivial⟩⟩⟩⟩⟩))))))
theorem d_M_readDecision_44 : decode y_M_readDecision.2.1 44 = .ok (.iload 4, 2) := by decide +kernel
theorem d_M_readDecision_46 : decode y_M_readDecision.2.1 46 = .ok (.iload_n 3, 1) := by decide +kernel
theorem s_M_readDecision_44 : aw_VS y_M_readDecision 44 [o_ild 4, o_ild 3] 47 := .cons (v_iload (i := 4) d_M_readDecision_44) (.cons (v_iload_n (i := 3) d_M_readDecision_46 rfl) .nil)
theorem d_M_readDecision_47 : decode y_M_readDecision.2.1 47 = .ok (.invokevirtual 294, 3) := by decide +kernel
theorem b_M_readDecision_44 {X : aw_X} {d : Nat} {Q : Option Value → aw_H → Prop} {I : Nat → Nat → Int32} {L : Nat → Nat → Int64} {D : Nat → Nat} {v3 : Int32} {v4 : Int32} {s1 : Int32}
    (h1 : aw_m X d y_M_open [.ref 69, .int s1, .int v4, .int v3] (aw_s I L D) (fun r A => aw_z X (d + 1) y_M_readDecision Q 50 [none, none, none, none, none] (r.toList ++ []) A)) :
    aw_z X (d + 1) y_M_readDecision Q 44 [none, none, none, some (.int v3), some (.int v4)] [.int s1, .ref 69] (aw_s I L D) :=
  (s_M_readDecision_44.go [none, none, none, some (.int v3), some (.int v4)] [.int v3, .int v4, .int s1, .ref 69] (aw_s I L D) rfl (z_callV (av := [.int s1, .int v4, .int v3]) (st := []) ok_M_open (Or.inl w_1802) w_1804 w_82 k_M d_M_readDecision_47 rfl (aw_lt (o := 69) rfl) rfl rfl (Nat.le_of_ble_eq_true rfl) (Nat.le_refl _) (Nat.le_refl _) (aw_C.mono (h1) (fun _ _ zz => aw_Z.weak (ls' := [none, none, none, none, none]) zz (Nat.le_of_ble_eq_true rfl) ⟨Or.inl rfl, ⟨Or.inl rfl, ⟨Or.inl rfl, ⟨Or.inl rfl, ⟨Or.inl rfl, trivial⟩⟩⟩⟩⟩))))
theorem d_M_readDecision_50 : decode y_M_readDecision.2.1 50 = .ok (.ireturn, 1) := by decide +kernel
theorem b_M_readDecision_50 {X : aw_X} {d : Nat} {Q : Option Value → aw_H → Prop} {I : Nat → Nat → Int32} {L : Nat → Nat → Int64} {D : Nat → Nat} {s0 : Int32}
    (h1 : (s0 = 0 ∨ s0 = 1))
    (h2 : Q (some (.int s0)) (aw_s I L D)) :
    aw_z X (d + 1) y_M_readDecision Q 50 [none, none, none, none, none] [.int s0] (aw_s I L D) :=
  (z_iret d_M_readDecision_50 rfl (aw_nz (h1)) (h2))
/-! M_readCond -/
theorem d_M_readCond_0 : decode y_M_readCond.2.1 0 = .ok (.aload_n 0, 1) := by decide +kernel
theorem s_M_readCond_0 : aw_VS y_M_readCond 0 [o_ald 0] 1 := .cons (v_aload_n (i := 0) d_M_readCond_0 rfl) .nil
theorem d_M_readCond_1 : decode y_M_readCond.2.1 1 = .ok (.invokevirtual 282, 3) := by decide +kernel
theorem b_M_readCond_0 {X : aw_X} {d : Nat} {Q : Option Value → aw_H → Prop} {I : Nat → Nat → Int32} {L : Nat → Nat → Int64} {D : Nat → Nat} 
    (h1 : aw_m X d y_M_readAll [.ref 69] (aw_s I L D) (fun r A => aw_z X (d + 1) y_M_readCond Q 4 [some (.ref 69)] (r.toList ++ []) A)) :
    aw_z X (d + 1) y_M_readCond Q 0 [some (.ref 69)] [] (aw_s I L D) :=
  (s_M_readCond_0.go [some (.ref 69)] [.ref 69] (aw_s I L D) rfl (z_callV (av := []) (st := []) ok_M_readAll (Or.inl w_1849) w_1851 w_93 k_M d_M_readCond_1 rfl (aw_lt (o := 69) rfl) rfl rfl (Nat.le_of_ble_eq_true rfl) (Nat.le_refl _) (Nat.le_refl _) (h1)))
theorem d_M_readCond_4 : decode y_M_readCond.2.1 4 = .ok (.ifCond .ne (5), 3) := by decide +kernel
theorem d_M_readCond_7 : decode y_M_readCond.2.1 7 = .ok (.iconst 0, 1) := by decide +kernel
theorem s_M_readCond_7 : aw_VS y_M_readCond 7 [o_c (.int (0 : Int32))] 8 := .cons (v_iconst (v := (0 : Int32)) d_M_readCond_7 (by decide +kernel)) .nil
theorem d_M_readCond_8 : decode y_M_readCond.2.1 8 = .ok (.ireturn, 1) := by decide +kernel
theorem b_M_readCond_4 {X : aw_X} {d : Nat} {Q : Option Value → aw_H → Prop} {I : Nat → Nat → Int32} {L : Nat → Nat → Int64} {D : Nat → Nat} {s0 : Int32}
    (h1 : ¬ s0 = 0 → aw_z X (d + 1) y_M_readCond Q 9 [some (.ref 69)] [] (aw_s I L D))
    (h2 : s0 = 0 → Q (some (.int (0 : Int32))) (aw_s I L D)) :
    aw_z X (d + 1) y_M_readCond Q 4 [some (.ref 69)] [.int s0] (aw_s I L D) :=
  (z_if_ne (tgt := 9) d_M_readCond_4 rfl (fun q1 => (h1 q1)) (fun q2 => (s_M_readCond_7.go [some (.ref 69)] [.int (0 : Int32)] (aw_s I L D) rfl (z_iret d_M_readCond_8 rfl (aw_nz (by decide +kernel)) (h2 q2)))))
theorem d_M_readCond_9 : decode y_M_readCond.2.1 9 = .ok (.aload_n 0, 1) := by decide +kernel
theorem d_M_readCond_10 : decode y_M_readCond.2.1 10 = .ok (.bipush 111, 2) := by decide +kernel
theorem d_M_readCond_12 : decode y_M_readCond.2.1 12 = .ok (.bipush 114, 2) := by decide +kernel
theorem d_M_readCond_14 : decode y_M_readCond.2.1 14 = .ok (.iconst 0, 1) := by decide +kernel
theorem d_M_readCond_15 : decode y_M_readCond.2.1 15 = .ok (.iconst 0, 1) := by decide +kernel
theorem d_M_readCond_16 : decode y_M_readCond.2.1 16 = .ok (.iconst 0, 1) := by decide +kernel
theorem s_M_readCond_9 : aw_VS y_M_readCond 9 [o_ald 0, o_c (.int (111 : Int32)), o_c (.int (114 : Int32)), o_c (.int (0 : Int32)), o_c (.int (0 : Int32)), o_c (.int (0 : Int32))] 17 := .cons (v_aload_n (i := 0) d_M_readCond_9 rfl) (.cons (v_bipush (v := (111 : Int32)) d_M_readCond_10 (by decide +kernel)) (.cons (v_bipush (v := (114 : Int32)) d_M_readCond_12 (by decide +kernel)) (.cons (v_iconst (v := (0 : Int32)) d_M_readCond_14 (by decide +kernel)) (.cons (v_iconst (v := (0 : Int32)) d_M_readCond_15 (by decide +kernel)) (.cons (v_iconst (v := (0 : Int32)) d_M_readCond_16 (by decide +kernel)) .nil)))))
theorem d_M_readCond_17 : decode y_M_readCond.2.1 17 = .ok (.invokestatic 244, 3) := by decide +kernel
theorem b_M_readCond_9 {X : aw_X} {d : Nat} {Q : Option Value → aw_H → Prop} {I : Nat → Nat → Int32} {L : Nat → Nat → Int64} {D : Nat → Nat} 
    (h1 : aw_m X d y_M_spelt [.int (111 : Int32), .int (114 : Int32), .int (0 : Int32), .int (0 : Int32), .int (0 : Int32)] (aw_s I L D) (fun r A => aw_z X (d + 1) y_M_readCond Q 20 [some (.ref 69)] (r.toList ++ [.ref 69]) A)) :
    aw_z X (d + 1) y_M_readCond Q 9 [some (.ref 69)] [] (aw_s I L D) :=
  (s_M_readCond_9.go [some (.ref 69)] [.int (0 : Int32), .int (0 : Int32), .int (0 : Int32), .int (114 : Int32), .int (111 : Int32), .ref 69] (aw_s I L D) rfl (z_callS (av := [.int (111 : Int32), .int (114 : Int32), .int (0 : Int32), .int (0 : Int32), .int (0 : Int32)]) (st := [.ref 69]) ok_M_spelt (Or.inl w_1795) w_1796 d_M_readCond_17 rfl rfl (Nat.le_of_ble_eq_true rfl) (Nat.le_refl _) (Nat.le_refl _) (h1)))
theorem d_M_readCond_20 : decode y_M_readCond.2.1 20 = .ok (.invokevirtual 248, 3) := by decide +kernel
theorem b_M_readCond_20 {X : aw_X} {d : Nat} {Q : Option Value → aw_H → Prop} {I : Nat → Nat → Int32} {L : Nat → Nat → Int64} {D : Nat → Nat} {s1 : Int64}
    (h1 : aw_m X d y_M_isKey [.ref 69, .long s1] (aw_s I L D) (fun r A => aw_z X (d + 1) y_M_readCond Q 23 [some (.ref 69)] (r.toList ++ []) A)) :
    aw_z X (d + 1) y_M_readCond Q 20 [some (.ref 69)] [.long s1, .ref 69] (aw_s I L D) :=
  (z_callV (av := [.long s1]) (st := []) ok_M_isKey (Or.inl w_1798) w_1800 w_81 k_M d_M_readCond_20 rfl (aw_lt (o := 69) rfl) rfl rfl (Nat.le_of_ble_eq_true rfl) (Nat.le_refl _) (Nat.le_refl _) (h1))
theorem d_M_readCond_23 : decode y_M_readCond.2.1 23 = .ok (.ifCond .eq (27), 3) := by decide +kernel
theorem d_M_readCond_50 : decode y_M_readCond.2.1 50 = .ok (.iconst 1, 1) := by decide +kernel
theorem s_M_readCond_50 : aw_VS y_M_readCond 50 [o_c (.int (1 : Int32))] 51 := .cons (v_iconst (v := (1 : Int32)) d_M_readCond_50 (by decide +kernel)) .nil
theorem d_M_readCond_51 : decode y_M_readCond.2.1 51 = .ok (.ireturn, 1) := by decide +kernel
theorem d_M_readCond_26 : decode y_M_readCond.2.1 26 = .ok (.aload_n 0, 1) := by decide +kernel
theorem s_M_readCond_26 : aw_VS y_M_readCond 26 [o_ald 0] 27 := .cons (v_aload_n (i := 0) d_M_readCond_26 rfl) .nil
theorem d_M_readCond_27 : decode y_M_readCond.2.1 27 = .ok (.invokevirtual 222, 3) := by decide +kernel
theorem b_M_readCond_23 {X : aw_X} {d : Nat} {Q : Option Value → aw_H → Prop} {I : Nat → Nat → Int32} {L : Nat → Nat → Int64} {D : Nat → Nat} {s0 : Int32}
    (h1 : s0 = 0 → Q (some (.int (1 : Int32))) (aw_s I L D))
    (h2 : ¬ s0 = 0 → aw_m X d y_M_go [.ref 69] (aw_s I L D) (fun r A => aw_z X (d + 1) y_M_readCond Q 30 [some (.ref 69)] (r.toList ++ []) A)) :
    aw_z X (d + 1) y_M_readCond Q 23 [some (.ref 69)] [.int s0] (aw_s I L D) :=
  (z_if_eq (tgt := 50) d_M_readCond_23 rfl (fun q1 => (s_M_readCond_50.go [some (.ref 69)] [.int (1 : Int32)] (aw_s I L D) rfl (z_iret d_M_readCond_51 rfl (aw_nz (by decide +kernel)) (h1 q1)))) (fun q2 => (s_M_readCond_26.go [some (.ref 69)] [.ref 69] (aw_s I L D) rfl (z_callV (av := []) (st := []) ok_M_go (Or.inl w_1760) w_1762 w_75 k_M d_M_readCond_27 rfl (aw_lt (o := 69) rfl) rfl rfl (Nat.le_of_ble_eq_true rfl) (Nat.le_refl _) (Nat.le_refl _) (h2 q2)))))
theorem d_M_readCond_30 : decode y_M_readCond.2.1 30 = .ok (.aload_n 0, 1) := by decide +kernel
theorem s_M_readCond_30 : aw_VS y_M_readCond 30 [o_ald 0] 31 := .cons (v_aload_n (i := 0) d_M_readCond_30 rfl) .nil
theorem d_M_readCond_31 : decode y_M_readCond.2.1 31 = .ok (.invokevirtual 282, 3) := by decide +kernel
theorem b_M_readCond_30 {X : aw_X} {d : Nat} {Q : Option Value → aw_H → Prop} {I : Nat → Nat → Int32} {L : Nat → Nat → Int64} {D : Nat → Nat} 
    (h1 : aw_m X d y_M_readAll [.ref 69] (aw_s I L D) (fun r A => aw_z X (d + 1) y_M_readCond Q 34 [some (.ref 69)] (r.toList ++ []) A)) :
    aw_z X (d + 1) y_M_readCond Q 30 [some (.ref 69)] [] (aw_s I L D) :=
  (s_M_readCond_30.go [some (.ref 69)] [.ref 69] (aw_s I L D) rfl (z_callV (av := []) (st := []) ok_M_readAll (Or.inl w_1849) w_1851 w_93 k_M d_M_readCond_31 rfl (aw_lt (o := 69) rfl) rfl rfl (Nat.le_of_ble_eq_true rfl) (Nat.le_refl _) (Nat.le_refl _) (h1)))
theorem d_M_readCond_34 : decode y_M_readCond.2.1 34 = .ok (.ifCond .ne (5), 3) := by decide +kernel
theorem d_M_readCond_39 : decode y_M_readCond.2.1 39 = .ok (.aload_n 0, 1) := by decide +kernel
theorem d_M_readCond_40 : decode y_M_readCond.2.1 40 = .ok (.bipush 14, 2) := by decide +kernel
theorem d_M_readCond_42 : decode y_M_readCond.2.1 42 = .ok (.iconst 0, 1) := by decide +kernel
theorem s_M_readCond_39 : aw_VS y_M_readCond 39 [o_ald 0, o_c (.int (14 : Int32)), o_c (.int (0 : Int32))] 43 := .cons (v_aload_n (i := 0) d_M_readCond_39 rfl) (.cons (v_bipush (v := (14 : Int32)) d_M_readCond_40 (by decide +kernel)) (.cons (v_iconst (v := (0 : Int32)) d_M_readCond_42 (by decide +kernel)) .nil))
theorem d_M_readCond_43 : decode y_M_readCond.2.1 43 = .ok (.invokevirtual 238, 3) := by decide +kernel
theorem d_M_readCond_37 : decode y_M_readCond.2.1 37 = .ok (.iconst 0, 1) := by decide +kernel
theorem s_M_readCond_37 : aw_VS y_M_readCond 37 [o_c (.int (0 : Int32))] 38 := .cons (v_iconst (v := (0 : Int32)) d_M_readCond_37 (by decide +kernel)) .nil
theorem d_M_readCond_38 : decode y_M_readCond.2.1 38 = .ok (.ireturn, 1) := by decide +kernel
theorem b_M_readCond_34 {X : aw_X} {d : Nat} {Q : Option Value → aw_H → Prop} {I : Nat → Nat → Int32} {L : Nat → Nat → Int64} {D : Nat → Nat} {s0 : Int32}
    (h1 : ¬ s0 = 0 → aw_m X d y_M_emit [.ref 69, .int (14 : Int32), .int (0 : Int32)] (aw_s I L D) (fun r A => aw_z X (d + 1) y_M_readCond Q 46 [some (.ref 69)] (r.toList ++ []) A))
    (h2 : s0 = 0 → Q (some (.int (0 : Int32))) (aw_s I L D)) :
    aw_z X (d + 1) y_M_readCond Q 34 [some (.ref 69)] [.int s0] (aw_s I L D) :=
  (z_if_ne (tgt := 39) d_M_readCond_34 rfl (fun q1 => (s_M_readCond_39.go [some (.ref 69)] [.int (0 : Int32), .int (14 : Int32), .ref 69] (aw_s I L D) rfl (z_callV (av := [.int (14 : Int32), .int (0 : Int32)]) (st := []) ok_M_emit (Or.inl w_1787) w_1789 w_79 k_M d_M_readCond_43 rfl (aw_lt (o := 69) rfl) rfl rfl (Nat.le_of_ble_eq_true rfl) (Nat.le_refl _) (Nat.le_refl _) (h1 q1)))) (fun q2 => (s_M_readCond_37.go [some (.ref 69)] [.int (0 : Int32)] (aw_s I L D) rfl (z_iret d_M_readCond_38 rfl (aw_nz (by decide +kernel)) (h2 q2)))))
theorem d_M_readCond_46 : decode y_M_readCond.2.1 46 = .ok (.pop, 1) := by decide +kernel
theorem s_M_readCond_46 : aw_VS y_M_readCond 46 [o_pop] 47 := .cons (v_pop d_M_readCond_46) .nil
theorem d_M_readCond_47 : decode y_M_readCond.2.1 47 = .ok (.goto (-38), 3) := by decide +kernel
theorem b_M_readCond_46 {X : aw_X} {d : Nat} {Q : Option Value → aw_H → Prop} {I : Nat → Nat → Int32} {L : Nat → Nat → Int64} {D : Nat → Nat} {s0 : Int32}
    (h1 : aw_z X (d + 1) y_M_readCond Q 9 [some (.ref 69)] [] (aw_s I L D)) :
    aw_z X (d + 1) y_M_readCond Q 46 [some (.ref 69)] [.int s0] (aw_s I L D) :=
  (s_M_readCond_46.go [some (.ref 69)] [] (aw_s I L D) rfl (z_goto (tgt := 9) d_M_readCond_47 rfl (h1)))
/-! M_readAll -/
theorem d_M_readAll_0 : decode y_M_readAll.2.1 0 = .ok (.aload_n 0, 1) := by decide +kernel
theorem s_M_readAll_0 : aw_VS y_M_readAll 0 [o_ald 0] 1 := .cons (v_aload_n (i := 0) d_M_readAll_0 rfl) .nil
theorem d_M_readAll_1 : decode y_M_readAll.2.1 1 = .ok (.invokevirtual 279, 3) := by decide +kernel
theorem b_M_readAll_0 {X : aw_X} {d : Nat} {Q : Option Value → aw_H → Prop} {I : Nat → Nat → Int32} {L : Nat → Nat → Int64} {D : Nat → Nat} 
    (h1 : aw_m X d y_M_readTest [.ref 69] (aw_s I L D) (fun r A => aw_z X (d + 1) y_M_readAll Q 4 [some (.ref 69)] (r.toList ++ []) A)) :
    aw_z X (d + 1) y_M_readAll Q 0 [some (.ref 69)] [] (aw_s I L D) :=
  (s_M_readAll_0.go [some (.ref 69)] [.ref 69] (aw_s I L D) rfl (z_callV (av := []) (st := []) ok_M_readTest (Or.inl w_1853) w_1855 w_94 k_M d_M_readAll_1 rfl (aw_lt (o := 69) rfl) rfl rfl (Nat.le_of_ble_eq_true rfl) (Nat.le_refl _) (Nat.le_refl _) (h1)))
theorem d_M_readAll_4 : decode y_M_readAll.2.1 4 = .ok (.ifCond .ne (5), 3) := by decide +kernel
theorem d_M_readAll_7 : decode y_M_readAll.2.1 7 = .ok (.iconst 0, 1) := by decide +kernel
theorem s_M_readAll_7 : aw_VS y_M_readAll 7 [o_c (.int (0 : Int32))] 8 := .cons (v_iconst (v := (0 : Int32)) d_M_readAll_7 (by decide +kernel)) .nil
theorem d_M_readAll_8 : decode y_M_readAll.2.1 8 = .ok (.ireturn, 1) := by decide +kernel
theorem b_M_readAll_4 {X : aw_X} {d : Nat} {Q : Option Value → aw_H → Prop} {I : Nat → Nat → Int32} {L : Nat → Nat → Int64} {D : Nat → Nat} {s0 : Int32}
    (h1 : ¬ s0 = 0 → aw_z X (d + 1) y_M_readAll Q 9 [some (.ref 69)] [] (aw_s I L D))
    (h2 : s0 = 0 → Q (some (.int (0 : Int32))) (aw_s I L D)) :
    aw_z X (d + 1) y_M_readAll Q 4 [some (.ref 69)] [.int s0] (aw_s I L D) :=
  (z_if_ne (tgt := 9) d_M_readAll_4 rfl (fun q1 => (h1 q1)) (fun q2 => (s_M_readAll_7.go [some (.ref 69)] [.int (0 : Int32)] (aw_s I L D) rfl (z_iret d_M_readAll_8 rfl (aw_nz (by decide +kernel)) (h2 q2)))))
theorem d_M_readAll_9 : decode y_M_readAll.2.1 9 = .ok (.aload_n 0, 1) := by decide +kernel
theorem d_M_readAll_10 : decode y_M_readAll.2.1 10 = .ok (.bipush 97, 2) := by decide +kernel
theorem d_M_readAll_12 : decode y_M_readAll.2.1 12 = .ok (.bipush 110, 2) := by decide +kernel
theorem d_M_readAll_14 : decode y_M_readAll.2.1 14 = .ok (.bipush 100, 2) := by decide +kernel
theorem d_M_readAll_16 : decode y_M_readAll.2.1 16 = .ok (.iconst 0, 1) := by decide +kernel
theorem d_M_readAll_17 : decode y_M_readAll.2.1 17 = .ok (.iconst 0, 1) := by decide +kernel
theorem s_M_readAll_9 : aw_VS y_M_readAll 9 [o_ald 0, o_c (.int (97 : Int32)), o_c (.int (110 : Int32)), o_c (.int (100 : Int32)), o_c (.int (0 : Int32)), o_c (.int (0 : Int32))] 18 := .cons (v_aload_n (i := 0) d_M_readAll_9 rfl) (.cons (v_bipush (v := (97 : Int32)) d_M_readAll_10 (by decide +kernel)) (.cons (v_bipush (v := (110 : Int32)) d_M_readAll_12 (by decide +kernel)) (.cons (v_bipush (v := (100 : Int32)) d_M_readAll_14 (by decide +kernel)) (.cons (v_iconst (v := (0 : Int32)) d_M_readAll_16 (by decide +kernel)) (.cons (v_iconst (v := (0 : Int32)) d_M_readAll_17 (by decide +kernel)) .nil)))))
theorem d_M_readAll_18 : decode y_M_readAll.2.1 18 = .ok (.invokestatic 244, 3) := by decide +kernel
theorem b_M_readAll_9 {X : aw_X} {d : Nat} {Q : Option Value → aw_H → Prop} {I : Nat → Nat → Int32} {L : Nat → Nat → Int64} {D : Nat → Nat} 
    (h1 : aw_m X d y_M_spelt [.int (97 : Int32), .int (110 : Int32), .int (100 : Int32), .int (0 : Int32), .int (0 : Int32)] (aw_s I L D) (fun r A => aw_z X (d + 1) y_M_readAll Q 21 [some (.ref 69)] (r.toList ++ [.ref 69]) A)) :
    aw_z X (d + 1) y_M_readAll Q 9 [some (.ref 69)] [] (aw_s I L D) :=
  (s_M_readAll_9.go [some (.ref 69)] [.int (0 : Int32), .int (0 : Int32), .int (100 : Int32), .int (110 : Int32), .int (97 : Int32), .ref 69] (aw_s I L D) rfl (z_callS (av := [.int (97 : Int32), .int (110 : Int32), .int (100 : Int32), .int (0 : Int32), .int (0 : Int32)]) (st := [.ref 69]) ok_M_spelt (Or.inl w_1795) w_1796 d_M_readAll_18 rfl rfl (Nat.le_of_ble_eq_true rfl) (Nat.le_refl _) (Nat.le_refl _) (h1)))
theorem d_M_readAll_21 : decode y_M_readAll.2.1 21 = .ok (.invokevirtual 248, 3) := by decide +kernel
theorem b_M_readAll_21 {X : aw_X} {d : Nat} {Q : Option Value → aw_H → Prop} {I : Nat → Nat → Int32} {L : Nat → Nat → Int64} {D : Nat → Nat} {s1 : Int64}
    (h1 : aw_m X d y_M_isKey [.ref 69, .long s1] (aw_s I L D) (fun r A => aw_z X (d + 1) y_M_readAll Q 24 [some (.ref 69)] (r.toList ++ []) A)) :
    aw_z X (d + 1) y_M_readAll Q 21 [some (.ref 69)] [.long s1, .ref 69] (aw_s I L D) :=
  (z_callV (av := [.long s1]) (st := []) ok_M_isKey (Or.inl w_1798) w_1800 w_81 k_M d_M_readAll_21 rfl (aw_lt (o := 69) rfl) rfl rfl (Nat.le_of_ble_eq_true rfl) (Nat.le_refl _) (Nat.le_refl _) (h1))
theorem d_M_readAll_24 : decode y_M_readAll.2.1 24 = .ok (.ifCond .eq (27), 3) := by decide +kernel
theorem d_M_readAll_51 : decode y_M_readAll.2.1 51 = .ok (.iconst 1, 1) := by decide +kernel
theorem s_M_readAll_51 : aw_VS y_M_readAll 51 [o_c (.int (1 : Int32))] 52 := .cons (v_iconst (v := (1 : Int32)) d_M_readAll_51 (by decide +kernel)) .nil
theorem d_M_readAll_52 : decode y_M_readAll.2.1 52 = .ok (.ireturn, 1) := by decide +kernel
theorem d_M_readAll_27 : decode y_M_readAll.2.1 27 = .ok (.aload_n 0, 1) := by decide +kernel
theorem s_M_readAll_27 : aw_VS y_M_readAll 27 [o_ald 0] 28 := .cons (v_aload_n (i := 0) d_M_readAll_27 rfl) .nil
theorem d_M_readAll_28 : decode y_M_readAll.2.1 28 = .ok (.invokevirtual 222, 3) := by decide +kernel
theorem b_M_readAll_24 {X : aw_X} {d : Nat} {Q : Option Value → aw_H → Prop} {I : Nat → Nat → Int32} {L : Nat → Nat → Int64} {D : Nat → Nat} {s0 : Int32}
    (h1 : s0 = 0 → Q (some (.int (1 : Int32))) (aw_s I L D))
    (h2 : ¬ s0 = 0 → aw_m X d y_M_go [.ref 69] (aw_s I L D) (fun r A => aw_z X (d + 1) y_M_readAll Q 31 [some (.ref 69)] (r.toList ++ []) A)) :
    aw_z X (d + 1) y_M_readAll Q 24 [some (.ref 69)] [.int s0] (aw_s I L D) :=
  (z_if_eq (tgt := 51) d_M_readAll_24 rfl (fun q1 => (s_M_readAll_51.go [some (.ref 69)] [.int (1 : Int32)] (aw_s I L D) rfl (z_iret d_M_readAll_52 rfl (aw_nz (by decide +kernel)) (h1 q1)))) (fun q2 => (s_M_readAll_27.go [some (.ref 69)] [.ref 69] (aw_s I L D) rfl (z_callV (av := []) (st := []) ok_M_go (Or.inl w_1760) w_1762 w_75 k_M d_M_readAll_28 rfl (aw_lt (o := 69) rfl) rfl rfl (Nat.le_of_ble_eq_true rfl) (Nat.le_refl _) (Nat.le_refl _) (h2 q2)))))
theorem d_M_readAll_31 : decode y_M_readAll.2.1 31 = .ok (.aload_n 0, 1) := by decide +kernel
theorem s_M_readAll_31 : aw_VS y_M_readAll 31 [o_ald 0] 32 := .cons (v_aload_n (i := 0) d_M_readAll_31 rfl) .nil
theorem d_M_readAll_32 : decode y_M_readAll.2.1 32 = .ok (.invokevirtual 279, 3) := by decide +kernel
theorem b_M_readAll_31 {X : aw_X} {d : Nat} {Q : Option Value → aw_H → Prop} {I : Nat → Nat → Int32} {L : Nat → Nat → Int64} {D : Nat → Nat} 
    (h1 : aw_m X d y_M_readTest [.ref 69] (aw_s I L D) (fun r A => aw_z X (d + 1) y_M_readAll Q 35 [some (.ref 69)] (r.toList ++ []) A)) :
    aw_z X (d + 1) y_M_readAll Q 31 [some (.ref 69)] [] (aw_s I L D) :=
  (s_M_readAll_31.go [some (.ref 69)] [.ref 69] (aw_s I L D) rfl (z_callV (av := []) (st := []) ok_M_readTest (Or.inl w_1853) w_1855 w_94 k_M d_M_readAll_32 rfl (aw_lt (o := 69) rfl) rfl rfl (Nat.le_of_ble_eq_true rfl) (Nat.le_refl _) (Nat.le_refl _) (h1)))
theorem d_M_readAll_35 : decode y_M_readAll.2.1 35 = .ok (.ifCond .ne (5), 3) := by decide +kernel
theorem d_M_readAll_40 : decode y_M_readAll.2.1 40 = .ok (.aload_n 0, 1) := by decide +kernel
theorem d_M_readAll_41 : decode y_M_readAll.2.1 41 = .ok (.bipush 13, 2) := by decide +kernel
theorem d_M_readAll_43 : decode y_M_readAll.2.1 43 = .ok (.iconst 0, 1) := by decide +kernel
theorem s_M_readAll_40 : aw_VS y_M_readAll 40 [o_ald 0, o_c (.int (13 : Int32)), o_c (.int (0 : Int32))] 44 := .cons (v_aload_n (i := 0) d_M_readAll_40 rfl) (.cons (v_bipush (v := (13 : Int32)) d_M_readAll_41 (by decide +kernel)) (.cons (v_iconst (v := (0 : Int32)) d_M_readAll_43 (by decide +kernel)) .nil))
theorem d_M_readAll_44 : decode y_M_readAll.2.1 44 = .ok (.invokevirtual 238, 3) := by decide +kernel
theorem d_M_readAll_38 : decode y_M_readAll.2.1 38 = .ok (.iconst 0, 1) := by decide +kernel
theorem s_M_readAll_38 : aw_VS y_M_readAll 38 [o_c (.int (0 : Int32))] 39 := .cons (v_iconst (v := (0 : Int32)) d_M_readAll_38 (by decide +kernel)) .nil
theorem d_M_readAll_39 : decode y_M_readAll.2.1 39 = .ok (.ireturn, 1) := by decide +kernel
theorem b_M_readAll_35 {X : aw_X} {d : Nat} {Q : Option Value → aw_H → Prop} {I : Nat → Nat → Int32} {L : Nat → Nat → Int64} {D : Nat → Nat} {s0 : Int32}
    (h1 : ¬ s0 = 0 → aw_m X d y_M_emit [.ref 69, .int (13 : Int32), .int (0 : Int32)] (aw_s I L D) (fun r A => aw_z X (d + 1) y_M_readAll Q 47 [some (.ref 69)] (r.toList ++ []) A))
    (h2 : s0 = 0 → Q (some (.int (0 : Int32))) (aw_s I L D)) :
    aw_z X (d + 1) y_M_readAll Q 35 [some (.ref 69)] [.int s0] (aw_s I L D) :=
  (z_if_ne (tgt := 40) d_M_readAll_35 rfl (fun q1 => (s_M_readAll_40.go [some (.ref 69)] [.int (0 : Int32), .int (13 : Int32), .ref 69] (aw_s I L D) rfl (z_callV (av := [.int (13 : Int32), .int (0 : Int32)]) (st := []) ok_M_emit (Or.inl w_1787) w_1789 w_79 k_M d_M_readAll_44 rfl (aw_lt (o := 69) rfl) rfl rfl (Nat.le_of_ble_eq_true rfl) (Nat.le_refl _) (Nat.le_refl _) (h1 q1)))) (fun q2 => (s_M_readAll_38.go [some (.ref 69)] [.int (0 : Int32)] (aw_s I L D) rfl (z_iret d_M_readAll_39 rfl (aw_nz (by decide +kernel)) (h2 q2)))))
theorem d_M_readAll_47 : decode y_M_readAll.2.1 47 = .ok (.pop, 1) := by decide +kernel
theorem s_M_readAll_47 : aw_VS y_M_readAll 47 [o_pop] 48 := .cons (v_pop d_M_readAll_47) .nil
theorem d_M_readAll_48 : decode y_M_readAll.2.1 48 = .ok (.goto (-39), 3) := by decide +kernel
theorem b_M_readAll_47 {X : aw_X} {d : Nat} {Q : Option Value → aw_H → Prop} {I : Nat → Nat → Int32} {L : Nat → Nat → Int64} {D : Nat → Nat} {s0 : Int32}
    (h1 : aw_z X (d + 1) y_M_readAll Q 9 [some (.ref 69)] [] (aw_s I L D)) :
    aw_z X (d + 1) y_M_readAll Q 47 [some (.ref 69)] [.int s0] (aw_s I L D) :=
  (s_M_readAll_47.go [some (.ref 69)] [] (aw_s I L D) rfl (z_goto (tgt := 9) d_M_readAll_48 rfl (h1)))
/-! M_readTest -/
theorem d_M_readTest_0 : decode y_M_readTest.2.1 0 = .ok (.aload_n 0, 1) := by decide +kernel
theorem s_M_readTest_0 : aw_VS y_M_readTest 0 [o_ald 0] 1 := .cons (v_aload_n (i := 0) d_M_readTest_0 rfl) .nil
theorem d_M_readTest_1 : decode y_M_readTest.2.1 1 = .ok (.invokevirtual 276, 3) := by decide +kernel
theorem b_M_readTest_0 {X : aw_X} {d : Nat} {Q : Option Value → aw_H → Prop} {I : Nat → Nat → Int32} {L : Nat → Nat → Int64} {D : Nat → Nat} 
    (h1 : aw_m X d y_M_readSum [.ref 69] (aw_s I L D) (fun r A => aw_z X (d + 1) y_M_readTest Q 4 [some (.ref 69), none] (r.toList ++ []) A)) :
    aw_z X (d + 1) y_M_readTest Q 0 [some (.ref 69), none] [] (aw_s I L D) :=
  (s_M_readTest_0.go [some (.ref 69), none] [.ref 69] (aw_s I L D) rfl (z_callV (av := []) (st := []) ok_M_readSum (Or.inl w_1857) w_1859 w_95 k_M d_M_readTest_1 rfl (aw_lt (o := 69) rfl) rfl rfl (Nat.le_of_ble_eq_true rfl) (Nat.le_refl _) (Nat.le_refl _) (h1)))
theorem d_M_readTest_4 : decode y_M_readTest.2.1 4 = .ok (.ifCond .ne (5), 3) := by decide +kernel
theorem d_M_readTest_9 : decode y_M_readTest.2.1 9 = .ok (.aload_n 0, 1) := by decide +kernel
theorem d_M_readTest_10 : decode y_M_readTest.2.1 10 = .ok (.bipush 60, 2) := by decide +kernel
theorem s_M_readTest_9 : aw_VS y_M_readTest 9 [o_ald 0, o_c (.int (60 : Int32))] 12 := .cons (v_aload_n (i := 0) d_M_readTest_9 rfl) (.cons (v_bipush (v := (60 : Int32)) d_M_readTest_10 (by decide +kernel)) .nil)
theorem d_M_readTest_12 : decode y_M_readTest.2.1 12 = .ok (.invokevirtual 216, 3) := by decide +kernel
theorem d_M_readTest_7 : decode y_M_readTest.2.1 7 = .ok (.iconst 0, 1) := by decide +kernel
theorem s_M_readTest_7 : aw_VS y_M_readTest 7 [o_c (.int (0 : Int32))] 8 := .cons (v_iconst (v := (0 : Int32)) d_M_readTest_7 (by decide +kernel)) .nil
theorem d_M_readTest_8 : decode y_M_readTest.2.1 8 = .ok (.ireturn, 1) := by decide +kernel
theorem b_M_readTest_4 {X : aw_X} {d : Nat} {Q : Option Value → aw_H → Prop} {I : Nat → Nat → Int32} {L : Nat → Nat → Int64} {D : Nat → Nat} {s0 : Int32}
    (h1 : ¬ s0 = 0 → aw_m X d y_M_isSign [.ref 69, .int (60 : Int32)] (aw_s I L D) (fun r A => aw_z X (d + 1) y_M_readTest Q 15 [some (.ref 69), none] (r.toList ++ []) A))
    (h2 : s0 = 0 → Q (some (.int (0 : Int32))) (aw_s I L D)) :
    aw_z X (d + 1) y_M_readTest Q 4 [some (.ref 69), none] [.int s0] (aw_s I L D) :=
  (z_if_ne (tgt := 9) d_M_readTest_4 rfl (fun q1 => (s_M_readTest_9.go [some (.ref 69), none] [.int (60 : Int32), .ref 69] (aw_s I L D) rfl (z_callV (av := [.int (60 : Int32)]) (st := []) ok_M_isSign (Or.inl w_1779) w_1781 w_77 k_M d_M_readTest_12 rfl (aw_lt (o := 69) rfl) rfl rfl (Nat.le_of_ble_eq_true rfl) (Nat.le_refl _) (Nat.le_refl _) (h1 q1)))) (fun q2 => (s_M_readTest_7.go [some (.ref 69), none] [.int (0 : Int32)] (aw_s I L D) rfl (z_iret d_M_readTest_8 rfl (aw_nz (by decide +kernel)) (h2 q2)))))
theorem d_M_readTest_15 : decode y_M_readTest.2.1 15 = .ok (.ifCond .ne (36), 3) := by decide +kernel
theorem d_M_readTest_18 : decode y_M_readTest.2.1 18 = .ok (.aload_n 0, 1) := by decide +kernel
theorem d_M_readTest_19 : decode y_M_readTest.2.1 19 = .ok (.bipush 61, 2) := by decide +kernel
theorem s_M_readTest_18 : aw_VS y_M_readTest 18 [o_ald 0, o_c (.int (61 : Int32))] 21 := .cons (v_aload_n (i := 0) d_M_readTest_18 rfl) (.cons (v_bipush (v := (61 : Int32)) d_M_readTest_19 (by decide +kernel)) .nil)
theorem d_M_readTest_21 : decode y_M_readTest.2.1 21 = .ok (.invokevirtual 216, 3) := by decide +kernel
theorem b_M_readTest_15 {X : aw_X} {d : Nat} {Q : Option Value → aw_H → Prop} {I : Nat → Nat → Int32} {L : Nat → Nat → Int64} {D : Nat → Nat} {s0 : Int32}
    (h1 : ¬ s0 = 0 → aw_z X (d + 1) y_M_readTest Q 51 [some (.ref 69), none] [] (aw_s I L D))
    (h2 : s0 = 0 → aw_m X d y_M_isSign [.ref 69, .int (61 : Int32)] (aw_s I L D) (fun r A => aw_z X (d + 1) y_M_readTest Q 24 [some (.ref 69), none] (r.toList ++ []) A)) :
    aw_z X (d + 1) y_M_readTest Q 15 [some (.ref 69), none] [.int s0] (aw_s I L D) :=
  (z_if_ne (tgt := 51) d_M_readTest_15 rfl (fun q1 => (h1 q1)) (fun q2 => (s_M_readTest_18.go [some (.ref 69), none] [.int (61 : Int32), .ref 69] (aw_s I L D) rfl (z_callV (av := [.int (61 : Int32)]) (st := []) ok_M_isSign (Or.inl w_1779) w_1781 w_77 k_M d_M_readTest_21 rfl (aw_lt (o := 69) rfl) rfl rfl (Nat.le_of_ble_eq_true rfl) (Nat.le_refl _) (Nat.le_refl _) (h2 q2)))))
theorem d_M_readTest_51 : decode y_M_readTest.2.1 51 = .ok (.aload_n 0, 1) := by decide +kernel
theorem d_M_readTest_52 : decode y_M_readTest.2.1 52 = .ok (.getfield 192, 3) := by decide +kernel
theorem d_M_readTest_55 : decode y_M_readTest.2.1 55 = .ok (.bipush 60, 2) := by decide +kernel
theorem s_M_readTest_51 : aw_VS y_M_readTest 51 [o_ald 0, o_getI 9 8, o_c (.int (60 : Int32))] 57 := .cons (v_aload_n (i := 0) d_M_readTest_51 rfl) (.cons (v_getI (k := 8) k_M (by decide) (Or.inl rfl) (Or.inl w_1469) d_M_readTest_52) (.cons (v_bipush (v := (60 : Int32)) d_M_readTest_55 (by decide +kernel)) .nil))
theorem d_M_readTest_57 : decode y_M_readTest.2.1 57 = .ok (.if_icmp .ne (8), 3) := by decide +kernel
theorem d_M_readTest_65 : decode y_M_readTest.2.1 65 = .ok (.aload_n 0, 1) := by decide +kernel
theorem d_M_readTest_66 : decode y_M_readTest.2.1 66 = .ok (.getfield 192, 3) := by decide +kernel
theorem d_M_readTest_69 : decode y_M_readTest.2.1 69 = .ok (.bipush 61, 2) := by decide +kernel
theorem s_M_readTest_65 : aw_VS y_M_readTest 65 [o_ald 0, o_getI 9 8, o_c (.int (61 : Int32))] 71 := .cons (v_aload_n (i := 0) d_M_readTest_65 rfl) (.cons (v_getI (k := 8) k_M (by decide) (Or.inl rfl) (Or.inl w_1469) d_M_readTest_66) (.cons (v_bipush (v := (61 : Int32)) d_M_readTest_69 (by decide +kernel)) .nil))
theorem d_M_readTest_71 : decode y_M_readTest.2.1 71 = .ok (.if_icmp .ne (8), 3) := by decide +kernel
theorem d_M_readTest_79 : decode y_M_readTest.2.1 79 = .ok (.aload_n 0, 1) := by decide +kernel
theorem d_M_readTest_80 : decode y_M_readTest.2.1 80 = .ok (.getfield 192, 3) := by decide +kernel
theorem d_M_readTest_83 : decode y_M_readTest.2.1 83 = .ok (.bipush 62, 2) := by decide +kernel
theorem s_M_readTest_79 : aw_VS y_M_readTest 79 [o_ald 0, o_getI 9 8, o_c (.int (62 : Int32))] 85 := .cons (v_aload_n (i := 0) d_M_readTest_79 rfl) (.cons (v_getI (k := 8) k_M (by decide) (Or.inl rfl) (Or.inl w_1469) d_M_readTest_80) (.cons (v_bipush (v := (62 : Int32)) d_M_readTest_83 (by decide +kernel)) .nil))
theorem d_M_readTest_85 : decode y_M_readTest.2.1 85 = .ok (.if_icmp .ne (8), 3) := by decide +kernel
theorem d_M_readTest_93 : decode y_M_readTest.2.1 93 = .ok (.bipush 12, 2) := by decide +kernel
theorem s_M_readTest_93 : aw_VS y_M_readTest 93 [o_c (.int (12 : Int32))] 95 := .cons (v_bipush (v := (12 : Int32)) d_M_readTest_93 (by decide +kernel)) .nil
theorem d_M_readTest_88 : decode y_M_readTest.2.1 88 = .ok (.bipush 11, 2) := by decide +kernel
theorem s_M_readTest_88 : aw_VS y_M_readTest 88 [o_c (.int (11 : Int32))] 90 := .cons (v_bipush (v := (11 : Int32)) d_M_readTest_88 (by decide +kernel)) .nil
theorem d_M_readTest_90 : decode y_M_readTest.2.1 90 = .ok (.goto (5), 3) := by decide +kernel
theorem d_M_readTest_74 : decode y_M_readTest.2.1 74 = .ok (.bipush 10, 2) := by decide +kernel
theorem s_M_readTest_74 : aw_VS y_M_readTest 74 [o_c (.int (10 : Int32))] 76 := .cons (v_bipush (v := (10 : Int32)) d_M_readTest_74 (by decide +kernel)) .nil
theorem d_M_readTest_76 : decode y_M_readTest.2.1 76 = .ok (.goto (19), 3) := by decide +kernel
theorem d_M_readTest_60 : decode y_M_readTest.2.1 60 = .ok (.bipush 9, 2) := by decide +kernel
theorem s_M_readTest_60 : aw_VS y_M_readTest 60 [o_c (.int (9 : Int32))] 62 := .cons (v_bipush (v := (9 : Int32)) d_M_readTest_60 (by decide +kernel)) .nil
theorem d_M_readTest_62 : decode y_M_readTest.2.1 62 = .ok (.goto (33), 3) := by decide +kernel
theorem b_M_readTest_51 {X : aw_X} {d : Nat} {Q : Option Value → aw_H → Prop} {I : Nat → Nat → Int32} {L : Nat → Nat → Int64} {D : Nat → Nat} 
    (h1 : ¬ (I 69 8) = (60 : Int32) → ¬ (I 69 8) = (61 : Int32) → ¬ (I 69 8) = (62 : Int32) → aw_z X (d + 1) y_M_readTest Q 95 [some (.ref 69), none] [.int (12 : Int32)] (aw_s I L D))
    (h2 : ¬ (I 69 8) = (60 : Int32) → ¬ (I 69 8) = (61 : Int32) → (I 69 8) = (62 : Int32) → aw_z X (d + 1) y_M_readTest Q 95 [some (.ref 69), none] [.int (11 : Int32)] (aw_s I L D))
    (h3 : ¬ (I 69 8) = (60 : Int32) → (I 69 8) = (61 : Int32) → aw_z X (d + 1) y_M_readTest Q 95 [some (.ref 69), none] [.int (10 : Int32)] (aw_s I L D))
    (h4 : (I 69 8) = (60 : Int32) → aw_z X (d + 1) y_M_readTest Q 95 [some (.ref 69), none] [.int (9 : Int32)] (aw_s I L D)) :
    aw_z X (d + 1) y_M_readTest Q 51 [some (.ref 69), none] [] (aw_s I L D) :=
  (s_M_readTest_51.go [some (.ref 69), none] [.int (60 : Int32), .int (I 69 8)] (aw_s I L D) rfl (z_icmp_ne (tgt := 65) d_M_readTest_57 rfl (fun q1 => (s_M_readTest_65.go [some (.ref 69), none] [.int (61 : Int32), .int (I 69 8)] (aw_s I L D) rfl (z_icmp_ne (tgt := 79) d_M_readTest_71 rfl (fun q3 => (s_M_readTest_79.go [some (.ref 69), none] [.int (62 : Int32), .int (I 69 8)] (aw_s I L D) rfl (z_icmp_ne (tgt := 93) d_M_readTest_85 rfl (fun q5 => (s_M_readTest_93.go [some (.ref 69), none] [.int (12 : Int32)] (aw_s I L D) rfl (h1 q1 q3 q5))) (fun q6 => (s_M_readTest_88.go [some (.ref 69), none] [.int (11 : Int32)] (aw_s I L D) rfl (z_goto (tgt := 95) d_M_readTest_90 rfl (h2 q1 q3 q6))))))) (fun q4 => (s_M_readTest_74.go [some (.ref 69), none] [.int (10 : Int32)] (aw_s I L D) rfl (z_goto (tgt := 95) d_M_readTest_76 rfl (h3 q1 q4))))))) (fun q2 => (s_M_readTest_60.go [some (.ref 69), none] [.int (9 : Int32)] (aw_s I L D) rfl (z_goto (tgt := 95) d_M_readTest_62 rfl (h4 q2))))))
theorem d_M_readTest_24 : decode y_M_readTest.2.1 24 = .ok (.ifCond .ne (27), 3) := by decide +kernel
theorem d_M_readTest_27 : decode y_M_readTest.2.1 27 = .ok (.aload_n 0, 1) := by decide +kernel
theorem d_M_readTest_28 : decode y_M_readTest.2.1 28 = .ok (.bipush 62, 2) := by decide +kernel
theorem s_M_readTest_27 : aw_VS y_M_readTest 27 [o_ald 0, o_c (.int (62 : Int32))] 30 := .cons (v_aload_n (i := 0) d_M_readTest_27 rfl) (.cons (v_bipush (v := (62 : Int32)) d_M_readTest_28 (by decide +kernel)) .nil)
theorem d_M_readTest_30 : decode y_M_readTest.2.1 30 = .ok (.invokevirtual 216, 3) := by decide +kernel
theorem b_M_readTest_24 {X : aw_X} {d : Nat} {Q : Option Value → aw_H → Prop} {I : Nat → Nat → Int32} {L : Nat → Nat → Int64} {D : Nat → Nat} {s0 : Int32}
    (h1 : ¬ s0 = 0 → aw_z X (d + 1) y_M_readTest Q 51 [some (.ref 69), none] [] (aw_s I L D))
    (h2 : s0 = 0 → aw_m X d y_M_isSign [.ref 69, .int (62 : Int32)] (aw_s I L D) (fun r A => aw_z X (d + 1) y_M_readTest Q 33 [some (.ref 69), none] (r.toList ++ []) A)) :
    aw_z X (d + 1) y_M_readTest Q 24 [some (.ref 69), none] [.int s0] (aw_s I L D) :=
  (z_if_ne (tgt := 51) d_M_readTest_24 rfl (fun q1 => (h1 q1)) (fun q2 => (s_M_readTest_27.go [some (.ref 69), none] [.int (62 : Int32), .ref 69] (aw_s I L D) rfl (z_callV (av := [.int (62 : Int32)]) (st := []) ok_M_isSign (Or.inl w_1779) w_1781 w_77 k_M d_M_readTest_30 rfl (aw_lt (o := 69) rfl) rfl rfl (Nat.le_of_ble_eq_true rfl) (Nat.le_refl _) (Nat.le_refl _) (h2 q2)))))
theorem d_M_readTest_95 : decode y_M_readTest.2.1 95 = .ok (.istore_n 1, 1) := by decide +kernel
theorem d_M_readTest_96 : decode y_M_readTest.2.1 96 = .ok (.aload_n 0, 1) := by decide +kernel
theorem s_M_readTest_95 : aw_VS y_M_readTest 95 [o_ist 1, o_ald 0] 97 := .cons (v_istore_n d_M_readTest_95) (.cons (v_aload_n (i := 0) d_M_readTest_96 rfl) .nil)
theorem d_M_readTest_97 : decode y_M_readTest.2.1 97 = .ok (.invokevirtual 222, 3) := by decide +kernel
theorem b_M_readTest_95 {X : aw_X} {d : Nat} {Q : Option Value → aw_H → Prop} {I : Nat → Nat → Int32} {L : Nat → Nat → Int64} {D : Nat → Nat} {s0 : Int32}
    (h1 : aw_m X d y_M_go [.ref 69] (aw_s I L D) (fun r A => aw_z X (d + 1) y_M_readTest Q 100 [some (.ref 69), some (.int s0)] (r.toList ++ []) A)) :
    aw_z X (d + 1) y_M_readTest Q 95 [some (.ref 69), none] [.int s0] (aw_s I L D) :=
  (s_M_readTest_95.go [some (.ref 69), some (.int s0)] [.ref 69] (aw_s I L D) rfl (z_callV (av := []) (st := []) ok_M_go (Or.inl w_1760) w_1762 w_75 k_M d_M_readTest_97 rfl (aw_lt (o := 69) rfl) rfl rfl (Nat.le_of_ble_eq_true rfl) (Nat.le_refl _) (Nat.le_refl _) (h1)))
theorem d_M_readTest_33 : decode y_M_readTest.2.1 33 = .ok (.ifCond .ne (18), 3) := by decide +kernel
theorem d_M_readTest_36 : decode y_M_readTest.2.1 36 = .ok (.aload_n 0, 1) := by decide +kernel
theorem d_M_readTest_37 : decode y_M_readTest.2.1 37 = .ok (.bipush 35, 2) := by decide +kernel
theorem s_M_readTest_36 : aw_VS y_M_readTest 36 [o_ald 0, o_c (.int (35 : Int32))] 39 := .cons (v_aload_n (i := 0) d_M_readTest_36 rfl) (.cons (v_bipush (v := (35 : Int32)) d_M_readTest_37 (by decide +kernel)) .nil)
theorem d_M_readTest_39 : decode y_M_readTest.2.1 39 = .ok (.invokevirtual 216, 3) := by decide +kernel
theorem b_M_readTest_33 {X : aw_X} {d : Nat} {Q : Option Value → aw_H → Prop} {I : Nat → Nat → Int32} {L : Nat → Nat → Int64} {D : Nat → Nat} {s0 : Int32}
    (h1 : ¬ s0 = 0 → aw_z X (d + 1) y_M_readTest Q 51 [some (.ref 69), none] [] (aw_s I L D))
    (h2 : s0 = 0 → aw_m X d y_M_isSign [.ref 69, .int (35 : Int32)] (aw_s I L D) (fun r A => aw_z X (d + 1) y_M_readTest Q 42 [some (.ref 69), none] (r.toList ++ []) A)) :
    aw_z X (d + 1) y_M_readTest Q 33 [some (.ref 69), none] [.int s0] (aw_s I L D) :=
  (z_if_ne (tgt := 51) d_M_readTest_33 rfl (fun q1 => (h1 q1)) (fun q2 => (s_M_readTest_36.go [some (.ref 69), none] [.int (35 : Int32), .ref 69] (aw_s I L D) rfl (z_callV (av := [.int (35 : Int32)]) (st := []) ok_M_isSign (Or.inl w_1779) w_1781 w_77 k_M d_M_readTest_39 rfl (aw_lt (o := 69) rfl) rfl rfl (Nat.le_of_ble_eq_true rfl) (Nat.le_refl _) (Nat.le_refl _) (h2 q2)))))
theorem d_M_readTest_100 : decode y_M_readTest.2.1 100 = .ok (.aload_n 0, 1) := by decide +kernel
theorem s_M_readTest_100 : aw_VS y_M_readTest 100 [o_ald 0] 101 := .cons (v_aload_n (i := 0) d_M_readTest_100 rfl) .nil
theorem d_M_readTest_101 : decode y_M_readTest.2.1 101 = .ok (.invokevirtual 276, 3) := by decide +kernel
theorem b_M_readTest_100 {X : aw_X} {d : Nat} {Q : Option Value → aw_H → Prop} {I : Nat → Nat → Int32} {L : Nat → Nat → Int64} {D : Nat → Nat} {v1 : Int32}
    (h1 : aw_m X d y_M_readSum [.ref 69] (aw_s I L D) (fun r A => aw_z X (d + 1) y_M_readTest Q 104 [some (.ref 69), some (.int v1)] (r.toList ++ []) A)) :
    aw_z X (d + 1) y_M_readTest Q 100 [some (.ref 69), some (.int v1)] [] (aw_s I L D) :=
  (s_M_readTest_100.go [some (.ref 69), some (.int v1)] [.ref 69] (aw_s I L D) rfl (z_callV (av := []) (st := []) ok_M_readSum (Or.inl w_1857) w_1859 w_95 k_M d_M_readTest_101 rfl (aw_lt (o := 69) rfl) rfl rfl (Nat.le_of_ble_eq_true rfl) (Nat.le_refl _) (Nat.le_refl _) (h1)))
theorem d_M_readTest_42 : decode y_M_readTest.2.1 42 = .ok (.ifCond .ne (9), 3) := by decide +kernel
theorem d_M_readTest_45 : decode y_M_readTest.2.1 45 = .ok (.aload_n 0, 1) := by decide +kernel
theorem d_M_readTest_46 : decode y_M_readTest.2.1 46 = .ok (.iconst 1, 1) := by decide +kernel
theorem s_M_readTest_45 : aw_VS y_M_readTest 45 [o_ald 0, o_c (.int (1 : Int32))] 47 := .cons (v_aload_n (i := 0) d_M_readTest_45 rfl) (.cons (v_iconst (v := (1 : Int32)) d_M_readTest_46 (by decide +kernel)) .nil)
theorem d_M_readTest_47 : decode y_M_readTest.2.1 47 = .ok (.invokevirtual 219, 3) := by decide +kernel
theorem b_M_readTest_42 {X : aw_X} {d : Nat} {Q : Option Value → aw_H → Prop} {I : Nat → Nat → Int32} {L : Nat → Nat → Int64} {D : Nat → Nat} {s0 : Int32}
    (h1 : ¬ s0 = 0 → aw_z X (d + 1) y_M_readTest Q 51 [some (.ref 69), none] [] (aw_s I L D))
    (h2 : s0 = 0 → aw_m X d y_M_bad [.ref 69, .int (1 : Int32)] (aw_s I L D) (fun r A => aw_z X (d + 1) y_M_readTest Q 50 [none, none] (r.toList ++ []) A)) :
    aw_z X (d + 1) y_M_readTest Q 42 [some (.ref 69), none] [.int s0] (aw_s I L D) :=
  (z_if_ne (tgt := 51) d_M_readTest_42 rfl (fun q1 => (h1 q1)) (fun q2 => (s_M_readTest_45.go [some (.ref 69), none] [.int (1 : Int32), .ref 69] (aw_s I L D) rfl (z_callV (av := [.int (1 : Int32)]) (st := []) ok_M_bad (Or.inl w_1806) w_1808 w_83 k_M d_M_readTest_47 rfl (aw_lt (o := 69) rfl) rfl rfl (Nat.le_of_ble_eq_true rfl) (Nat.le_refl _) (Nat.le_refl _) (aw_C.mono (h2 q2) (fun _ _ zz => aw_Z.weak (ls' := [none, none]) zz (Nat.le_of_ble_eq_true rfl) ⟨Or.inl rfl, ⟨Or.inl rfl, trivial⟩⟩))))))
theorem d_M_readTest_104 : decode y_M_readTest.2.1 104 = .ok (.ifCond .ne (5), 3) := by decide +kernel
theorem d_M_readTest_109 : decode y_M_readTest.2.1 109 = .ok (.aload_n 0, 1) := by decide +kernel
theorem d_M_readTest_110 : decode y_M_readTest.2.1 110 = .ok (.iload_n 1, 1) := by decide +kernel
theorem d_M_readTest_111 : decode y_M_readTest.2.1 111 = .ok (.iconst 0, 1) := by decide +kernel
theorem s_M_readTest_109 : aw_VS y_M_readTest 109 [o_ald 0, o_ild 1, o_c (.int (0 : Int32))] 112 := .cons (v_aload_n (i := 0) d_M_readTest_109 rfl) (.cons (v_iload_n (i := 1) d_M_readTest_110 rfl) (.cons (v_iconst (v := (0 : Int32)) d_M_readTest_111 (by decide +kernel)) .nil))
theorem d_M_readTest_112 : decode y_M_readTest.2.1 112 = .ok (.invokevirtual 238, 3) := by decide +kernel
theorem d_M_readTest_107 : decode y_M_readTest.2.1 107 = .ok (.iconst 0, 1) := by decide +kernel
theorem s_M_readTest_107 : aw_VS y_M_readTest 107 [o_c (.int (0 : Int32))] 108 := .cons (v_iconst (v := (0 : Int32)) d_M_readTest_107 (by decide +kernel)) .nil
theorem d_M_readTest_108 : decode y_M_readTest.2.1 108 = .ok (.ireturn, 1) := by decide +kernel
theorem b_M_readTest_104 {X : aw_X} {d : Nat} {Q : Option Value → aw_H → Prop} {I : Nat → Nat → Int32} {L : Nat → Nat → Int64} {D : Nat → Nat} {v1 : Int32} {s0 : Int32}
    (h1 : ¬ s0 = 0 → aw_m X d y_M_emit [.ref 69, .int v1, .int (0 : Int32)] (aw_s I L D) (fun r A => aw_z X (d + 1) y_M_readTest Q 115 [none, none] (r.toList ++ []) A))
    (h2 : s0 = 0 → Q (some (.int (0 : Int32))) (aw_s I L D)) :
    aw_z X (d + 1) y_M_readTest Q 104 [some (.ref 69), some (.int v1)] [.int s0] (aw_s I L D) :=
  (z_if_ne (tgt := 109) d_M_readTest_104 rfl (fun q1 => (s_M_readTest_109.go [some (.ref 69), some (.int v1)] [.int (0 : Int32), .int v1, .ref 69] (aw_s I L D) rfl (z_callV (av := [.int v1, .int (0 : Int32)]) (st := []) ok_M_emit (Or.inl w_1787) w_1789 w_79 k_M d_M_readTest_112 rfl (aw_lt (o := 69) rfl) rfl rfl (Nat.le_of_ble_eq_true rfl) (Nat.le_refl _) (Nat.le_refl _) (aw_C.mono (h1 q1) (fun _ _ zz => aw_Z.weak (ls' := [none, none]) zz (Nat.le_of_ble_eq_true rfl) ⟨Or.inl rfl, ⟨Or.inl rfl, trivial⟩⟩))))) (fun q2 => (s_M_readTest_107.go [some (.ref 69), some (.int v1)] [.int (0 : Int32)] (aw_s I L D) rfl (z_iret d_M_readTest_108 rfl (aw_nz (by decide +kernel)) (h2 q2)))))
theorem d_M_readTest_50 : decode y_M_readTest.2.1 50 = .ok (.ireturn, 1) := by decide +kernel
theorem b_M_readTest_50 {X : aw_X} {d : Nat} {Q : Option Value → aw_H → Prop} {I : Nat → Nat → Int32} {L : Nat → Nat → Int64} {D : Nat → Nat} {s0 : Int32}
    (h1 : (s0 = 0 ∨ s0 = 1))
    (h2 : Q (some (.int s0)) (aw_s I L D)) :
    aw_z X (d + 1) y_M_readTest Q 50 [none, none] [.int s0] (aw_s I L D) :=
  (z_iret d_M_readTest_50 rfl (aw_nz (h1)) (h2))
theorem d_M_readTest_115 : decode y_M_readTest.2.1 115 = .ok (.pop, 1) := by decide +kernel
theorem d_M_readTest_116 : decode y_M_readTest.2.1 116 = .ok (.iconst 1, 1) := by decide +kernel
theorem s_M_readTest_115 : aw_VS y_M_readTest 115 [o_pop, o_c (.int (1 : Int32))] 117 := .cons (v_pop d_M_readTest_115) (.cons (v_iconst (v := (1 : Int32)) d_M_readTest_116 (by decide +kernel)) .nil)
theorem d_M_readTest_117 : decode y_M_readTest.2.1 117 = .ok (.ireturn, 1) := by decide +kernel
theorem b_M_readTest_115 {X : aw_X} {d : Nat} {Q : Option Value → aw_H → Prop} {I : Nat → Nat → Int32} {L : Nat → Nat → Int64} {D : Nat → Nat} {s0 : Int32}
    (h1 : Q (some (.int (1 : Int32))) (aw_s I L D)) :
    aw_z X (d + 1) y_M_readTest Q 115 [none, none] [.int s0] (aw_s I L D) :=
  (s_M_readTest_115.go [none, none] [.int (1 : Int32)] (aw_s I L D) rfl (z_iret d_M_readTest_117 rfl (aw_nz (by decide +kernel)) (h1)))
/-! M_readSum -/
theorem d_M_readSum_0 : decode y_M_readSum.2.1 0 = .ok (.aload_n 0, 1) := by decide +kernel
theorem d_M_readSum_1 : decode y_M_readSum.2.1 1 = .ok (.getfield 231, 3) := by decide +kernel
theorem d_M_readSum_4 : decode y_M_readSum.2.1 4 = .ok (.istore_n 1, 1) := by decide +kernel
theorem d_M_readSum_5 : decode y_M_readSum.2.1 5 = .ok (.aload_n 0, 1) := by decide +kernel
theorem s_M_readSum_0 : aw_VS y_M_readSum 0 [o_ald 0, o_getI 9 25, o_ist 1, o_ald 0] 6 := .cons (v_aload_n (i := 0) d_M_readSum_0 rfl) (.cons (v_getI (k := 25) k_M (by decide) (Or.inl rfl) (Or.inl w_1486) d_M_readSum_1) (.cons (v_istore_n d_M_readSum_4) (.cons (v_aload_n (i := 0) d_M_readSum_5 rfl) .nil)))
theorem d_M_readSum_6 : decode y_M_readSum.2.1 6 = .ok (.invokevirtual 262, 3) := by decide +kernel
theorem b_M_readSum_0 {X : aw_X} {d : Nat} {Q : Option Value → aw_H → Prop} {I : Nat → Nat → Int32} {L : Nat → Nat → Int64} {D : Nat → Nat} 
    (h1 : aw_m X d y_M_readUnit [.ref 69] (aw_s I L D) (fun r A => aw_z X (d + 1) y_M_readSum Q 9 [some (.ref 69), some (.int (I 69 25)), none, none] (r.toList ++ []) A)) :
    aw_z X (d + 1) y_M_readSum Q 0 [some (.ref 69), none, none, none] [] (aw_s I L D) :=
  (s_M_readSum_0.go [some (.ref 69), some (.int (I 69 25)), none, none] [.ref 69] (aw_s I L D) rfl (z_callV (av := []) (st := []) ok_M_readUnit (Or.inl w_1861) w_1863 w_96 k_M d_M_readSum_6 rfl (aw_lt (o := 69) rfl) rfl rfl (Nat.le_of_ble_eq_true rfl) (Nat.le_refl _) (Nat.le_refl _) (h1)))
theorem d_M_readSum_9 : decode y_M_readSum.2.1 9 = .ok (.ifCond .ne (5), 3) := by decide +kernel
theorem d_M_readSum_12 : decode y_M_readSum.2.1 12 = .ok (.iconst 0, 1) := by decide +kernel
theorem s_M_readSum_12 : aw_VS y_M_readSum 12 [o_c (.int (0 : Int32))] 13 := .cons (v_iconst (v := (0 : Int32)) d_M_readSum_12 (by decide +kernel)) .nil
theorem d_M_readSum_13 : decode y_M_readSum.2.1 13 = .ok (.ireturn, 1) := by decide +kernel
theorem b_M_readSum_9 {X : aw_X} {d : Nat} {Q : Option Value → aw_H → Prop} {I : Nat → Nat → Int32} {L : Nat → Nat → Int64} {D : Nat → Nat} {v1 : Int32} {s0 : Int32}
    (h1 : ¬ s0 = 0 → aw_z X (d + 1) y_M_readSum Q 14 [some (.ref 69), some (.int v1), none, none] [] (aw_s I L D))
    (h2 : s0 = 0 → Q (some (.int (0 : Int32))) (aw_s I L D)) :
    aw_z X (d + 1) y_M_readSum Q 9 [some (.ref 69), some (.int v1), none, none] [.int s0] (aw_s I L D) :=
  (z_if_ne (tgt := 14) d_M_readSum_9 rfl (fun q1 => (h1 q1)) (fun q2 => (s_M_readSum_12.go [some (.ref 69), some (.int v1), none, none] [.int (0 : Int32)] (aw_s I L D) rfl (z_iret d_M_readSum_13 rfl (aw_nz (by decide +kernel)) (h2 q2)))))
theorem d_M_readSum_14 : decode y_M_readSum.2.1 14 = .ok (.aload_n 0, 1) := by decide +kernel
theorem d_M_readSum_15 : decode y_M_readSum.2.1 15 = .ok (.bipush 41, 2) := by decide +kernel
theorem s_M_readSum_14 : aw_VS y_M_readSum 14 [o_ald 0, o_c (.int (41 : Int32))] 17 := .cons (v_aload_n (i := 0) d_M_readSum_14 rfl) (.cons (v_bipush (v := (41 : Int32)) d_M_readSum_15 (by decide +kernel)) .nil)
theorem d_M_readSum_17 : decode y_M_readSum.2.1 17 = .ok (.invokevirtual 216, 3) := by decide +kernel
theorem b_M_readSum_14 {X : aw_X} {d : Nat} {Q : Option Value → aw_H → Prop} {I : Nat → Nat → Int32} {L : Nat → Nat → Int64} {D : Nat → Nat} {v1 : Int32}
    (h1 : aw_m X d y_M_isSign [.ref 69, .int (41 : Int32)] (aw_s I L D) (fun r A => aw_z X (d + 1) y_M_readSum Q 20 [some (.ref 69), some (.int v1), none, none] (r.toList ++ []) A)) :
    aw_z X (d + 1) y_M_readSum Q 14 [some (.ref 69), some (.int v1), none, none] [] (aw_s I L D) :=
  (s_M_readSum_14.go [some (.ref 69), some (.int v1), none, none] [.int (41 : Int32), .ref 69] (aw_s I L D) rfl (z_callV (av := [.int (41 : Int32)]) (st := []) ok_M_isSign (Or.inl w_1779) w_1781 w_77 k_M d_M_readSum_17 rfl (aw_lt (o := 69) rfl) rfl rfl (Nat.le_of_ble_eq_true rfl) (Nat.le_refl _) (Nat.le_refl _) (h1)))
theorem d_M_readSum_20 : decode y_M_readSum.2.1 20 = .ok (.ifCond .eq (13), 3) := by decide +kernel
theorem d_M_readSum_23 : decode y_M_readSum.2.1 23 = .ok (.aload_n 0, 1) := by decide +kernel
theorem d_M_readSum_24 : decode y_M_readSum.2.1 24 = .ok (.iload_n 1, 1) := by decide +kernel
theorem d_M_readSum_25 : decode y_M_readSum.2.1 25 = .ok (.bipush 26, 2) := by decide +kernel
theorem s_M_readSum_23 : aw_VS y_M_readSum 23 [o_ald 0, o_ild 1, o_c (.int (26 : Int32))] 27 := .cons (v_aload_n (i := 0) d_M_readSum_23 rfl) (.cons (v_iload_n (i := 1) d_M_readSum_24 rfl) (.cons (v_bipush (v := (26 : Int32)) d_M_readSum_25 (by decide +kernel)) .nil))
theorem d_M_readSum_27 : decode y_M_readSum.2.1 27 = .ok (.invokevirtual 265, 3) := by decide +kernel
theorem b_M_readSum_20 {X : aw_X} {d : Nat} {Q : Option Value → aw_H → Prop} {I : Nat → Nat → Int32} {L : Nat → Nat → Int64} {D : Nat → Nat} {v1 : Int32} {s0 : Int32}
    (h1 : s0 = 0 → aw_z X (d + 1) y_M_readSum Q 33 [some (.ref 69), some (.int v1), none, none] [] (aw_s I L D))
    (h2 : ¬ s0 = 0 → aw_m X d y_M_closes [.ref 69, .int v1, .int (26 : Int32)] (aw_s I L D) (fun r A => aw_z X (d + 1) y_M_readSum Q 30 [some (.ref 69), some (.int v1), none, none] (r.toList ++ []) A)) :
    aw_z X (d + 1) y_M_readSum Q 20 [some (.ref 69), some (.int v1), none, none] [.int s0] (aw_s I L D) :=
  (z_if_eq (tgt := 33) d_M_readSum_20 rfl (fun q1 => (h1 q1)) (fun q2 => (s_M_readSum_23.go [some (.ref 69), some (.int v1), none, none] [.int (26 : Int32), .int v1, .ref 69] (aw_s I L D) rfl (z_callV (av := [.int v1, .int (26 : Int32)]) (st := []) ok_M_closes (Or.inl w_1865) w_1867 w_97 k_M d_M_readSum_27 rfl (aw_lt (o := 69) rfl) rfl rfl (Nat.le_of_ble_eq_true rfl) (Nat.le_refl _) (Nat.le_refl _) (h2 q2)))))
theorem d_M_readSum_33 : decode y_M_readSum.2.1 33 = .ok (.aload_n 0, 1) := by decide +kernel
theorem d_M_readSum_34 : decode y_M_readSum.2.1 34 = .ok (.bipush 93, 2) := by decide +kernel
theorem s_M_readSum_33 : aw_VS y_M_readSum 33 [o_ald 0, o_c (.int (93 : Int32))] 36 := .cons (v_aload_n (i := 0) d_M_readSum_33 rfl) (.cons (v_bipush (v := (93 : Int32)) d_M_readSum_34 (by decide +kernel)) .nil)
theorem d_M_readSum_36 : decode y_M_readSum.2.1 36 = .ok (.invokevirtual 216, 3) := by decide +kernel
theorem b_M_readSum_33 {X : aw_X} {d : Nat} {Q : Option Value → aw_H → Prop} {I : Nat → Nat → Int32} {L : Nat → Nat → Int64} {D : Nat → Nat} {v1 : Int32}
    (h1 : aw_m X d y_M_isSign [.ref 69, .int (93 : Int32)] (aw_s I L D) (fun r A => aw_z X (d + 1) y_M_readSum Q 39 [some (.ref 69), some (.int v1), none, none] (r.toList ++ []) A)) :
    aw_z X (d + 1) y_M_readSum Q 33 [some (.ref 69), some (.int v1), none, none] [] (aw_s I L D) :=
  (s_M_readSum_33.go [some (.ref 69), some (.int v1), none, none] [.int (93 : Int32), .ref 69] (aw_s I L D) rfl (z_callV (av := [.int (93 : Int32)]) (st := []) ok_M_isSign (Or.inl w_1779) w_1781 w_77 k_M d_M_readSum_36 rfl (aw_lt (o := 69) rfl) rfl rfl (Nat.le_of_ble_eq_true rfl) (Nat.le_refl _) (Nat.le_refl _) (h1)))
theorem d_M_readSum_30 : decode y_M_readSum.2.1 30 = .ok (.ifCond .ne (22), 3) := by decide +kernel
theorem b_M_readSum_30 {X : aw_X} {d : Nat} {Q : Option Value → aw_H → Prop} {I : Nat → Nat → Int32} {L : Nat → Nat → Int64} {D : Nat → Nat} {v1 : Int32} {s0 : Int32}
    (h1 : ¬ s0 = 0 → aw_z X (d + 1) y_M_readSum Q 52 [some (.ref 69), some (.int v1), none, none] [] (aw_s I L D))
    (h2 : s0 = 0 → aw_z X (d + 1) y_M_readSum Q 33 [some (.ref 69), some (.int v1), none, none] [] (aw_s I L D)) :
    aw_z X (d + 1) y_M_readSum Q 30 [some (.ref 69), some (.int v1), none, none] [.int s0] (aw_s I L D) :=
  (z_if_ne (tgt := 52) d_M_readSum_30 rfl (fun q1 => (h1 q1)) (fun q2 => (h2 q2)))
theorem d_M_readSum_39 : decode y_M_readSum.2.1 39 = .ok (.ifCond .eq (68), 3) := by decide +kernel
theorem d_M_readSum_42 : decode y_M_readSum.2.1 42 = .ok (.aload_n 0, 1) := by decide +kernel
theorem d_M_readSum_43 : decode y_M_readSum.2.1 43 = .ok (.iload_n 1, 1) := by decide +kernel
theorem d_M_readSum_44 : decode y_M_readSum.2.1 44 = .ok (.bipush 27, 2) := by decide +kernel
theorem s_M_readSum_42 : aw_VS y_M_readSum 42 [o_ald 0, o_ild 1, o_c (.int (27 : Int32))] 46 := .cons (v_aload_n (i := 0) d_M_readSum_42 rfl) (.cons (v_iload_n (i := 1) d_M_readSum_43 rfl) (.cons (v_bipush (v := (27 : Int32)) d_M_readSum_44 (by decide +kernel)) .nil))
theorem d_M_readSum_46 : decode y_M_readSum.2.1 46 = .ok (.invokevirtual 265, 3) := by decide +kernel
theorem b_M_readSum_39 {X : aw_X} {d : Nat} {Q : Option Value → aw_H → Prop} {I : Nat → Nat → Int32} {L : Nat → Nat → Int64} {D : Nat → Nat} {v1 : Int32} {s0 : Int32}
    (h1 : s0 = 0 → aw_z X (d + 1) y_M_readSum Q 107 [some (.ref 69), some (.int v1), none, none] [] (aw_s I L D))
    (h2 : ¬ s0 = 0 → aw_m X d y_M_closes [.ref 69, .int v1, .int (27 : Int32)] (aw_s I L D) (fun r A => aw_z X (d + 1) y_M_readSum Q 49 [some (.ref 69), some (.int v1), none, none] (r.toList ++ []) A)) :
    aw_z X (d + 1) y_M_readSum Q 39 [some (.ref 69), some (.int v1), none, none] [.int s0] (aw_s I L D) :=
  (z_if_eq (tgt := 107) d_M_readSum_39 rfl (fun q1 => (h1 q1)) (fun q2 => (s_M_readSum_42.go [some (.ref 69), some (.int v1), none, none] [.int (27 : Int32), .int v1, .ref 69] (aw_s I L D) rfl (z_callV (av := [.int v1, .int (27 : Int32)]) (st := []) ok_M_closes (Or.inl w_1865) w_1867 w_97 k_M d_M_readSum_46 rfl (aw_lt (o := 69) rfl) rfl rfl (Nat.le_of_ble_eq_true rfl) (Nat.le_refl _) (Nat.le_refl _) (h2 q2)))))
theorem d_M_readSum_52 : decode y_M_readSum.2.1 52 = .ok (.aload_n 0, 1) := by decide +kernel
theorem d_M_readSum_53 : decode y_M_readSum.2.1 53 = .ok (.iconst 5, 1) := by decide +kernel
theorem d_M_readSum_54 : decode y_M_readSum.2.1 54 = .ok (.bipush 8, 2) := by decide +kernel
theorem s_M_readSum_52 : aw_VS y_M_readSum 52 [o_ald 0, o_c (.int (5 : Int32)), o_c (.int (8 : Int32))] 56 := .cons (v_aload_n (i := 0) d_M_readSum_52 rfl) (.cons (v_iconst (v := (5 : Int32)) d_M_readSum_53 (by decide +kernel)) (.cons (v_bipush (v := (8 : Int32)) d_M_readSum_54 (by decide +kernel)) .nil))
theorem d_M_readSum_56 : decode y_M_readSum.2.1 56 = .ok (.invokevirtual 269, 3) := by decide +kernel
theorem b_M_readSum_52 {X : aw_X} {d : Nat} {Q : Option Value → aw_H → Prop} {I : Nat → Nat → Int32} {L : Nat → Nat → Int64} {D : Nat → Nat} {v1 : Int32}
    (h1 : aw_m X d y_M_drop [.ref 69, .int (5 : Int32), .int (8 : Int32)] (aw_s I L D) (fun r A => aw_z X (d + 1) y_M_readSum Q 59 [some (.ref 69), some (.int v1), none, none] (r.toList ++ []) A)) :
    aw_z X (d + 1) y_M_readSum Q 52 [some (.ref 69), some (.int v1), none, none] [] (aw_s I L D) :=
  (s_M_readSum_52.go [some (.ref 69), some (.int v1), none, none] [.int (8 : Int32), .int (5 : Int32), .ref 69] (aw_s I L D) rfl (z_callV (av := [.int (5 : Int32), .int (8 : Int32)]) (st := []) ok_M_drop (Or.inl w_1869) w_1871 w_98 k_M d_M_readSum_56 rfl (aw_lt (o := 69) rfl) rfl rfl (Nat.le_of_ble_eq_true rfl) (Nat.le_refl _) (Nat.le_refl _) (h1)))
theorem d_M_readSum_107 : decode y_M_readSum.2.1 107 = .ok (.aload_n 0, 1) := by decide +kernel
theorem d_M_readSum_108 : decode y_M_readSum.2.1 108 = .ok (.bipush 43, 2) := by decide +kernel
theorem s_M_readSum_107 : aw_VS y_M_readSum 107 [o_ald 0, o_c (.int (43 : Int32))] 110 := .cons (v_aload_n (i := 0) d_M_readSum_107 rfl) (.cons (v_bipush (v := (43 : Int32)) d_M_readSum_108 (by decide +kernel)) .nil)
theorem d_M_readSum_110 : decode y_M_readSum.2.1 110 = .ok (.invokevirtual 216, 3) := by decide +kernel
theorem b_M_readSum_107 {X : aw_X} {d : Nat} {Q : Option Value → aw_H → Prop} {I : Nat → Nat → Int32} {L : Nat → Nat → Int64} {D : Nat → Nat} {v1 : Int32}
    (h1 : aw_m X d y_M_isSign [.ref 69, .int (43 : Int32)] (aw_s I L D) (fun r A => aw_z X (d + 1) y_M_readSum Q 113 [some (.ref 69), some (.int v1), none, none] (r.toList ++ []) A)) :
    aw_z X (d + 1) y_M_readSum Q 107 [some (.ref 69), some (.int v1), none, none] [] (aw_s I L D) :=
  (s_M_readSum_107.go [some (.ref 69), some (.int v1), none, none] [.int (43 : Int32), .ref 69] (aw_s I L D) rfl (z_callV (av := [.int (43 : Int32)]) (st := []) ok_M_isSign (Or.inl w_1779) w_1781 w_77 k_M d_M_readSum_110 rfl (aw_lt (o := 69) rfl) rfl rfl (Nat.le_of_ble_eq_true rfl) (Nat.le_refl _) (Nat.le_refl _) (h1)))
theorem d_M_readSum_49 : decode y_M_readSum.2.1 49 = .ok (.ifCond .eq (58), 3) := by decide +kernel
theorem b_M_readSum_49 {X : aw_X} {d : Nat} {Q : Option Value → aw_H → Prop} {I : Nat → Nat → Int32} {L : Nat → Nat → Int64} {D : Nat → Nat} {v1 : Int32} {s0 : Int32}
    (h1 : s0 = 0 → aw_z X (d + 1) y_M_readSum Q 107 [some (.ref 69), some (.int v1), none, none] [] (aw_s I L D))
    (h2 : ¬ s0 = 0 → aw_z X (d + 1) y_M_readSum Q 52 [some (.ref 69), some (.int v1), none, none] [] (aw_s I L D)) :
    aw_z X (d + 1) y_M_readSum Q 49 [some (.ref 69), some (.int v1), none, none] [.int s0] (aw_s I L D) :=
  (z_if_eq (tgt := 107) d_M_readSum_49 rfl (fun q1 => (h1 q1)) (fun q2 => (h2 q2)))
theorem d_M_readSum_59 : decode y_M_readSum.2.1 59 = .ok (.aload_n 0, 1) := by decide +kernel
theorem d_M_readSum_60 : decode y_M_readSum.2.1 60 = .ok (.dup, 1) := by decide +kernel
theorem d_M_readSum_61 : decode y_M_readSum.2.1 61 = .ok (.getfield 231, 3) := by decide +kernel
theorem d_M_readSum_64 : decode y_M_readSum.2.1 64 = .ok (.iconst 1, 1) := by decide +kernel
theorem d_M_readSum_65 : decode y_M_readSum.2.1 65 = .ok (.isub, 1) := by decide +kernel
theorem d_M_readSum_66 : decode y_M_readSum.2.1 66 = .ok (.putfield 231, 3) := by decide +kernel
theorem d_M_readSum_69 : decode y_M_readSum.2.1 69 = .ok (.aload_n 0, 1) := by decide +kernel
theorem d_M_readSum_70 : decode y_M_readSum.2.1 70 = .ok (.dup, 1) := by decide +kernel
theorem d_M_readSum_71 : decode y_M_readSum.2.1 71 = .ok (.getfield 259, 3) := by decide +kernel
theorem d_M_readSum_74 : decode y_M_readSum.2.1 74 = .ok (.iconst 1, 1) := by decide +kernel
theorem d_M_readSum_75 : decode y_M_readSum.2.1 75 = .ok (.isub, 1) := by decide +kernel
theorem d_M_readSum_76 : decode y_M_readSum.2.1 76 = .ok (.putfield 259, 3) := by decide +kernel
theorem d_M_readSum_79 : decode y_M_readSum.2.1 79 = .ok (.aload_n 0, 1) := by decide +kernel
theorem d_M_readSum_80 : decode y_M_readSum.2.1 80 = .ok (.getfield 38, 3) := by decide +kernel
theorem d_M_readSum_83 : decode y_M_readSum.2.1 83 = .ok (.aload_n 0, 1) := by decide +kernel
theorem d_M_readSum_84 : decode y_M_readSum.2.1 84 = .ok (.getfield 231, 3) := by decide +kernel
theorem s_M_readSum_59 : aw_VS y_M_readSum 59 [o_ald 0, o_dup, o_getI 9 25, o_c (.int (1 : Int32)), o_i2 (fun x z => x - z), o_putI 9 25, o_ald 0, o_dup, o_getI 9 27, o_c (.int (1 : Int32)), o_i2 (fun x z => x - z), o_putI 9 27, o_ald 0, o_getA 9 20, o_ald 0, o_getI 9 25] 87 := .cons (v_aload_n (i := 0) d_M_readSum_59 rfl) (.cons (v_dup d_M_readSum_60) (.cons (v_getI (k := 25) k_M (by decide) (Or.inl rfl) (Or.inl w_1486) d_M_readSum_61) (.cons (v_iconst (v := (1 : Int32)) d_M_readSum_64 (by decide +kernel)) (.cons (v_isub d_M_readSum_65) (.cons (v_putI (k := 25) k_M (by decide) rfl (Or.inl ⟨rfl, Or.inl w_1486⟩) d_M_readSum_66) (.cons (v_aload_n (i := 0) d_M_readSum_69 rfl) (.cons (v_dup d_M_readSum_70) (.cons (v_getI (k := 27) k_M (by decide) (Or.inl rfl) (Or.inl w_1488) d_M_readSum_71) (.cons (v_iconst (v := (1 : Int32)) d_M_readSum_74 (by decide +kernel)) (.cons (v_isub d_M_readSum_75) (.cons (v_putI (k := 27) k_M (by decide) rfl (Or.inl ⟨rfl, Or.inl w_1488⟩) d_M_readSum_76) (.cons (v_aload_n (i := 0) d_M_readSum_79 rfl) (.cons (v_getA (k := 20) k_M (by decide) rfl (Or.inl w_1481) d_M_readSum_80) (.cons (v_aload_n (i := 0) d_M_readSum_83 rfl) (.cons (v_getI (k := 25) k_M (by decide) (Or.inl rfl) (Or.inl w_1486) d_M_readSum_84) .nil)))))))))))))))
theorem d_M_readSum_87 : decode y_M_readSum.2.1 87 = .ok (.iaload, 1) := by decide +kernel
theorem d_M_readSum_88 : decode y_M_readSum.2.1 88 = .ok (.bipush 27, 2) := by decide +kernel
theorem s_M_readSum_88 : aw_VS y_M_readSum 88 [o_c (.int (27 : Int32))] 90 := .cons (v_bipush (v := (27 : Int32)) d_M_readSum_88 (by decide +kernel)) .nil
theorem d_M_readSum_90 : decode y_M_readSum.2.1 90 = .ok (.if_icmp .ne (10), 3) := by decide +kernel
theorem d_M_readSum_93 : decode y_M_readSum.2.1 93 = .ok (.aload_n 0, 1) := by decide +kernel
theorem d_M_readSum_94 : decode y_M_readSum.2.1 94 = .ok (.iconst 4, 1) := by decide +kernel
theorem d_M_readSum_95 : decode y_M_readSum.2.1 95 = .ok (.iconst 0, 1) := by decide +kernel
theorem s_M_readSum_93 : aw_VS y_M_readSum 93 [o_ald 0, o_c (.int (4 : Int32)), o_c (.int (0 : Int32))] 96 := .cons (v_aload_n (i := 0) d_M_readSum_93 rfl) (.cons (v_iconst (v := (4 : Int32)) d_M_readSum_94 (by decide +kernel)) (.cons (v_iconst (v := (0 : Int32)) d_M_readSum_95 (by decide +kernel)) .nil))
theorem d_M_readSum_96 : decode y_M_readSum.2.1 96 = .ok (.invokevirtual 238, 3) := by decide +kernel
theorem b_M_readSum_59 {X : aw_X} {d : Nat} {Q : Option Value → aw_H → Prop} {I : Nat → Nat → Int32} {L : Nat → Nat → Int64} {D : Nat → Nat} {v1 : Int32}
    (h1 : vp_in ((I 69 25) - (1 : Int32)) 200)
    (h2 : ¬ (I 79 (((I 69 25) - (1 : Int32)).toNatClampNeg)) = (27 : Int32) → aw_z X (d + 1) y_M_readSum Q 100 [some (.ref 69), some (.int v1), none, none] [] (aw_s (aw_u (aw_u I 69 25 ((I 69 25) - (1 : Int32))) 69 27 ((I 69 27) - (1 : Int32))) L D))
    (h3 : (I 79 (((I 69 25) - (1 : Int32)).toNatClampNeg)) = (27 : Int32) → aw_m X d y_M_emit [.ref 69, .int (4 : Int32), .int (0 : Int32)] (aw_s (aw_u (aw_u I 69 25 ((I 69 25) - (1 : Int32))) 69 27 ((I 69 27) - (1 : Int32))) L D) (fun r A => aw_z X (d + 1) y_M_readSum Q 99 [some (.ref 69), some (.int v1), none, none] (r.toList ++ []) A)) :
    aw_z X (d + 1) y_M_readSum Q 59 [some (.ref 69), some (.int v1), none, none] [] (aw_s I L D) :=
  (s_M_readSum_59.go [some (.ref 69), some (.int v1), none, none] [.int ((I 69 25) - (1 : Int32)), .ref 79] (aw_s (aw_u (aw_u I 69 25 ((I 69 25) - (1 : Int32))) 69 27 ((I 69 27) - (1 : Int32))) L D) rfl (z_iald (n := 200) rfl (aw_lt (o := 79) rfl) (h1) d_M_readSum_87 (s_M_readSum_88.go [some (.ref 69), some (.int v1), none, none] [.int (27 : Int32), .int (I 79 (((I 69 25) - (1 : Int32)).toNatClampNeg))] (aw_s (aw_u (aw_u I 69 25 ((I 69 25) - (1 : Int32))) 69 27 ((I 69 27) - (1 : Int32))) L D) rfl (z_icmp_ne (tgt := 100) d_M_readSum_90 rfl (fun q1 => (h2 q1)) (fun q2 => (s_M_readSum_93.go [some (.ref 69), some (.int v1), none, none] [.int (0 : Int32), .int (4 : Int32), .ref 69] (aw_s (aw_u (aw_u I 69 25 ((I 69 25) - (1 : Int32))) 69 27 ((I 69 27) - (1 : Int32))) L D) rfl (z_callV (av := [.int (4 : Int32), .int (0 : Int32)]) (st := []) ok_M_emit (Or.inl w_1787) w_1789 w_79 k_M d_M_readSum_96 rfl (aw_lt (o := 69) rfl) rfl rfl (Nat.le_of_ble_eq_true rfl) (Nat.le_refl _) (Nat.le_refl _) (h3 q2))))))))
theorem d_M_readSum_113 : decode y_M_readSum.2.1 113 = .ok (.ifCond .ne (12), 3) := by decide +kernel
theorem d_M_readSum_116 : decode y_M_readSum.2.1 116 = .ok (.aload_n 0, 1) := by decide +kernel
theorem d_M_readSum_117 : decode y_M_readSum.2.1 117 = .ok (.bipush 45, 2) := by decide +kernel
theorem s_M_readSum_116 : aw_VS y_M_readSum 116 [o_ald 0, o_c (.int (45 : Int32))] 119 := .cons (v_aload_n (i := 0) d_M_readSum_116 rfl) (.cons (v_bipush (v := (45 : Int32)) d_M_readSum_117 (by decide +kernel)) .nil)
theorem d_M_readSum_119 : decode y_M_readSum.2.1 119 = .ok (.invokevirtual 216, 3) := by decide +kernel
theorem b_M_readSum_113 {X : aw_X} {d : Nat} {Q : Option Value → aw_H → Prop} {I : Nat → Nat → Int32} {L : Nat → Nat → Int64} {D : Nat → Nat} {v1 : Int32} {s0 : Int32}
    (h1 : ¬ s0 = 0 → aw_z X (d + 1) y_M_readSum Q 125 [some (.ref 69), some (.int v1), none, none] [] (aw_s I L D))
    (h2 : s0 = 0 → aw_m X d y_M_isSign [.ref 69, .int (45 : Int32)] (aw_s I L D) (fun r A => aw_z X (d + 1) y_M_readSum Q 122 [some (.ref 69), some (.int v1), none, none] (r.toList ++ []) A)) :
    aw_z X (d + 1) y_M_readSum Q 113 [some (.ref 69), some (.int v1), none, none] [.int s0] (aw_s I L D) :=
  (z_if_ne (tgt := 125) d_M_readSum_113 rfl (fun q1 => (h1 q1)) (fun q2 => (s_M_readSum_116.go [some (.ref 69), some (.int v1), none, none] [.int (45 : Int32), .ref 69] (aw_s I L D) rfl (z_callV (av := [.int (45 : Int32)]) (st := []) ok_M_isSign (Or.inl w_1779) w_1781 w_77 k_M d_M_readSum_119 rfl (aw_lt (o := 69) rfl) rfl rfl (Nat.le_of_ble_eq_true rfl) (Nat.le_refl _) (Nat.le_refl _) (h2 q2)))))
theorem d_M_readSum_100 : decode y_M_readSum.2.1 100 = .ok (.aload_n 0, 1) := by decide +kernel
theorem s_M_readSum_100 : aw_VS y_M_readSum 100 [o_ald 0] 101 := .cons (v_aload_n (i := 0) d_M_readSum_100 rfl) .nil
theorem d_M_readSum_101 : decode y_M_readSum.2.1 101 = .ok (.invokevirtual 222, 3) := by decide +kernel
theorem b_M_readSum_100 {X : aw_X} {d : Nat} {Q : Option Value → aw_H → Prop} {I : Nat → Nat → Int32} {L : Nat → Nat → Int64} {D : Nat → Nat} {v1 : Int32}
    (h1 : aw_m X d y_M_go [.ref 69] (aw_s I L D) (fun r A => aw_z X (d + 1) y_M_readSum Q 104 [some (.ref 69), some (.int v1), none, none] (r.toList ++ []) A)) :
    aw_z X (d + 1) y_M_readSum Q 100 [some (.ref 69), some (.int v1), none, none] [] (aw_s I L D) :=
  (s_M_readSum_100.go [some (.ref 69), some (.int v1), none, none] [.ref 69] (aw_s I L D) rfl (z_callV (av := []) (st := []) ok_M_go (Or.inl w_1760) w_1762 w_75 k_M d_M_readSum_101 rfl (aw_lt (o := 69) rfl) rfl rfl (Nat.le_of_ble_eq_true rfl) (Nat.le_refl _) (Nat.le_refl _) (h1)))
theorem d_M_readSum_99 : decode y_M_readSum.2.1 99 = .ok (.pop, 1) := by decide +kernel
theorem s_M_readSum_99 : aw_VS y_M_readSum 99 [o_pop] 100 := .cons (v_pop d_M_readSum_99) .nil
theorem b_M_readSum_99 {X : aw_X} {d : Nat} {Q : Option Value → aw_H → Prop} {I : Nat → Nat → Int32} {L : Nat → Nat → Int64} {D : Nat → Nat} {v1 : Int32} {s0 : Int32}
    (h1 : aw_z X (d + 1) y_M_readSum Q 100 [some (.ref 69), some (.int v1), none, none] [] (aw_s I L D)) :
    aw_z X (d + 1) y_M_readSum Q 99 [some (.ref 69), some (.int v1), none, none] [.int s0] (aw_s I L D) :=
  (s_M_readSum_99.go [some (.ref 69), some (.int v1), none, none] [] (aw_s I L D) rfl (h1))
theorem d_M_readSum_125 : decode y_M_readSum.2.1 125 = .ok (.iconst 1, 1) := by decide +kernel
theorem s_M_readSum_125 : aw_VS y_M_readSum 125 [o_c (.int (1 : Int32))] 126 := .cons (v_iconst (v := (1 : Int32)) d_M_readSum_125 (by decide +kernel)) .nil
theorem d_M_readSum_126 : decode y_M_readSum.2.1 126 = .ok (.goto (4), 3) := by decide +kernel
theorem b_M_readSum_125 {X : aw_X} {d : Nat} {Q : Option Value → aw_H → Prop} {I : Nat → Nat → Int32} {L : Nat → Nat → Int64} {D : Nat → Nat} {v1 : Int32}
    (h1 : aw_z X (d + 1) y_M_readSum Q 130 [some (.ref 69), some (.int v1), none, none] [.int (1 : Int32)] (aw_s I L D)) :
    aw_z X (d + 1) y_M_readSum Q 125 [some (.ref 69), some (.int v1), none, none] [] (aw_s I L D) :=
  (s_M_readSum_125.go [some (.ref 69), some (.int v1), none, none] [.int (1 : Int32)] (aw_s I L D) rfl (z_goto (tgt := 130) d_M_readSum_126 rfl (h1)))
theorem d_M_readSum_122 : decode y_M_readSum.2.1 122 = .ok (.ifCond .eq (7), 3) := by decide +kernel
theorem d_M_readSum_129 : decode y_M_readSum.2.1 129 = .ok (.iconst 0, 1) := by decide +kernel
theorem s_M_readSum_129 : aw_VS y_M_readSum 129 [o_c (.int (0 : Int32))] 130 := .cons (v_iconst (v := (0 : Int32)) d_M_readSum_129 (by decide +kernel)) .nil
theorem b_M_readSum_122 {X : aw_X} {d : Nat} {Q : Option Value → aw_H → Prop} {I : Nat → Nat → Int32} {L : Nat → Nat → Int64} {D : Nat → Nat} {v1 : Int32} {s0 : Int32}
    (h1 : s0 = 0 → aw_z X (d + 1) y_M_readSum Q 130 [some (.ref 69), some (.int v1), none, none] [.int (0 : Int32)] (aw_s I L D))
    (h2 : ¬ s0 = 0 → aw_z X (d + 1) y_M_readSum Q 125 [some (.ref 69), some (.int v1), none, none] [] (aw_s I L D)) :
    aw_z X (d + 1) y_M_readSum Q 122 [some (.ref 69), some (.int v1), none, none] [.int s0] (aw_s I L D) :=
  (z_if_eq (tgt := 129) d_M_readSum_122 rfl (fun q1 => (s_M_readSum_129.go [some (.ref 69), some (.int v1), none, none] [.int (0 : Int32)] (aw_s I L D) rfl (h1 q1))) (fun q2 => (h2 q2)))
theorem d_M_readSum_104 : decode y_M_readSum.2.1 104 = .ok (.goto (-90), 3) := by decide +kernel
theorem b_M_readSum_104 {X : aw_X} {d : Nat} {Q : Option Value → aw_H → Prop} {I : Nat → Nat → Int32} {L : Nat → Nat → Int64} {D : Nat → Nat} {v1 : Int32}
    (h1 : aw_z X (d + 1) y_M_readSum Q 14 [some (.ref 69), some (.int v1), none, none] [] (aw_s I L D)) :
    aw_z X (d + 1) y_M_readSum Q 104 [some (.ref 69), some (.int v1), none, none] [] (aw_s I L D) :=
  (z_goto (tgt := 14) d_M_readSum_104 rfl (h1))
theorem d_M_readSum_130 : decode y_M_readSum.2.1 130 = .ok (.istore_n 2, 1) := by decide +kernel
theorem d_M_readSum_131 : decode y_M_readSum.2.1 131 = .ok (.iload_n 2, 1) := by decide +kernel
theorem s_M_readSum_130 : aw_VS y_M_readSum 130 [o_ist 2, o_ild 2] 132 := .cons (v_istore_n d_M_readSum_130) (.cons (v_iload_n (i := 2) d_M_readSum_131 rfl) .nil)
theorem d_M_readSum_132 : decode y_M_readSum.2.1 132 = .ok (.ifCond .ne (24), 3) := by decide +kernel
theorem d_M_readSum_135 : decode y_M_readSum.2.1 135 = .ok (.aload_n 0, 1) := by decide +kernel
theorem d_M_readSum_136 : decode y_M_readSum.2.1 136 = .ok (.bipush 42, 2) := by decide +kernel
theorem s_M_readSum_135 : aw_VS y_M_readSum 135 [o_ald 0, o_c (.int (42 : Int32))] 138 := .cons (v_aload_n (i := 0) d_M_readSum_135 rfl) (.cons (v_bipush (v := (42 : Int32)) d_M_readSum_136 (by decide +kernel)) .nil)
theorem d_M_readSum_138 : decode y_M_readSum.2.1 138 = .ok (.invokevirtual 216, 3) := by decide +kernel
theorem b_M_readSum_130 {X : aw_X} {d : Nat} {Q : Option Value → aw_H → Prop} {I : Nat → Nat → Int32} {L : Nat → Nat → Int64} {D : Nat → Nat} {v1 : Int32} {s0 : Int32}
    (h1 : ¬ s0 = 0 → aw_z X (d + 1) y_M_readSum Q 156 [some (.ref 69), some (.int v1), some (.int s0), none] [] (aw_s I L D))
    (h2 : s0 = 0 → aw_m X d y_M_isSign [.ref 69, .int (42 : Int32)] (aw_s I L D) (fun r A => aw_z X (d + 1) y_M_readSum Q 141 [some (.ref 69), some (.int v1), some (.int s0), none] (r.toList ++ []) A)) :
    aw_z X (d + 1) y_M_readSum Q 130 [some (.ref 69), some (.int v1), none, none] [.int s0] (aw_s I L D) :=
  (s_M_readSum_130.go [some (.ref 69), some (.int v1), some (.int s0), none] [.int s0] (aw_s I L D) rfl (z_if_ne (tgt := 156) d_M_readSum_132 rfl (fun q1 => (h1 q1)) (fun q2 => (s_M_readSum_135.go [some (.ref 69), some (.int v1), some (.int s0), none] [.int (42 : Int32), .ref 69] (aw_s I L D) rfl (z_callV (av := [.int (42 : Int32)]) (st := []) ok_M_isSign (Or.inl w_1779) w_1781 w_77 k_M d_M_readSum_138 rfl (aw_lt (o := 69) rfl) rfl rfl (Nat.le_of_ble_eq_true rfl) (Nat.le_refl _) (Nat.le_refl _) (h2 q2))))))
theorem d_M_readSum_156 : decode y_M_readSum.2.1 156 = .ok (.aload_n 0, 1) := by decide +kernel
theorem d_M_readSum_157 : decode y_M_readSum.2.1 157 = .ok (.bipush 43, 2) := by decide +kernel
theorem s_M_readSum_156 : aw_VS y_M_readSum 156 [o_ald 0, o_c (.int (43 : Int32))] 159 := .cons (v_aload_n (i := 0) d_M_readSum_156 rfl) (.cons (v_bipush (v := (43 : Int32)) d_M_readSum_157 (by decide +kernel)) .nil)
theorem d_M_readSum_159 : decode y_M_readSum.2.1 159 = .ok (.invokevirtual 216, 3) := by decide +kernel
theorem b_M_readSum_156 {X : aw_X} {d : Nat} {Q : Option Value → aw_H → Prop} {I : Nat → Nat → Int32} {L : Nat → Nat → Int64} {D : Nat → Nat} {v1 : Int32} {v2 : Int32}
    (h1 : aw_m X d y_M_isSign [.ref 69, .int (43 : Int32)] (aw_s I L D) (fun r A => aw_z X (d + 1) y_M_readSum Q 162 [some (.ref 69), some (.int v1), some (.int v2), none] (r.toList ++ []) A)) :
    aw_z X (d + 1) y_M_readSum Q 156 [some (.ref 69), some (.int v1), some (.int v2), none] [] (aw_s I L D) :=
  (s_M_readSum_156.go [some (.ref 69), some (.int v1), some (.int v2), none] [.int (43 : Int32), .ref 69] (aw_s I L D) rfl (z_callV (av := [.int (43 : Int32)]) (st := []) ok_M_isSign (Or.inl w_1779) w_1781 w_77 k_M d_M_readSum_159 rfl (aw_lt (o := 69) rfl) rfl rfl (Nat.le_of_ble_eq_true rfl) (Nat.le_refl _) (Nat.le_refl _) (h1)))
theorem d_M_readSum_141 : decode y_M_readSum.2.1 141 = .ok (.ifCond .ne (15), 3) := by decide +kernel
theorem d_M_readSum_144 : decode y_M_readSum.2.1 144 = .ok (.aload_n 0, 1) := by decide +kernel
theorem d_M_readSum_145 : decode y_M_readSum.2.1 145 = .ok (.bipush 47, 2) := by decide +kernel
theorem s_M_readSum_144 : aw_VS y_M_readSum 144 [o_ald 0, o_c (.int (47 : Int32))] 147 := .cons (v_aload_n (i := 0) d_M_readSum_144 rfl) (.cons (v_bipush (v := (47 : Int32)) d_M_readSum_145 (by decide +kernel)) .nil)
theorem d_M_readSum_147 : decode y_M_readSum.2.1 147 = .ok (.invokevirtual 216, 3) := by decide +kernel
theorem b_M_readSum_141 {X : aw_X} {d : Nat} {Q : Option Value → aw_H → Prop} {I : Nat → Nat → Int32} {L : Nat → Nat → Int64} {D : Nat → Nat} {v1 : Int32} {v2 : Int32} {s0 : Int32}
    (h1 : ¬ s0 = 0 → aw_z X (d + 1) y_M_readSum Q 156 [some (.ref 69), some (.int v1), some (.int v2), none] [] (aw_s I L D))
    (h2 : s0 = 0 → aw_m X d y_M_isSign [.ref 69, .int (47 : Int32)] (aw_s I L D) (fun r A => aw_z X (d + 1) y_M_readSum Q 150 [some (.ref 69), some (.int v1), some (.int v2), none] (r.toList ++ []) A)) :
    aw_z X (d + 1) y_M_readSum Q 141 [some (.ref 69), some (.int v1), some (.int v2), none] [.int s0] (aw_s I L D) :=
  (z_if_ne (tgt := 156) d_M_readSum_141 rfl (fun q1 => (h1 q1)) (fun q2 => (s_M_readSum_144.go [some (.ref 69), some (.int v1), some (.int v2), none] [.int (47 : Int32), .ref 69] (aw_s I L D) rfl (z_callV (av := [.int (47 : Int32)]) (st := []) ok_M_isSign (Or.inl w_1779) w_1781 w_77 k_M d_M_readSum_147 rfl (aw_lt (o := 69) rfl) rfl rfl (Nat.le_of_ble_eq_true rfl) (Nat.le_refl _) (Nat.le_refl _) (h2 q2)))))
theorem d_M_readSum_162 : decode y_M_readSum.2.1 162 = .ok (.ifCond .eq (7), 3) := by decide +kernel
theorem d_M_readSum_169 : decode y_M_readSum.2.1 169 = .ok (.aload_n 0, 1) := by decide +kernel
theorem d_M_readSum_170 : decode y_M_readSum.2.1 170 = .ok (.bipush 45, 2) := by decide +kernel
theorem s_M_readSum_169 : aw_VS y_M_readSum 169 [o_ald 0, o_c (.int (45 : Int32))] 172 := .cons (v_aload_n (i := 0) d_M_readSum_169 rfl) (.cons (v_bipush (v := (45 : Int32)) d_M_readSum_170 (by decide +kernel)) .nil)
theorem d_M_readSum_172 : decode y_M_readSum.2.1 172 = .ok (.invokevirtual 216, 3) := by decide +kernel
theorem d_M_readSum_165 : decode y_M_readSum.2.1 165 = .ok (.iconst 5, 1) := by decide +kernel
theorem s_M_readSum_165 : aw_VS y_M_readSum 165 [o_c (.int (5 : Int32))] 166 := .cons (v_iconst (v := (5 : Int32)) d_M_readSum_165 (by decide +kernel)) .nil
theorem d_M_readSum_166 : decode y_M_readSum.2.1 166 = .ok (.goto (33), 3) := by decide +kernel
theorem d_M_readSum_199 : decode y_M_readSum.2.1 199 = .ok (.istore_n 3, 1) := by decide +kernel
theorem s_M_readSum_199 : aw_VS y_M_readSum 199 [o_ist 3] 200 := .cons (v_istore_n d_M_readSum_199) .nil
theorem b_M_readSum_162 {X : aw_X} {d : Nat} {Q : Option Value → aw_H → Prop} {I : Nat → Nat → Int32} {L : Nat → Nat → Int64} {D : Nat → Nat} {v1 : Int32} {v2 : Int32} {s0 : Int32}
    (h1 : s0 = 0 → aw_m X d y_M_isSign [.ref 69, .int (45 : Int32)] (aw_s I L D) (fun r A => aw_z X (d + 1) y_M_readSum Q 175 [some (.ref 69), some (.int v1), some (.int v2), none] (r.toList ++ []) A))
    (h2 : ¬ s0 = 0 → aw_z X (d + 1) y_M_readSum Q 200 [some (.ref 69), some (.int v1), some (.int v2), some (.int (5 : Int32))] [] (aw_s I L D)) :
    aw_z X (d + 1) y_M_readSum Q 162 [some (.ref 69), some (.int v1), some (.int v2), none] [.int s0] (aw_s I L D) :=
  (z_if_eq (tgt := 169) d_M_readSum_162 rfl (fun q1 => (s_M_readSum_169.go [some (.ref 69), some (.int v1), some (.int v2), none] [.int (45 : Int32), .ref 69] (aw_s I L D) rfl (z_callV (av := [.int (45 : Int32)]) (st := []) ok_M_isSign (Or.inl w_1779) w_1781 w_77 k_M d_M_readSum_172 rfl (aw_lt (o := 69) rfl) rfl rfl (Nat.le_of_ble_eq_true rfl) (Nat.le_refl _) (Nat.le_refl _) (h1 q1)))) (fun q2 => (s_M_readSum_165.go [some (.ref 69), some (.int v1), some (.int v2), none] [.int (5 : Int32)] (aw_s I L D) rfl (z_goto (tgt := 199) d_M_readSum_166 rfl (s_M_readSum_199.go [some (.ref 69), some (.int v1), some (.int v2), some (.int (5 : Int32))] [] (aw_s I L D) rfl (h2 q2))))))
theorem d_M_readSum_150 : decode y_M_readSum.2.1 150 = .ok (.ifCond .ne (6), 3) := by decide +kernel
theorem d_M_readSum_153 : decode y_M_readSum.2.1 153 = .ok (.goto (148), 3) := by decide +kernel
theorem d_M_readSum_301 : decode y_M_readSum.2.1 301 = .ok (.aload_n 0, 1) := by decide +kernel
theorem d_M_readSum_302 : decode y_M_readSum.2.1 302 = .ok (.iload_n 1, 1) := by decide +kernel
theorem s_M_readSum_301 : aw_VS y_M_readSum 301 [o_ald 0, o_ild 1] 303 := .cons (v_aload_n (i := 0) d_M_readSum_301 rfl) (.cons (v_iload_n (i := 1) d_M_readSum_302 rfl) .nil)
theorem d_M_readSum_303 : decode y_M_readSum.2.1 303 = .ok (.invokevirtual 273, 3) := by decide +kernel
theorem b_M_readSum_150 {X : aw_X} {d : Nat} {Q : Option Value → aw_H → Prop} {I : Nat → Nat → Int32} {L : Nat → Nat → Int64} {D : Nat → Nat} {v1 : Int32} {v2 : Int32} {s0 : Int32}
    (h1 : ¬ s0 = 0 → aw_z X (d + 1) y_M_readSum Q 156 [some (.ref 69), some (.int v1), some (.int v2), none] [] (aw_s I L D))
    (h2 : s0 = 0 → aw_m X d y_M_isOpen [.ref 69, .int v1] (aw_s I L D) (fun r A => aw_z X (d + 1) y_M_readSum Q 306 [some (.ref 69), some (.int v1), none, none] (r.toList ++ []) A)) :
    aw_z X (d + 1) y_M_readSum Q 150 [some (.ref 69), some (.int v1), some (.int v2), none] [.int s0] (aw_s I L D) :=
  (z_if_ne (tgt := 156) d_M_readSum_150 rfl (fun q1 => (h1 q1)) (fun q2 => (z_goto (tgt := 301) d_M_readSum_153 rfl (s_M_readSum_301.go [some (.ref 69), some (.int v1), some (.int v2), none] [.int v1, .ref 69] (aw_s I L D) rfl (z_callV (av := [.int v1]) (st := []) ok_M_isOpen (Or.inl w_1876) w_1878 w_99 k_M d_M_readSum_303 rfl (aw_lt (o := 69) rfl) rfl rfl (Nat.le_of_ble_eq_true rfl) (Nat.le_refl _) (Nat.le_refl _) (aw_C.mono (h2 q2) (fun _ _ zz => aw_Z.weak (ls' := [some (.ref 69), some (.int v1), none, none]) zz (Nat.le_of_ble_eq_true rfl) ⟨Or.inr rfl, ⟨Or.inr rfl, ⟨Or.inl rfl, ⟨Or.inl rfl, trivial⟩⟩⟩⟩)))))))
theorem d_M_readSum_175 : decode y_M_readSum.2.1 175 = .ok (.ifCond .eq (8), 3) := by decide +kernel
theorem d_M_readSum_183 : decode y_M_readSum.2.1 183 = .ok (.aload_n 0, 1) := by decide +kernel
theorem d_M_readSum_184 : decode y_M_readSum.2.1 184 = .ok (.bipush 42, 2) := by decide +kernel
theorem s_M_readSum_183 : aw_VS y_M_readSum 183 [o_ald 0, o_c (.int (42 : Int32))] 186 := .cons (v_aload_n (i := 0) d_M_readSum_183 rfl) (.cons (v_bipush (v := (42 : Int32)) d_M_readSum_184 (by decide +kernel)) .nil)
theorem d_M_readSum_186 : decode y_M_readSum.2.1 186 = .ok (.invokevirtual 216, 3) := by decide +kernel
theorem d_M_readSum_178 : decode y_M_readSum.2.1 178 = .ok (.bipush 6, 2) := by decide +kernel
theorem s_M_readSum_178 : aw_VS y_M_readSum 178 [o_c (.int (6 : Int32))] 180 := .cons (v_bipush (v := (6 : Int32)) d_M_readSum_178 (by decide +kernel)) .nil
theorem d_M_readSum_180 : decode y_M_readSum.2.1 180 = .ok (.goto (19), 3) := by decide +kernel
theorem b_M_readSum_175 {X : aw_X} {d : Nat} {Q : Option Value → aw_H → Prop} {I : Nat → Nat → Int32} {L : Nat → Nat → Int64} {D : Nat → Nat} {v1 : Int32} {v2 : Int32} {s0 : Int32}
    (h1 : s0 = 0 → aw_m X d y_M_isSign [.ref 69, .int (42 : Int32)] (aw_s I L D) (fun r A => aw_z X (d + 1) y_M_readSum Q 189 [some (.ref 69), some (.int v1), some (.int v2), none] (r.toList ++ []) A))
    (h2 : ¬ s0 = 0 → aw_z X (d + 1) y_M_readSum Q 200 [some (.ref 69), some (.int v1), some (.int v2), some (.int (6 : Int32))] [] (aw_s I L D)) :
    aw_z X (d + 1) y_M_readSum Q 175 [some (.ref 69), some (.int v1), some (.int v2), none] [.int s0] (aw_s I L D) :=
  (z_if_eq (tgt := 183) d_M_readSum_175 rfl (fun q1 => (s_M_readSum_183.go [some (.ref 69), some (.int v1), some (.int v2), none] [.int (42 : Int32), .ref 69] (aw_s I L D) rfl (z_callV (av := [.int (42 : Int32)]) (st := []) ok_M_isSign (Or.inl w_1779) w_1781 w_77 k_M d_M_readSum_186 rfl (aw_lt (o := 69) rfl) rfl rfl (Nat.le_of_ble_eq_true rfl) (Nat.le_refl _) (Nat.le_refl _) (h1 q1)))) (fun q2 => (s_M_readSum_178.go [some (.ref 69), some (.int v1), some (.int v2), none] [.int (6 : Int32)] (aw_s I L D) rfl (z_goto (tgt := 199) d_M_readSum_180 rfl (s_M_readSum_199.go [some (.ref 69), some (.int v1), some (.int v2), some (.int (6 : Int32))] [] (aw_s I L D) rfl (h2 q2))))))
theorem d_M_readSum_200 : decode y_M_readSum.2.1 200 = .ok (.aload_n 0, 1) := by decide +kernel
theorem d_M_readSum_201 : decode y_M_readSum.2.1 201 = .ok (.getfield 231, 3) := by decide +kernel
theorem d_M_readSum_204 : decode y_M_readSum.2.1 204 = .ok (.iload_n 1, 1) := by decide +kernel
theorem s_M_readSum_200 : aw_VS y_M_readSum 200 [o_ald 0, o_getI 9 25, o_ild 1] 205 := .cons (v_aload_n (i := 0) d_M_readSum_200 rfl) (.cons (v_getI (k := 25) k_M (by decide) (Or.inl rfl) (Or.inl w_1486) d_M_readSum_201) (.cons (v_iload_n (i := 1) d_M_readSum_204 rfl) .nil))
theorem d_M_readSum_205 : decode y_M_readSum.2.1 205 = .ok (.if_icmp .le (60), 3) := by decide +kernel
theorem d_M_readSum_208 : decode y_M_readSum.2.1 208 = .ok (.aload_n 0, 1) := by decide +kernel
theorem d_M_readSum_209 : decode y_M_readSum.2.1 209 = .ok (.getfield 38, 3) := by decide +kernel
theorem d_M_readSum_212 : decode y_M_readSum.2.1 212 = .ok (.aload_n 0, 1) := by decide +kernel
theorem d_M_readSum_213 : decode y_M_readSum.2.1 213 = .ok (.getfield 231, 3) := by decide +kernel
theorem d_M_readSum_216 : decode y_M_readSum.2.1 216 = .ok (.iconst 1, 1) := by decide +kernel
theorem d_M_readSum_217 : decode y_M_readSum.2.1 217 = .ok (.isub, 1) := by decide +kernel
theorem s_M_readSum_208 : aw_VS y_M_readSum 208 [o_ald 0, o_getA 9 20, o_ald 0, o_getI 9 25, o_c (.int (1 : Int32)), o_i2 (fun x z => x - z)] 218 := .cons (v_aload_n (i := 0) d_M_readSum_208 rfl) (.cons (v_getA (k := 20) k_M (by decide) rfl (Or.inl w_1481) d_M_readSum_209) (.cons (v_aload_n (i := 0) d_M_readSum_212 rfl) (.cons (v_getI (k := 25) k_M (by decide) (Or.inl rfl) (Or.inl w_1486) d_M_readSum_213) (.cons (v_iconst (v := (1 : Int32)) d_M_readSum_216 (by decide +kernel)) (.cons (v_isub d_M_readSum_217) .nil)))))
theorem d_M_readSum_218 : decode y_M_readSum.2.1 218 = .ok (.iaload, 1) := by decide +kernel
theorem d_M_readSum_219 : decode y_M_readSum.2.1 219 = .ok (.iload_n 2, 1) := by decide +kernel
theorem s_M_readSum_219 : aw_VS y_M_readSum 219 [o_ild 2] 220 := .cons (v_iload_n (i := 2) d_M_readSum_219 rfl) .nil
theorem d_M_readSum_220 : decode y_M_readSum.2.1 220 = .ok (.ifCond .eq (7), 3) := by decide +kernel
theorem d_M_readSum_227 : decode y_M_readSum.2.1 227 = .ok (.bipush 7, 2) := by decide +kernel
theorem s_M_readSum_227 : aw_VS y_M_readSum 227 [o_c (.int (7 : Int32))] 229 := .cons (v_bipush (v := (7 : Int32)) d_M_readSum_227 (by decide +kernel)) .nil
theorem d_M_readSum_223 : decode y_M_readSum.2.1 223 = .ok (.iconst 5, 1) := by decide +kernel
theorem s_M_readSum_223 : aw_VS y_M_readSum 223 [o_c (.int (5 : Int32))] 224 := .cons (v_iconst (v := (5 : Int32)) d_M_readSum_223 (by decide +kernel)) .nil
theorem d_M_readSum_224 : decode y_M_readSum.2.1 224 = .ok (.goto (5), 3) := by decide +kernel
theorem b_M_readSum_200 {X : aw_X} {d : Nat} {Q : Option Value → aw_H → Prop} {I : Nat → Nat → Int32} {L : Nat → Nat → Int64} {D : Nat → Nat} {v1 : Int32} {v2 : Int32} {v3 : Int32}
    (h1 : (I 69 25) ≤ v1 → aw_z X (d + 1) y_M_readSum Q 265 [some (.ref 69), some (.int v1), none, some (.int v3)] [] (aw_s I L D))
    (h2 : ¬ (I 69 25) ≤ v1 → vp_in ((I 69 25) - (1 : Int32)) 200)
    (h3 : ¬ (I 69 25) ≤ v1 → v2 = 0 → aw_z X (d + 1) y_M_readSum Q 229 [some (.ref 69), some (.int v1), some (.int v2), some (.int v3)] [.int (7 : Int32), .int (I 79 (((I 69 25) - (1 : Int32)).toNatClampNeg))] (aw_s I L D))
    (h4 : ¬ (I 69 25) ≤ v1 → ¬ v2 = 0 → aw_z X (d + 1) y_M_readSum Q 229 [some (.ref 69), some (.int v1), some (.int v2), some (.int v3)] [.int (5 : Int32), .int (I 79 (((I 69 25) - (1 : Int32)).toNatClampNeg))] (aw_s I L D)) :
    aw_z X (d + 1) y_M_readSum Q 200 [some (.ref 69), some (.int v1), some (.int v2), some (.int v3)] [] (aw_s I L D) :=
  (s_M_readSum_200.go [some (.ref 69), some (.int v1), some (.int v2), some (.int v3)] [.int v1, .int (I 69 25)] (aw_s I L D) rfl (z_icmp_le (tgt := 265) d_M_readSum_205 rfl (fun q1 => (aw_Z.weak (ls' := [some (.ref 69), some (.int v1), none, some (.int v3)]) (h1 q1) (Nat.le_of_ble_eq_true rfl) ⟨Or.inr rfl, ⟨Or.inr rfl, ⟨Or.inl rfl, ⟨Or.inr rfl, trivial⟩⟩⟩⟩)) (fun q2 => (s_M_readSum_208.go [some (.ref 69), some (.int v1), some (.int v2), some (.int v3)] [.int ((I 69 25) - (1 : Int32)), .ref 79] (aw_s I L D) rfl (z_iald (n := 200) rfl (aw_lt (o := 79) rfl) (h2 q2) d_M_readSum_218 (s_M_readSum_219.go [some (.ref 69), some (.int v1), some (.int v2), some (.int v3)] [.int v2, .int (I 79 (((I 69 25) - (1 : Int32)).toNatClampNeg))] (aw_s I L D) rfl (z_if_eq (tgt := 227) d_M_readSum_220 rfl (fun q3 => (s_M_readSum_227.go [some (.ref 69), some (.int v1), some (.int v2), some (.int v3)] [.int (7 : Int32), .int (I 79 (((I 69 25) - (1 : Int32)).toNatClampNeg))] (aw_s I L D) rfl (h3 q2 q3))) (fun q4 => (s_M_readSum_223.go [some (.ref 69), some (.int v1), some (.int v2), some (.int v3)] [.int (5 : Int32), .int (I 79 (((I 69 25) - (1 : Int32)).toNatClampNeg))] (aw_s I L D) rfl (z_goto (tgt := 229) d_M_readSum_224 rfl (h4 q2 q4)))))))))))
theorem d_M_readSum_306 : decode y_M_readSum.2.1 306 = .ok (.ifCond .eq (9), 3) := by decide +kernel
theorem d_M_readSum_309 : decode y_M_readSum.2.1 309 = .ok (.aload_n 0, 1) := by decide +kernel
theorem d_M_readSum_310 : decode y_M_readSum.2.1 310 = .ok (.iconst 1, 1) := by decide +kernel
theorem s_M_readSum_309 : aw_VS y_M_readSum 309 [o_ald 0, o_c (.int (1 : Int32))] 311 := .cons (v_aload_n (i := 0) d_M_readSum_309 rfl) (.cons (v_iconst (v := (1 : Int32)) d_M_readSum_310 (by decide +kernel)) .nil)
theorem d_M_readSum_311 : decode y_M_readSum.2.1 311 = .ok (.invokevirtual 219, 3) := by decide +kernel
theorem b_M_readSum_306 {X : aw_X} {d : Nat} {Q : Option Value → aw_H → Prop} {I : Nat → Nat → Int32} {L : Nat → Nat → Int64} {D : Nat → Nat} {v1 : Int32} {s0 : Int32}
    (h1 : s0 = 0 → aw_z X (d + 1) y_M_readSum Q 315 [some (.ref 69), some (.int v1), none, none] [] (aw_s I L D))
    (h2 : ¬ s0 = 0 → aw_m X d y_M_bad [.ref 69, .int (1 : Int32)] (aw_s I L D) (fun r A => aw_z X (d + 1) y_M_readSum Q 314 [none, none, none, none] (r.toList ++ []) A)) :
    aw_z X (d + 1) y_M_readSum Q 306 [some (.ref 69), some (.int v1), none, none] [.int s0] (aw_s I L D) :=
  (z_if_eq (tgt := 315) d_M_readSum_306 rfl (fun q1 => (h1 q1)) (fun q2 => (s_M_readSum_309.go [some (.ref 69), some (.int v1), none, none] [.int (1 : Int32), .ref 69] (aw_s I L D) rfl (z_callV (av := [.int (1 : Int32)]) (st := []) ok_M_bad (Or.inl w_1806) w_1808 w_83 k_M d_M_readSum_311 rfl (aw_lt (o := 69) rfl) rfl rfl (Nat.le_of_ble_eq_true rfl) (Nat.le_refl _) (Nat.le_refl _) (aw_C.mono (h2 q2) (fun _ _ zz => aw_Z.weak (ls' := [none, none, none, none]) zz (Nat.le_of_ble_eq_true rfl) ⟨Or.inl rfl, ⟨Or.inl rfl, ⟨Or.inl rfl, ⟨Or.inl rfl, trivial⟩⟩⟩⟩))))))
theorem d_M_readSum_189 : decode y_M_readSum.2.1 189 = .ok (.ifCond .eq (8), 3) := by decide +kernel
theorem d_M_readSum_197 : decode y_M_readSum.2.1 197 = .ok (.bipush 8, 2) := by decide +kernel
theorem s_M_readSum_197 : aw_VS y_M_readSum 197 [o_c (.int (8 : Int32))] 199 := .cons (v_bipush (v := (8 : Int32)) d_M_readSum_197 (by decide +kernel)) .nil
theorem d_M_readSum_192 : decode y_M_readSum.2.1 192 = .ok (.bipush 7, 2) := by decide +kernel
theorem s_M_readSum_192 : aw_VS y_M_readSum 192 [o_c (.int (7 : Int32))] 194 := .cons (v_bipush (v := (7 : Int32)) d_M_readSum_192 (by decide +kernel)) .nil
theorem d_M_readSum_194 : decode y_M_readSum.2.1 194 = .ok (.goto (5), 3) := by decide +kernel
theorem b_M_readSum_189 {X : aw_X} {d : Nat} {Q : Option Value → aw_H → Prop} {I : Nat → Nat → Int32} {L : Nat → Nat → Int64} {D : Nat → Nat} {v1 : Int32} {v2 : Int32} {s0 : Int32}
    (h1 : s0 = 0 → aw_z X (d + 1) y_M_readSum Q 200 [some (.ref 69), some (.int v1), some (.int v2), some (.int (8 : Int32))] [] (aw_s I L D))
    (h2 : ¬ s0 = 0 → aw_z X (d + 1) y_M_readSum Q 200 [some (.ref 69), some (.int v1), some (.int v2), some (.int (7 : Int32))] [] (aw_s I L D)) :
    aw_z X (d + 1) y_M_readSum Q 189 [some (.ref 69), some (.int v1), some (.int v2), none] [.int s0] (aw_s I L D) :=
  (z_if_eq (tgt := 197) d_M_readSum_189 rfl (fun q1 => (s_M_readSum_197.go [some (.ref 69), some (.int v1), some (.int v2), none] [.int (8 : Int32)] (aw_s I L D) rfl (s_M_readSum_199.go [some (.ref 69), some (.int v1), some (.int v2), some (.int (8 : Int32))] [] (aw_s I L D) rfl (h1 q1)))) (fun q2 => (s_M_readSum_192.go [some (.ref 69), some (.int v1), some (.int v2), none] [.int (7 : Int32)] (aw_s I L D) rfl (z_goto (tgt := 199) d_M_readSum_194 rfl (s_M_readSum_199.go [some (.ref 69), some (.int v1), some (.int v2), some (.int (7 : Int32))] [] (aw_s I L D) rfl (h2 q2))))))
theorem d_M_readSum_265 : decode y_M_readSum.2.1 265 = .ok (.aload_n 0, 1) := by decide +kernel
theorem d_M_readSum_266 : decode y_M_readSum.2.1 266 = .ok (.getfield 38, 3) := by decide +kernel
theorem d_M_readSum_269 : decode y_M_readSum.2.1 269 = .ok (.aload_n 0, 1) := by decide +kernel
theorem d_M_readSum_270 : decode y_M_readSum.2.1 270 = .ok (.getfield 231, 3) := by decide +kernel
theorem d_M_readSum_273 : decode y_M_readSum.2.1 273 = .ok (.iload_n 3, 1) := by decide +kernel
theorem s_M_readSum_265 : aw_VS y_M_readSum 265 [o_ald 0, o_getA 9 20, o_ald 0, o_getI 9 25, o_ild 3] 274 := .cons (v_aload_n (i := 0) d_M_readSum_265 rfl) (.cons (v_getA (k := 20) k_M (by decide) rfl (Or.inl w_1481) d_M_readSum_266) (.cons (v_aload_n (i := 0) d_M_readSum_269 rfl) (.cons (v_getI (k := 25) k_M (by decide) (Or.inl rfl) (Or.inl w_1486) d_M_readSum_270) (.cons (v_iload_n (i := 3) d_M_readSum_273 rfl) .nil))))
theorem d_M_readSum_274 : decode y_M_readSum.2.1 274 = .ok (.iastore, 1) := by decide +kernel
theorem d_M_readSum_275 : decode y_M_readSum.2.1 275 = .ok (.aload_n 0, 1) := by decide +kernel
theorem d_M_readSum_276 : decode y_M_readSum.2.1 276 = .ok (.dup, 1) := by decide +kernel
theorem d_M_readSum_277 : decode y_M_readSum.2.1 277 = .ok (.getfield 231, 3) := by decide +kernel
theorem d_M_readSum_280 : decode y_M_readSum.2.1 280 = .ok (.iconst 1, 1) := by decide +kernel
theorem d_M_readSum_281 : decode y_M_readSum.2.1 281 = .ok (.iadd, 1) := by decide +kernel
theorem d_M_readSum_282 : decode y_M_readSum.2.1 282 = .ok (.putfield 231, 3) := by decide +kernel
theorem d_M_readSum_285 : decode y_M_readSum.2.1 285 = .ok (.aload_n 0, 1) := by decide +kernel
theorem s_M_readSum_275 : aw_VS y_M_readSum 275 [o_ald 0, o_dup, o_getI 9 25, o_c (.int (1 : Int32)), o_i2 (fun x z => x + z), o_putI 9 25, o_ald 0] 286 := .cons (v_aload_n (i := 0) d_M_readSum_275 rfl) (.cons (v_dup d_M_readSum_276) (.cons (v_getI (k := 25) k_M (by decide) (Or.inl rfl) (Or.inl w_1486) d_M_readSum_277) (.cons (v_iconst (v := (1 : Int32)) d_M_readSum_280 (by decide +kernel)) (.cons (v_iadd d_M_readSum_281) (.cons (v_putI (k := 25) k_M (by decide) rfl (Or.inl ⟨rfl, Or.inl w_1486⟩) d_M_readSum_282) (.cons (v_aload_n (i := 0) d_M_readSum_285 rfl) .nil))))))
theorem d_M_readSum_286 : decode y_M_readSum.2.1 286 = .ok (.invokevirtual 222, 3) := by decide +kernel
theorem b_M_readSum_265 {X : aw_X} {d : Nat} {Q : Option Value → aw_H → Prop} {I : Nat → Nat → Int32} {L : Nat → Nat → Int64} {D : Nat → Nat} {v1 : Int32} {v3 : Int32}
    (h1 : vp_in (I 69 25) 200)
    (h2 : aw_m X d y_M_go [.ref 69] (aw_s (aw_u (aw_u I 79 ((I 69 25).toNatClampNeg) v3) 69 25 ((I 69 25) + (1 : Int32))) L D) (fun r A => aw_z X (d + 1) y_M_readSum Q 289 [some (.ref 69), some (.int v1), none, none] (r.toList ++ []) A)) :
    aw_z X (d + 1) y_M_readSum Q 265 [some (.ref 69), some (.int v1), none, some (.int v3)] [] (aw_s I L D) :=
  (s_M_readSum_265.go [some (.ref 69), some (.int v1), none, some (.int v3)] [.int v3, .int (I 69 25), .ref 79] (aw_s I L D) rfl (z_iast (n := 200) rfl (aw_lt (o := 79) rfl) (h1) d_M_readSum_274 (s_M_readSum_275.go [some (.ref 69), some (.int v1), none, some (.int v3)] [.ref 69] (aw_s (aw_u (aw_u I 79 ((I 69 25).toNatClampNeg) v3) 69 25 ((I 69 25) + (1 : Int32))) L D) rfl (z_callV (av := []) (st := []) ok_M_go (Or.inl w_1760) w_1762 w_75 k_M d_M_readSum_286 rfl (aw_lt (o := 69) rfl) rfl rfl (Nat.le_of_ble_eq_true rfl) (Nat.le_refl _) (Nat.le_refl _) (aw_C.mono (h2) (fun _ _ zz => aw_Z.weak (ls' := [some (.ref 69), some (.int v1), none, none]) zz (Nat.le_of_ble_eq_true rfl) ⟨Or.inr rfl, ⟨Or.inr rfl, ⟨Or.inl rfl, ⟨Or.inl rfl, trivial⟩⟩⟩⟩))))))
theorem d_M_readSum_229 : decode y_M_readSum.2.1 229 = .ok (.bipush 8, 2) := by decide +kernel
theorem s_M_readSum_229 : aw_VS y_M_readSum 229 [o_c (.int (8 : Int32))] 231 := .cons (v_bipush (v := (8 : Int32)) d_M_readSum_229 (by decide +kernel)) .nil
theorem d_M_readSum_231 : decode y_M_readSum.2.1 231 = .ok (.invokestatic 234, 3) := by decide +kernel
theorem b_M_readSum_229 {X : aw_X} {d : Nat} {Q : Option Value → aw_H → Prop} {I : Nat → Nat → Int32} {L : Nat → Nat → Int64} {D : Nat → Nat} {v1 : Int32} {v2 : Int32} {v3 : Int32} {s1 : Int32} {s0 : Int32}
    (h1 : aw_m X d y_M_isIn [.int s0, .int s1, .int (8 : Int32)] (aw_s I L D) (fun r A => aw_z X (d + 1) y_M_readSum Q 234 [some (.ref 69), some (.int v1), some (.int v2), some (.int v3)] (r.toList ++ []) A)) :
    aw_z X (d + 1) y_M_readSum Q 229 [some (.ref 69), some (.int v1), some (.int v2), some (.int v3)] [.int s1, .int s0] (aw_s I L D) :=
  (s_M_readSum_229.go [some (.ref 69), some (.int v1), some (.int v2), some (.int v3)] [.int (8 : Int32), .int s1, .int s0] (aw_s I L D) rfl (z_callS (av := [.int s0, .int s1, .int (8 : Int32)]) (st := []) ok_M_isIn (Or.inl w_1873) w_1874 d_M_readSum_231 rfl rfl (Nat.le_of_ble_eq_true rfl) (Nat.le_refl _) (Nat.le_refl _) (h1)))
theorem d_M_readSum_315 : decode y_M_readSum.2.1 315 = .ok (.aload_n 0, 1) := by decide +kernel
theorem d_M_readSum_316 : decode y_M_readSum.2.1 316 = .ok (.getfield 231, 3) := by decide +kernel
theorem d_M_readSum_319 : decode y_M_readSum.2.1 319 = .ok (.iload_n 1, 1) := by decide +kernel
theorem s_M_readSum_315 : aw_VS y_M_readSum 315 [o_ald 0, o_getI 9 25, o_ild 1] 320 := .cons (v_aload_n (i := 0) d_M_readSum_315 rfl) (.cons (v_getI (k := 25) k_M (by decide) (Or.inl rfl) (Or.inl w_1486) d_M_readSum_316) (.cons (v_iload_n (i := 1) d_M_readSum_319 rfl) .nil))
theorem d_M_readSum_320 : decode y_M_readSum.2.1 320 = .ok (.if_icmp .le (31), 3) := by decide +kernel
theorem d_M_readSum_351 : decode y_M_readSum.2.1 351 = .ok (.iconst 1, 1) := by decide +kernel
theorem s_M_readSum_351 : aw_VS y_M_readSum 351 [o_c (.int (1 : Int32))] 352 := .cons (v_iconst (v := (1 : Int32)) d_M_readSum_351 (by decide +kernel)) .nil
theorem d_M_readSum_352 : decode y_M_readSum.2.1 352 = .ok (.ireturn, 1) := by decide +kernel
theorem d_M_readSum_323 : decode y_M_readSum.2.1 323 = .ok (.aload_n 0, 1) := by decide +kernel
theorem d_M_readSum_324 : decode y_M_readSum.2.1 324 = .ok (.dup, 1) := by decide +kernel
theorem d_M_readSum_325 : decode y_M_readSum.2.1 325 = .ok (.getfield 231, 3) := by decide +kernel
theorem d_M_readSum_328 : decode y_M_readSum.2.1 328 = .ok (.iconst 1, 1) := by decide +kernel
theorem d_M_readSum_329 : decode y_M_readSum.2.1 329 = .ok (.isub, 1) := by decide +kernel
theorem d_M_readSum_330 : decode y_M_readSum.2.1 330 = .ok (.putfield 231, 3) := by decide +kernel
theorem d_M_readSum_333 : decode y_M_readSum.2.1 333 = .ok (.aload_n 0, 1) := by decide +kernel
theorem d_M_readSum_334 : decode y_M_readSum.2.1 334 = .ok (.aload_n 0, 1) := by decide +kernel
theorem d_M_readSum_335 : decode y_M_readSum.2.1 335 = .ok (.getfield 38, 3) := by decide +kernel
theorem d_M_readSum_338 : decode y_M_readSum.2.1 338 = .ok (.aload_n 0, 1) := by decide +kernel
theorem d_M_readSum_339 : decode y_M_readSum.2.1 339 = .ok (.getfield 231, 3) := by decide +kernel
theorem s_M_readSum_323 : aw_VS y_M_readSum 323 [o_ald 0, o_dup, o_getI 9 25, o_c (.int (1 : Int32)), o_i2 (fun x z => x - z), o_putI 9 25, o_ald 0, o_ald 0, o_getA 9 20, o_ald 0, o_getI 9 25] 342 := .cons (v_aload_n (i := 0) d_M_readSum_323 rfl) (.cons (v_dup d_M_readSum_324) (.cons (v_getI (k := 25) k_M (by decide) (Or.inl rfl) (Or.inl w_1486) d_M_readSum_325) (.cons (v_iconst (v := (1 : Int32)) d_M_readSum_328 (by decide +kernel)) (.cons (v_isub d_M_readSum_329) (.cons (v_putI (k := 25) k_M (by decide) rfl (Or.inl ⟨rfl, Or.inl w_1486⟩) d_M_readSum_330) (.cons (v_aload_n (i := 0) d_M_readSum_333 rfl) (.cons (v_aload_n (i := 0) d_M_readSum_334 rfl) (.cons (v_getA (k := 20) k_M (by decide) rfl (Or.inl w_1481) d_M_readSum_335) (.cons (v_aload_n (i := 0) d_M_readSum_338 rfl) (.cons (v_getI (k := 25) k_M (by decide) (Or.inl rfl) (Or.inl w_1486) d_M_readSum_339) .nil))))))))))
theorem d_M_readSum_342 : decode y_M_readSum.2.1 342 = .ok (.iaload, 1) := by decide +kernel
theorem d_M_readSum_343 : decode y_M_readSum.2.1 343 = .ok (.iconst 0, 1) := by decide +kernel
theorem s_M_readSum_343 : aw_VS y_M_readSum 343 [o_c (.int (0 : Int32))] 344 := .cons (v_iconst (v := (0 : Int32)) d_M_readSum_343 (by decide +kernel)) .nil
theorem d_M_readSum_344 : decode y_M_readSum.2.1 344 = .ok (.invokevirtual 238, 3) := by decide +kernel
theorem b_M_readSum_315 {X : aw_X} {d : Nat} {Q : Option Value → aw_H → Prop} {I : Nat → Nat → Int32} {L : Nat → Nat → Int64} {D : Nat → Nat} {v1 : Int32}
    (h1 : (I 69 25) ≤ v1 → Q (some (.int (1 : Int32))) (aw_s I L D))
    (h2 : ¬ (I 69 25) ≤ v1 → vp_in ((I 69 25) - (1 : Int32)) 200)
    (h3 : ¬ (I 69 25) ≤ v1 → aw_m X d y_M_emit [.ref 69, .int (I 79 (((I 69 25) - (1 : Int32)).toNatClampNeg)), .int (0 : Int32)] (aw_s (aw_u I 69 25 ((I 69 25) - (1 : Int32))) L D) (fun r A => aw_z X (d + 1) y_M_readSum Q 347 [some (.ref 69), some (.int v1), none, none] (r.toList ++ []) A)) :
    aw_z X (d + 1) y_M_readSum Q 315 [some (.ref 69), some (.int v1), none, none] [] (aw_s I L D) :=
  (s_M_readSum_315.go [some (.ref 69), some (.int v1), none, none] [.int v1, .int (I 69 25)] (aw_s I L D) rfl (z_icmp_le (tgt := 351) d_M_readSum_320 rfl (fun q1 => (s_M_readSum_351.go [some (.ref 69), some (.int v1), none, none] [.int (1 : Int32)] (aw_s I L D) rfl (z_iret d_M_readSum_352 rfl (aw_nz (by decide +kernel)) (h1 q1)))) (fun q2 => (s_M_readSum_323.go [some (.ref 69), some (.int v1), none, none] [.int ((I 69 25) - (1 : Int32)), .ref 79, .ref 69] (aw_s (aw_u I 69 25 ((I 69 25) - (1 : Int32))) L D) rfl (z_iald (n := 200) rfl (aw_lt (o := 79) rfl) (h2 q2) d_M_readSum_342 (s_M_readSum_343.go [some (.ref 69), some (.int v1), none, none] [.int (0 : Int32), .int (I 79 (((I 69 25) - (1 : Int32)).toNatClampNeg)), .ref 69] (aw_s (aw_u I 69 25 ((I 69 25) - (1 : Int32))) L D) rfl (z_callV (av := [.int (I 79 (((I 69 25) - (1 : Int32)).toNatClampNeg)), .int (0 : Int32)]) (st := []) ok_M_emit (Or.inl w_1787) w_1789 w_79 k_M d_M_readSum_344 rfl (aw_lt (o := 69) rfl) rfl rfl (Nat.le_of_ble_eq_true rfl) (Nat.le_refl _) (Nat.le_refl _) (h3 q2))))))))
theorem d_M_readSum_314 : decode y_M_readSum.2.1 314 = .ok (.ireturn, 1) := by decide +kernel
theorem b_M_readSum_314 {X : aw_X} {d : Nat} {Q : Option Value → aw_H → Prop} {I : Nat → Nat → Int32} {L : Nat → Nat → Int64} {D : Nat → Nat} {s0 : Int32}
    (h1 : (s0 = 0 ∨ s0 = 1))
    (h2 : Q (some (.int s0)) (aw_s I L D)) :
    aw_z X (d + 1) y_M_readSum Q 314 [none, none, none, none] [.int s0] (aw_s I L D) :=
  (z_iret d_M_readSum_314 rfl (aw_nz (h1)) (h2))
theorem d_M_readSum_289 : decode y_M_readSum.2.1 289 = .ok (.aload_n 0, 1) := by decide +kernel
theorem s_M_readSum_289 : aw_VS y_M_readSum 289 [o_ald 0] 290 := .cons (v_aload_n (i := 0) d_M_readSum_289 rfl) .nil
theorem d_M_readSum_290 : decode y_M_readSum.2.1 290 = .ok (.invokevirtual 262, 3) := by decide +kernel
theorem b_M_readSum_289 {X : aw_X} {d : Nat} {Q : Option Value → aw_H → Prop} {I : Nat → Nat → Int32} {L : Nat → Nat → Int64} {D : Nat → Nat} {v1 : Int32}
    (h1 : aw_m X d y_M_readUnit [.ref 69] (aw_s I L D) (fun r A => aw_z X (d + 1) y_M_readSum Q 293 [some (.ref 69), some (.int v1), none, none] (r.toList ++ []) A)) :
    aw_z X (d + 1) y_M_readSum Q 289 [some (.ref 69), some (.int v1), none, none] [] (aw_s I L D) :=
  (s_M_readSum_289.go [some (.ref 69), some (.int v1), none, none] [.ref 69] (aw_s I L D) rfl (z_callV (av := []) (st := []) ok_M_readUnit (Or.inl w_1861) w_1863 w_96 k_M d_M_readSum_290 rfl (aw_lt (o := 69) rfl) rfl rfl (Nat.le_of_ble_eq_true rfl) (Nat.le_refl _) (Nat.le_refl _) (h1)))
theorem d_M_readSum_234 : decode y_M_readSum.2.1 234 = .ok (.ifCond .eq (31), 3) := by decide +kernel
theorem d_M_readSum_237 : decode y_M_readSum.2.1 237 = .ok (.aload_n 0, 1) := by decide +kernel
theorem d_M_readSum_238 : decode y_M_readSum.2.1 238 = .ok (.dup, 1) := by decide +kernel
theorem d_M_readSum_239 : decode y_M_readSum.2.1 239 = .ok (.getfield 231, 3) := by decide +kernel
theorem d_M_readSum_242 : decode y_M_readSum.2.1 242 = .ok (.iconst 1, 1) := by decide +kernel
theorem d_M_readSum_243 : decode y_M_readSum.2.1 243 = .ok (.isub, 1) := by decide +kernel
theorem d_M_readSum_244 : decode y_M_readSum.2.1 244 = .ok (.putfield 231, 3) := by decide +kernel
theorem d_M_readSum_247 : decode y_M_readSum.2.1 247 = .ok (.aload_n 0, 1) := by decide +kernel
theorem d_M_readSum_248 : decode y_M_readSum.2.1 248 = .ok (.aload_n 0, 1) := by decide +kernel
theorem d_M_readSum_249 : decode y_M_readSum.2.1 249 = .ok (.getfield 38, 3) := by decide +kernel
theorem d_M_readSum_252 : decode y_M_readSum.2.1 252 = .ok (.aload_n 0, 1) := by decide +kernel
theorem d_M_readSum_253 : decode y_M_readSum.2.1 253 = .ok (.getfield 231, 3) := by decide +kernel
theorem s_M_readSum_237 : aw_VS y_M_readSum 237 [o_ald 0, o_dup, o_getI 9 25, o_c (.int (1 : Int32)), o_i2 (fun x z => x - z), o_putI 9 25, o_ald 0, o_ald 0, o_getA 9 20, o_ald 0, o_getI 9 25] 256 := .cons (v_aload_n (i := 0) d_M_readSum_237 rfl) (.cons (v_dup d_M_readSum_238) (.cons (v_getI (k := 25) k_M (by decide) (Or.inl rfl) (Or.inl w_1486) d_M_readSum_239) (.cons (v_iconst (v := (1 : Int32)) d_M_readSum_242 (by decide +kernel)) (.cons (v_isub d_M_readSum_243) (.cons (v_putI (k := 25) k_M (by decide) rfl (Or.inl ⟨rfl, Or.inl w_1486⟩) d_M_readSum_244) (.cons (v_aload_n (i := 0) d_M_readSum_247 rfl) (.cons (v_aload_n (i := 0) d_M_readSum_248 rfl) (.cons (v_getA (k := 20) k_M (by decide) rfl (Or.inl w_1481) d_M_readSum_249) (.cons (v_aload_n (i := 0) d_M_readSum_252 rfl) (.cons (v_getI (k := 25) k_M (by decide) (Or.inl rfl) (Or.inl w_1486) d_M_readSum_253) .nil))))))))))
theorem d_M_readSum_256 : decode y_M_readSum.2.1 256 = .ok (.iaload, 1) := by decide +kernel
theorem d_M_readSum_257 : decode y_M_readSum.2.1 257 = .ok (.iconst 0, 1) := by decide +kernel
theorem s_M_readSum_257 : aw_VS y_M_readSum 257 [o_c (.int (0 : Int32))] 258 := .cons (v_iconst (v := (0 : Int32)) d_M_readSum_257 (by decide +kernel)) .nil
theorem d_M_readSum_258 : decode y_M_readSum.2.1 258 = .ok (.invokevirtual 238, 3) := by decide +kernel
theorem b_M_readSum_234 {X : aw_X} {d : Nat} {Q : Option Value → aw_H → Prop} {I : Nat → Nat → Int32} {L : Nat → Nat → Int64} {D : Nat → Nat} {v1 : Int32} {v2 : Int32} {v3 : Int32} {s0 : Int32}
    (h1 : s0 = 0 → aw_z X (d + 1) y_M_readSum Q 265 [some (.ref 69), some (.int v1), none, some (.int v3)] [] (aw_s I L D))
    (h2 : ¬ s0 = 0 → vp_in ((I 69 25) - (1 : Int32)) 200)
    (h3 : ¬ s0 = 0 → aw_m X d y_M_emit [.ref 69, .int (I 79 (((I 69 25) - (1 : Int32)).toNatClampNeg)), .int (0 : Int32)] (aw_s (aw_u I 69 25 ((I 69 25) - (1 : Int32))) L D) (fun r A => aw_z X (d + 1) y_M_readSum Q 261 [some (.ref 69), some (.int v1), some (.int v2), some (.int v3)] (r.toList ++ []) A)) :
    aw_z X (d + 1) y_M_readSum Q 234 [some (.ref 69), some (.int v1), some (.int v2), some (.int v3)] [.int s0] (aw_s I L D) :=
  (z_if_eq (tgt := 265) d_M_readSum_234 rfl (fun q1 => (aw_Z.weak (ls' := [some (.ref 69), some (.int v1), none, some (.int v3)]) (h1 q1) (Nat.le_of_ble_eq_true rfl) ⟨Or.inr rfl, ⟨Or.inr rfl, ⟨Or.inl rfl, ⟨Or.inr rfl, trivial⟩⟩⟩⟩)) (fun q2 => (s_M_readSum_237.go [some (.ref 69), some (.int v1), some (.int v2), some (.int v3)] [.int ((I 69 25) - (1 : Int32)), .ref 79, .ref 69] (aw_s (aw_u I 69 25 ((I 69 25) - (1 : Int32))) L D) rfl (z_iald (n := 200) rfl (aw_lt (o := 79) rfl) (h2 q2) d_M_readSum_256 (s_M_readSum_257.go [some (.ref 69), some (.int v1), some (.int v2), some (.int v3)] [.int (0 : Int32), .int (I 79 (((I 69 25) - (1 : Int32)).toNatClampNeg)), .ref 69] (aw_s (aw_u I 69 25 ((I 69 25) - (1 : Int32))) L D) rfl (z_callV (av := [.int (I 79 (((I 69 25) - (1 : Int32)).toNatClampNeg)), .int (0 : Int32)]) (st := []) ok_M_emit (Or.inl w_1787) w_1789 w_79 k_M d_M_readSum_258 rfl (aw_lt (o := 69) rfl) rfl rfl (Nat.le_of_ble_eq_true rfl) (Nat.le_refl _) (Nat.le_refl _) (h3 q2)))))))
theorem d_M_readSum_347 : decode y_M_readSum.2.1 347 = .ok (.pop, 1) := by decide +kernel
theorem s_M_readSum_347 : aw_VS y_M_readSum 347 [o_pop] 348 := .cons (v_pop d_M_readSum_347) .nil
theorem d_M_readSum_348 : decode y_M_readSum.2.1 348 = .ok (.goto (-33), 3) := by decide +kernel
theorem b_M_readSum_347 {X : aw_X} {d : Nat} {Q : Option Value → aw_H → Prop} {I : Nat → Nat → Int32} {L : Nat → Nat → Int64} {D : Nat → Nat} {v1 : Int32} {s0 : Int32}
    (h1 : aw_z X (d + 1) y_M_readSum Q 315 [some (.ref 69), some (.int v1), none, none] [] (aw_s I L D)) :
    aw_z X (d + 1) y_M_readSum Q 347 [some (.ref 69), some (.int v1), none, none] [.int s0] (aw_s I L D) :=
  (s_M_readSum_347.go [some (.ref 69), some (.int v1), none, none] [] (aw_s I L D) rfl (z_goto (tgt := 315) d_M_readSum_348 rfl (h1)))
theorem d_M_readSum_293 : decode y_M_readSum.2.1 293 = .ok (.ifCond .ne (5), 3) := by decide +kernel
theorem d_M_readSum_298 : decode y_M_readSum.2.1 298 = .ok (.goto (-284), 3) := by decide +kernel
theorem d_M_readSum_296 : decode y_M_readSum.2.1 296 = .ok (.iconst 0, 1) := by decide +kernel
theorem s_M_readSum_296 : aw_VS y_M_readSum 296 [o_c (.int (0 : Int32))] 297 := .cons (v_iconst (v := (0 : Int32)) d_M_readSum_296 (by decide +kernel)) .nil
theorem d_M_readSum_297 : decode y_M_readSum.2.1 297 = .ok (.ireturn, 1) := by decide +kernel
theorem b_M_readSum_293 {X : aw_X} {d : Nat} {Q : Option Value → aw_H → Prop} {I : Nat → Nat → Int32} {L : Nat → Nat → Int64} {D : Nat → Nat} {v1 : Int32} {s0 : Int32}
    (h1 : ¬ s0 = 0 → aw_z X (d + 1) y_M_readSum Q 14 [some (.ref 69), some (.int v1), none, none] [] (aw_s I L D))
    (h2 : s0 = 0 → Q (some (.int (0 : Int32))) (aw_s I L D)) :
    aw_z X (d + 1) y_M_readSum Q 293 [some (.ref 69), some (.int v1), none, none] [.int s0] (aw_s I L D) :=
  (z_if_ne (tgt := 298) d_M_readSum_293 rfl (fun q1 => (z_goto (tgt := 14) d_M_readSum_298 rfl (h1 q1))) (fun q2 => (s_M_readSum_296.go [some (.ref 69), some (.int v1), none, none] [.int (0 : Int32)] (aw_s I L D) rfl (z_iret d_M_readSum_297 rfl (aw_nz (by decide +kernel)) (h2 q2)))))
theorem d_M_readSum_261 : decode y_M_readSum.2.1 261 = .ok (.pop, 1) := by decide +kernel
theorem s_M_readSum_261 : aw_VS y_M_readSum 261 [o_pop] 262 := .cons (v_pop d_M_readSum_261) .nil
theorem d_M_readSum_262 : decode y_M_readSum.2.1 262 = .ok (.goto (-62), 3) := by decide +kernel
theorem b_M_readSum_261 {X : aw_X} {d : Nat} {Q : Option Value → aw_H → Prop} {I : Nat → Nat → Int32} {L : Nat → Nat → Int64} {D : Nat → Nat} {v1 : Int32} {v2 : Int32} {v3 : Int32} {s0 : Int32}
    (h1 : aw_z X (d + 1) y_M_readSum Q 200 [some (.ref 69), some (.int v1), some (.int v2), some (.int v3)] [] (aw_s I L D)) :
    aw_z X (d + 1) y_M_readSum Q 261 [some (.ref 69), some (.int v1), some (.int v2), some (.int v3)] [.int s0] (aw_s I L D) :=
  (s_M_readSum_261.go [some (.ref 69), some (.int v1), some (.int v2), some (.int v3)] [] (aw_s I L D) rfl (z_goto (tgt := 200) d_M_readSum_262 rfl (h1)))
/-! M_readUnit -/
theorem d_M_readUnit_0 : decode y_M_readUnit.2.1 0 = .ok (.aload_n 0, 1) := by decide +kernel
theorem d_M_readUnit_1 : decode y_M_readUnit.2.1 1 = .ok (.bipush 99, 2) := by decide +kernel
theorem d_M_readUnit_3 : decode y_M_readUnit.2.1 3 = .ok (.bipush 101, 2) := by decide +kernel
theorem d_M_readUnit_5 : decode y_M_readUnit.2.1 5 = .ok (.bipush 108, 2) := by decide +kernel
theorem d_M_readUnit_7 : decode y_M_readUnit.2.1 7 = .ok (.bipush 108, 2) := by decide +kernel
theorem d_M_readUnit_9 : decode y_M_readUnit.2.1 9 = .ok (.iconst 0, 1) := by decide +kernel
theorem s_M_readUnit_0 : aw_VS y_M_readUnit 0 [o_ald 0, o_c (.int (99 : Int32)), o_c (.int (101 : Int32)), o_c (.int (108 : Int32)), o_c (.int (108 : Int32)), o_c (.int (0 : Int32))] 10 := .cons (v_aload_n (i := 0) d_M_readUnit_0 rfl) (.cons (v_bipush (v := (99 : Int32)) d_M_readUnit_1 (by decide +kernel)) (.cons (v_bipush (v := (101 : Int32)) d_M_readUnit_3 (by decide +kernel)) (.cons (v_bipush (v := (108 : Int32)) d_M_readUnit_5 (by decide +kernel)) (.cons (v_bipush (v := (108 : Int32)) d_M_readUnit_7 (by decide +kernel)) (.cons (v_iconst (v := (0 : Int32)) d_M_readUnit_9 (by decide +kernel)) .nil)))))
theorem d_M_readUnit_10 : decode y_M_readUnit.2.1 10 = .ok (.invokestatic 244, 3) := by decide +kernel
theorem b_M_readUnit_0 {X : aw_X} {d : Nat} {Q : Option Value → aw_H → Prop} {I : Nat → Nat → Int32} {L : Nat → Nat → Int64} {D : Nat → Nat} 
    (h1 : aw_m X d y_M_spelt [.int (99 : Int32), .int (101 : Int32), .int (108 : Int32), .int (108 : Int32), .int (0 : Int32)] (aw_s I L D) (fun r A => aw_z X (d + 1) y_M_readUnit Q 13 [some (.ref 69), none] (r.toList ++ [.ref 69]) A)) :
    aw_z X (d + 1) y_M_readUnit Q 0 [some (.ref 69), none] [] (aw_s I L D) :=
  (s_M_readUnit_0.go [some (.ref 69), none] [.int (0 : Int32), .int (108 : Int32), .int (108 : Int32), .int (101 : Int32), .int (99 : Int32), .ref 69] (aw_s I L D) rfl (z_callS (av := [.int (99 : Int32), .int (101 : Int32), .int (108 : Int32), .int (108 : Int32), .int (0 : Int32)]) (st := [.ref 69]) ok_M_spelt (Or.inl w_1795) w_1796 d_M_readUnit_10 rfl rfl (Nat.le_of_ble_eq_true rfl) (Nat.le_refl _) (Nat.le_refl _) (h1)))
theorem d_M_readUnit_13 : decode y_M_readUnit.2.1 13 = .ok (.invokevirtual 248, 3) := by decide +kernel
theorem b_M_readUnit_13 {X : aw_X} {d : Nat} {Q : Option Value → aw_H → Prop} {I : Nat → Nat → Int32} {L : Nat → Nat → Int64} {D : Nat → Nat} {s1 : Int64}
    (h1 : aw_m X d y_M_isKey [.ref 69, .long s1] (aw_s I L D) (fun r A => aw_z X (d + 1) y_M_readUnit Q 16 [some (.ref 69), none] (r.toList ++ []) A)) :
    aw_z X (d + 1) y_M_readUnit Q 13 [some (.ref 69), none] [.long s1, .ref 69] (aw_s I L D) :=
  (z_callV (av := [.long s1]) (st := []) ok_M_isKey (Or.inl w_1798) w_1800 w_81 k_M d_M_readUnit_13 rfl (aw_lt (o := 69) rfl) rfl rfl (Nat.le_of_ble_eq_true rfl) (Nat.le_refl _) (Nat.le_refl _) (h1))
theorem d_M_readUnit_16 : decode y_M_readUnit.2.1 16 = .ok (.istore_n 1, 1) := by decide +kernel
theorem d_M_readUnit_17 : decode y_M_readUnit.2.1 17 = .ok (.aload_n 0, 1) := by decide +kernel
theorem d_M_readUnit_18 : decode y_M_readUnit.2.1 18 = .ok (.getfield 179, 3) := by decide +kernel
theorem d_M_readUnit_21 : decode y_M_readUnit.2.1 21 = .ok (.iconst 3, 1) := by decide +kernel
theorem s_M_readUnit_16 : aw_VS y_M_readUnit 16 [o_ist 1, o_ald 0, o_getI 9 6, o_c (.int (3 : Int32))] 22 := .cons (v_istore_n d_M_readUnit_16) (.cons (v_aload_n (i := 0) d_M_readUnit_17 rfl) (.cons (v_getI (k := 6) k_M (by decide) (Or.inl rfl) (Or.inl w_1467) d_M_readUnit_18) (.cons (v_iconst (v := (3 : Int32)) d_M_readUnit_21 (by decide +kernel)) .nil)))
theorem d_M_readUnit_22 : decode y_M_readUnit.2.1 22 = .ok (.if_icmp .eq (29), 3) := by decide +kernel
theorem d_M_readUnit_25 : decode y_M_readUnit.2.1 25 = .ok (.aload_n 0, 1) := by decide +kernel
theorem s_M_readUnit_25 : aw_VS y_M_readUnit 25 [o_ald 0] 26 := .cons (v_aload_n (i := 0) d_M_readUnit_25 rfl) .nil
theorem d_M_readUnit_26 : decode y_M_readUnit.2.1 26 = .ok (.invokevirtual 252, 3) := by decide +kernel
theorem b_M_readUnit_16 {X : aw_X} {d : Nat} {Q : Option Value → aw_H → Prop} {I : Nat → Nat → Int32} {L : Nat → Nat → Int64} {D : Nat → Nat} {s0 : Int32}
    (h1 : (I 69 6) = (3 : Int32) → aw_z X (d + 1) y_M_readUnit Q 51 [some (.ref 69), some (.int s0)] [] (aw_s I L D))
    (h2 : ¬ (I 69 6) = (3 : Int32) → aw_m X d y_M_isName [.ref 69] (aw_s I L D) (fun r A => aw_z X (d + 1) y_M_readUnit Q 29 [some (.ref 69), some (.int s0)] (r.toList ++ []) A)) :
    aw_z X (d + 1) y_M_readUnit Q 16 [some (.ref 69), none] [.int s0] (aw_s I L D) :=
  (s_M_readUnit_16.go [some (.ref 69), some (.int s0)] [.int (3 : Int32), .int (I 69 6)] (aw_s I L D) rfl (z_icmp_eq (tgt := 51) d_M_readUnit_22 rfl (fun q1 => (h1 q1)) (fun q2 => (s_M_readUnit_25.go [some (.ref 69), some (.int s0)] [.ref 69] (aw_s I L D) rfl (z_callV (av := []) (st := []) ok_M_isName (Or.inl w_1828) w_1830 w_88 k_M d_M_readUnit_26 rfl (aw_lt (o := 69) rfl) rfl rfl (Nat.le_of_ble_eq_true rfl) (Nat.le_refl _) (Nat.le_refl _) (h2 q2))))))
theorem d_M_readUnit_51 : decode y_M_readUnit.2.1 51 = .ok (.aload_n 0, 1) := by decide +kernel
theorem d_M_readUnit_52 : decode y_M_readUnit.2.1 52 = .ok (.getfield 179, 3) := by decide +kernel
theorem d_M_readUnit_55 : decode y_M_readUnit.2.1 55 = .ok (.iconst 3, 1) := by decide +kernel
theorem s_M_readUnit_51 : aw_VS y_M_readUnit 51 [o_ald 0, o_getI 9 6, o_c (.int (3 : Int32))] 56 := .cons (v_aload_n (i := 0) d_M_readUnit_51 rfl) (.cons (v_getI (k := 6) k_M (by decide) (Or.inl rfl) (Or.inl w_1467) d_M_readUnit_52) (.cons (v_iconst (v := (3 : Int32)) d_M_readUnit_55 (by decide +kernel)) .nil))
theorem d_M_readUnit_56 : decode y_M_readUnit.2.1 56 = .ok (.if_icmp .ne (19), 3) := by decide +kernel
theorem d_M_readUnit_59 : decode y_M_readUnit.2.1 59 = .ok (.aload_n 0, 1) := by decide +kernel
theorem d_M_readUnit_60 : decode y_M_readUnit.2.1 60 = .ok (.getfield 199, 3) := by decide +kernel
theorem d_M_readUnit_63 : decode y_M_readUnit.2.1 63 = .ok (.sipush 255, 3) := by decide +kernel
theorem s_M_readUnit_59 : aw_VS y_M_readUnit 59 [o_ald 0, o_getI 9 7, o_c (.int (255 : Int32))] 66 := .cons (v_aload_n (i := 0) d_M_readUnit_59 rfl) (.cons (v_getI (k := 7) k_M (by decide) (Or.inl rfl) (Or.inl w_1468) d_M_readUnit_60) (.cons (v_sipush (v := (255 : Int32)) d_M_readUnit_63 (by decide +kernel)) .nil))
theorem d_M_readUnit_66 : decode y_M_readUnit.2.1 66 = .ok (.if_icmp .le (9), 3) := by decide +kernel
theorem d_M_readUnit_69 : decode y_M_readUnit.2.1 69 = .ok (.aload_n 0, 1) := by decide +kernel
theorem d_M_readUnit_70 : decode y_M_readUnit.2.1 70 = .ok (.iconst 2, 1) := by decide +kernel
theorem s_M_readUnit_69 : aw_VS y_M_readUnit 69 [o_ald 0, o_c (.int (2 : Int32))] 71 := .cons (v_aload_n (i := 0) d_M_readUnit_69 rfl) (.cons (v_iconst (v := (2 : Int32)) d_M_readUnit_70 (by decide +kernel)) .nil)
theorem d_M_readUnit_71 : decode y_M_readUnit.2.1 71 = .ok (.invokevirtual 219, 3) := by decide +kernel
theorem b_M_readUnit_51 {X : aw_X} {d : Nat} {Q : Option Value → aw_H → Prop} {I : Nat → Nat → Int32} {L : Nat → Nat → Int64} {D : Nat → Nat} {v1 : Int32}
    (h1 : ¬ (I 69 6) = (3 : Int32) → aw_z X (d + 1) y_M_readUnit Q 75 [some (.ref 69), some (.int v1)] [] (aw_s I L D))
    (h2 : (I 69 6) = (3 : Int32) → (I 69 7) ≤ (255 : Int32) → aw_z X (d + 1) y_M_readUnit Q 75 [some (.ref 69), some (.int v1)] [] (aw_s I L D))
    (h3 : (I 69 6) = (3 : Int32) → ¬ (I 69 7) ≤ (255 : Int32) → aw_m X d y_M_bad [.ref 69, .int (2 : Int32)] (aw_s I L D) (fun r A => aw_z X (d + 1) y_M_readUnit Q 74 [none, none] (r.toList ++ []) A)) :
    aw_z X (d + 1) y_M_readUnit Q 51 [some (.ref 69), some (.int v1)] [] (aw_s I L D) :=
  (s_M_readUnit_51.go [some (.ref 69), some (.int v1)] [.int (3 : Int32), .int (I 69 6)] (aw_s I L D) rfl (z_icmp_ne (tgt := 75) d_M_readUnit_56 rfl (fun q1 => (h1 q1)) (fun q2 => (s_M_readUnit_59.go [some (.ref 69), some (.int v1)] [.int (255 : Int32), .int (I 69 7)] (aw_s I L D) rfl (z_icmp_le (tgt := 75) d_M_readUnit_66 rfl (fun q3 => (h2 q2 q3)) (fun q4 => (s_M_readUnit_69.go [some (.ref 69), some (.int v1)] [.int (2 : Int32), .ref 69] (aw_s I L D) rfl (z_callV (av := [.int (2 : Int32)]) (st := []) ok_M_bad (Or.inl w_1806) w_1808 w_83 k_M d_M_readUnit_71 rfl (aw_lt (o := 69) rfl) rfl rfl (Nat.le_of_ble_eq_true rfl) (Nat.le_refl _) (Nat.le_refl _) (aw_C.mono (h3 q2 q4) (fun _ _ zz => aw_Z.weak (ls' := [none, none]) zz (Nat.le_of_ble_eq_true rfl) ⟨Or.inl rfl, ⟨Or.inl rfl, trivial⟩⟩))))))))))
theorem d_M_readUnit_29 : decode y_M_readUnit.2.1 29 = .ok (.ifCond .ne (22), 3) := by decide +kernel
theorem d_M_readUnit_32 : decode y_M_readUnit.2.1 32 = .ok (.iload_n 1, 1) := by decide +kernel
theorem s_M_readUnit_32 : aw_VS y_M_readUnit 32 [o_ild 1] 33 := .cons (v_iload_n (i := 1) d_M_readUnit_32 rfl) .nil
theorem d_M_readUnit_33 : decode y_M_readUnit.2.1 33 = .ok (.ifCond .ne (18), 3) := by decide +kernel
theorem d_M_readUnit_36 : decode y_M_readUnit.2.1 36 = .ok (.aload_n 0, 1) := by decide +kernel
theorem d_M_readUnit_37 : decode y_M_readUnit.2.1 37 = .ok (.bipush 40, 2) := by decide +kernel
theorem s_M_readUnit_36 : aw_VS y_M_readUnit 36 [o_ald 0, o_c (.int (40 : Int32))] 39 := .cons (v_aload_n (i := 0) d_M_readUnit_36 rfl) (.cons (v_bipush (v := (40 : Int32)) d_M_readUnit_37 (by decide +kernel)) .nil)
theorem d_M_readUnit_39 : decode y_M_readUnit.2.1 39 = .ok (.invokevirtual 216, 3) := by decide +kernel
theorem b_M_readUnit_29 {X : aw_X} {d : Nat} {Q : Option Value → aw_H → Prop} {I : Nat → Nat → Int32} {L : Nat → Nat → Int64} {D : Nat → Nat} {v1 : Int32} {s0 : Int32}
    (h1 : ¬ s0 = 0 → aw_z X (d + 1) y_M_readUnit Q 51 [some (.ref 69), some (.int v1)] [] (aw_s I L D))
    (h2 : s0 = 0 → ¬ v1 = 0 → aw_z X (d + 1) y_M_readUnit Q 51 [some (.ref 69), some (.int v1)] [] (aw_s I L D))
    (h3 : s0 = 0 → v1 = 0 → aw_m X d y_M_isSign [.ref 69, .int (40 : Int32)] (aw_s I L D) (fun r A => aw_z X (d + 1) y_M_readUnit Q 42 [some (.ref 69), some (.int v1)] (r.toList ++ []) A)) :
    aw_z X (d + 1) y_M_readUnit Q 29 [some (.ref 69), some (.int v1)] [.int s0] (aw_s I L D) :=
  (z_if_ne (tgt := 51) d_M_readUnit_29 rfl (fun q1 => (h1 q1)) (fun q2 => (s_M_readUnit_32.go [some (.ref 69), some (.int v1)] [.int v1] (aw_s I L D) rfl (z_if_ne (tgt := 51) d_M_readUnit_33 rfl (fun q3 => (h2 q2 q3)) (fun q4 => (s_M_readUnit_36.go [some (.ref 69), some (.int v1)] [.int (40 : Int32), .ref 69] (aw_s I L D) rfl (z_callV (av := [.int (40 : Int32)]) (st := []) ok_M_isSign (Or.inl w_1779) w_1781 w_77 k_M d_M_readUnit_39 rfl (aw_lt (o := 69) rfl) rfl rfl (Nat.le_of_ble_eq_true rfl) (Nat.le_refl _) (Nat.le_refl _) (h3 q2 q4))))))))
theorem d_M_readUnit_75 : decode y_M_readUnit.2.1 75 = .ok (.aload_n 0, 1) := by decide +kernel
theorem d_M_readUnit_76 : decode y_M_readUnit.2.1 76 = .ok (.getfield 256, 3) := by decide +kernel
theorem d_M_readUnit_79 : decode y_M_readUnit.2.1 79 = .ok (.sipush 150, 3) := by decide +kernel
theorem s_M_readUnit_75 : aw_VS y_M_readUnit 75 [o_ald 0, o_getI 9 28, o_c (.int (150 : Int32))] 82 := .cons (v_aload_n (i := 0) d_M_readUnit_75 rfl) (.cons (v_getI (k := 28) k_M (by decide) (Or.inl rfl) (Or.inl w_1489) d_M_readUnit_76) (.cons (v_sipush (v := (150 : Int32)) d_M_readUnit_79 (by decide +kernel)) .nil))
theorem d_M_readUnit_82 : decode y_M_readUnit.2.1 82 = .ok (.if_icmp .eq (21), 3) := by decide +kernel
theorem d_M_readUnit_85 : decode y_M_readUnit.2.1 85 = .ok (.aload_n 0, 1) := by decide +kernel
theorem d_M_readUnit_86 : decode y_M_readUnit.2.1 86 = .ok (.bipush 40, 2) := by decide +kernel
theorem s_M_readUnit_85 : aw_VS y_M_readUnit 85 [o_ald 0, o_c (.int (40 : Int32))] 88 := .cons (v_aload_n (i := 0) d_M_readUnit_85 rfl) (.cons (v_bipush (v := (40 : Int32)) d_M_readUnit_86 (by decide +kernel)) .nil)
theorem d_M_readUnit_88 : decode y_M_readUnit.2.1 88 = .ok (.invokevirtual 216, 3) := by decide +kernel
theorem b_M_readUnit_75 {X : aw_X} {d : Nat} {Q : Option Value → aw_H → Prop} {I : Nat → Nat → Int32} {L : Nat → Nat → Int64} {D : Nat → Nat} {v1 : Int32}
    (h1 : (I 69 28) = (150 : Int32) → aw_z X (d + 1) y_M_readUnit Q 103 [some (.ref 69), none] [] (aw_s I L D))
    (h2 : ¬ (I 69 28) = (150 : Int32) → aw_m X d y_M_isSign [.ref 69, .int (40 : Int32)] (aw_s I L D) (fun r A => aw_z X (d + 1) y_M_readUnit Q 91 [some (.ref 69), some (.int v1)] (r.toList ++ []) A)) :
    aw_z X (d + 1) y_M_readUnit Q 75 [some (.ref 69), some (.int v1)] [] (aw_s I L D) :=
  (s_M_readUnit_75.go [some (.ref 69), some (.int v1)] [.int (150 : Int32), .int (I 69 28)] (aw_s I L D) rfl (z_icmp_eq (tgt := 103) d_M_readUnit_82 rfl (fun q1 => (aw_Z.weak (ls' := [some (.ref 69), none]) (h1 q1) (Nat.le_of_ble_eq_true rfl) ⟨Or.inr rfl, ⟨Or.inl rfl, trivial⟩⟩)) (fun q2 => (s_M_readUnit_85.go [some (.ref 69), some (.int v1)] [.int (40 : Int32), .ref 69] (aw_s I L D) rfl (z_callV (av := [.int (40 : Int32)]) (st := []) ok_M_isSign (Or.inl w_1779) w_1781 w_77 k_M d_M_readUnit_88 rfl (aw_lt (o := 69) rfl) rfl rfl (Nat.le_of_ble_eq_true rfl) (Nat.le_refl _) (Nat.le_refl _) (h2 q2))))))
theorem d_M_readUnit_74 : decode y_M_readUnit.2.1 74 = .ok (.ireturn, 1) := by decide +kernel
theorem b_M_readUnit_74 {X : aw_X} {d : Nat} {Q : Option Value → aw_H → Prop} {I : Nat → Nat → Int32} {L : Nat → Nat → Int64} {D : Nat → Nat} {s0 : Int32}
    (h1 : (s0 = 0 ∨ s0 = 1))
    (h2 : Q (some (.int s0)) (aw_s I L D)) :
    aw_z X (d + 1) y_M_readUnit Q 74 [none, none] [.int s0] (aw_s I L D) :=
  (z_iret d_M_readUnit_74 rfl (aw_nz (h1)) (h2))
theorem d_M_readUnit_42 : decode y_M_readUnit.2.1 42 = .ok (.ifCond .ne (9), 3) := by decide +kernel
theorem d_M_readUnit_45 : decode y_M_readUnit.2.1 45 = .ok (.aload_n 0, 1) := by decide +kernel
theorem d_M_readUnit_46 : decode y_M_readUnit.2.1 46 = .ok (.iconst 1, 1) := by decide +kernel
theorem s_M_readUnit_45 : aw_VS y_M_readUnit 45 [o_ald 0, o_c (.int (1 : Int32))] 47 := .cons (v_aload_n (i := 0) d_M_readUnit_45 rfl) (.cons (v_iconst (v := (1 : Int32)) d_M_readUnit_46 (by decide +kernel)) .nil)
theorem d_M_readUnit_47 : decode y_M_readUnit.2.1 47 = .ok (.invokevirtual 219, 3) := by decide +kernel
theorem b_M_readUnit_42 {X : aw_X} {d : Nat} {Q : Option Value → aw_H → Prop} {I : Nat → Nat → Int32} {L : Nat → Nat → Int64} {D : Nat → Nat} {v1 : Int32} {s0 : Int32}
    (h1 : ¬ s0 = 0 → aw_z X (d + 1) y_M_readUnit Q 51 [some (.ref 69), some (.int v1)] [] (aw_s I L D))
    (h2 : s0 = 0 → aw_m X d y_M_bad [.ref 69, .int (1 : Int32)] (aw_s I L D) (fun r A => aw_z X (d + 1) y_M_readUnit Q 50 [none, none] (r.toList ++ []) A)) :
    aw_z X (d + 1) y_M_readUnit Q 42 [some (.ref 69), some (.int v1)] [.int s0] (aw_s I L D) :=
  (z_if_ne (tgt := 51) d_M_readUnit_42 rfl (fun q1 => (h1 q1)) (fun q2 => (s_M_readUnit_45.go [some (.ref 69), some (.int v1)] [.int (1 : Int32), .ref 69] (aw_s I L D) rfl (z_callV (av := [.int (1 : Int32)]) (st := []) ok_M_bad (Or.inl w_1806) w_1808 w_83 k_M d_M_readUnit_47 rfl (aw_lt (o := 69) rfl) rfl rfl (Nat.le_of_ble_eq_true rfl) (Nat.le_refl _) (Nat.le_refl _) (aw_C.mono (h2 q2) (fun _ _ zz => aw_Z.weak (ls' := [none, none]) zz (Nat.le_of_ble_eq_true rfl) ⟨Or.inl rfl, ⟨Or.inl rfl, trivial⟩⟩))))))
theorem d_M_readUnit_103 : decode y_M_readUnit.2.1 103 = .ok (.aload_n 0, 1) := by decide +kernel
theorem d_M_readUnit_104 : decode y_M_readUnit.2.1 104 = .ok (.iconst 3, 1) := by decide +kernel
theorem s_M_readUnit_103 : aw_VS y_M_readUnit 103 [o_ald 0, o_c (.int (3 : Int32))] 105 := .cons (v_aload_n (i := 0) d_M_readUnit_103 rfl) (.cons (v_iconst (v := (3 : Int32)) d_M_readUnit_104 (by decide +kernel)) .nil)
theorem d_M_readUnit_105 : decode y_M_readUnit.2.1 105 = .ok (.invokevirtual 219, 3) := by decide +kernel
theorem b_M_readUnit_103 {X : aw_X} {d : Nat} {Q : Option Value → aw_H → Prop} {I : Nat → Nat → Int32} {L : Nat → Nat → Int64} {D : Nat → Nat} 
    (h1 : aw_m X d y_M_bad [.ref 69, .int (3 : Int32)] (aw_s I L D) (fun r A => aw_z X (d + 1) y_M_readUnit Q 108 [none, none] (r.toList ++ []) A)) :
    aw_z X (d + 1) y_M_readUnit Q 103 [some (.ref 69), none] [] (aw_s I L D) :=
  (s_M_readUnit_103.go [some (.ref 69), none] [.int (3 : Int32), .ref 69] (aw_s I L D) rfl (z_callV (av := [.int (3 : Int32)]) (st := []) ok_M_bad (Or.inl w_1806) w_1808 w_83 k_M d_M_readUnit_105 rfl (aw_lt (o := 69) rfl) rfl rfl (Nat.le_of_ble_eq_true rfl) (Nat.le_refl _) (Nat.le_refl _) (aw_C.mono (h1) (fun _ _ zz => aw_Z.weak (ls' := [none, none]) zz (Nat.le_of_ble_eq_true rfl) ⟨Or.inl rfl, ⟨Or.inl rfl, trivial⟩⟩))))
theorem d_M_readUnit_91 : decode y_M_readUnit.2.1 91 = .ok (.ifCond .eq (18), 3) := by decide +kernel
theorem d_M_readUnit_94 : decode y_M_readUnit.2.1 94 = .ok (.aload_n 0, 1) := by decide +kernel
theorem d_M_readUnit_95 : decode y_M_readUnit.2.1 95 = .ok (.getfield 259, 3) := by decide +kernel
theorem d_M_readUnit_98 : decode y_M_readUnit.2.1 98 = .ok (.bipush 10, 2) := by decide +kernel
theorem s_M_readUnit_94 : aw_VS y_M_readUnit 94 [o_ald 0, o_getI 9 27, o_c (.int (10 : Int32))] 100 := .cons (v_aload_n (i := 0) d_M_readUnit_94 rfl) (.cons (v_getI (k := 27) k_M (by decide) (Or.inl rfl) (Or.inl w_1488) d_M_readUnit_95) (.cons (v_bipush (v := (10 : Int32)) d_M_readUnit_98 (by decide +kernel)) .nil))
theorem d_M_readUnit_100 : decode y_M_readUnit.2.1 100 = .ok (.if_icmp .ne (9), 3) := by decide +kernel
theorem b_M_readUnit_91 {X : aw_X} {d : Nat} {Q : Option Value → aw_H → Prop} {I : Nat → Nat → Int32} {L : Nat → Nat → Int64} {D : Nat → Nat} {v1 : Int32} {s0 : Int32}
    (h1 : s0 = 0 → aw_z X (d + 1) y_M_readUnit Q 109 [some (.ref 69), some (.int v1)] [] (aw_s I L D))
    (h2 : ¬ s0 = 0 → ¬ (I 69 27) = (10 : Int32) → aw_z X (d + 1) y_M_readUnit Q 109 [some (.ref 69), some (.int v1)] [] (aw_s I L D))
    (h3 : ¬ s0 = 0 → (I 69 27) = (10 : Int32) → aw_z X (d + 1) y_M_readUnit Q 103 [some (.ref 69), none] [] (aw_s I L D)) :
    aw_z X (d + 1) y_M_readUnit Q 91 [some (.ref 69), some (.int v1)] [.int s0] (aw_s I L D) :=
  (z_if_eq (tgt := 109) d_M_readUnit_91 rfl (fun q1 => (h1 q1)) (fun q2 => (s_M_readUnit_94.go [some (.ref 69), some (.int v1)] [.int (10 : Int32), .int (I 69 27)] (aw_s I L D) rfl (z_icmp_ne (tgt := 109) d_M_readUnit_100 rfl (fun q3 => (h2 q2 q3)) (fun q4 => (aw_Z.weak (ls' := [some (.ref 69), none]) (h3 q2 q4) (Nat.le_of_ble_eq_true rfl) ⟨Or.inr rfl, ⟨Or.inl rfl, trivial⟩⟩))))))
theorem d_M_readUnit_50 : decode y_M_readUnit.2.1 50 = .ok (.ireturn, 1) := by decide +kernel
theorem b_M_readUnit_50 {X : aw_X} {d : Nat} {Q : Option Value → aw_H → Prop} {I : Nat → Nat → Int32} {L : Nat → Nat → Int64} {D : Nat → Nat} {s0 : Int32}
    (h1 : (s0 = 0 ∨ s0 = 1))
    (h2 : Q (some (.int s0)) (aw_s I L D)) :
    aw_z X (d + 1) y_M_readUnit Q 50 [none, none] [.int s0] (aw_s I L D) :=
  (z_iret d_M_readUnit_50 rfl (aw_nz (h1)) (h2))
theorem d_M_readUnit_108 : decode y_M_readUnit.2.1 108 = .ok (.ireturn, 1) := by decide +kernel
theorem b_M_readUnit_108 {X : aw_X} {d : Nat} {Q : Option Value → aw_H → Prop} {I : Nat → Nat → Int32} {L : Nat → Nat → Int64} {D : Nat → Nat} {s0 : Int32}
    (h1 : (s0 = 0 ∨ s0 = 1))
    (h2 : Q (some (.int s0)) (aw_s I L D)) :
    aw_z X (d + 1) y_M_readUnit Q 108 [none, none] [.int s0] (aw_s I L D) :=
  (z_iret d_M_readUnit_108 rfl (aw_nz (h1)) (h2))
theorem d_M_readUnit_109 : decode y_M_readUnit.2.1 109 = .ok (.aload_n 0, 1) := by decide +kernel
theorem d_M_readUnit_110 : decode y_M_readUnit.2.1 110 = .ok (.dup, 1) := by decide +kernel
theorem d_M_readUnit_111 : decode y_M_readUnit.2.1 111 = .ok (.getfield 256, 3) := by decide +kernel
theorem d_M_readUnit_114 : decode y_M_readUnit.2.1 114 = .ok (.iconst 1, 1) := by decide +kernel
theorem d_M_readUnit_115 : decode y_M_readUnit.2.1 115 = .ok (.iadd, 1) := by decide +kernel
theorem d_M_readUnit_116 : decode y_M_readUnit.2.1 116 = .ok (.putfield 256, 3) := by decide +kernel
theorem d_M_readUnit_119 : decode y_M_readUnit.2.1 119 = .ok (.aload_n 0, 1) := by decide +kernel
theorem d_M_readUnit_120 : decode y_M_readUnit.2.1 120 = .ok (.getfield 179, 3) := by decide +kernel
theorem d_M_readUnit_123 : decode y_M_readUnit.2.1 123 = .ok (.iconst 3, 1) := by decide +kernel
theorem s_M_readUnit_109 : aw_VS y_M_readUnit 109 [o_ald 0, o_dup, o_getI 9 28, o_c (.int (1 : Int32)), o_i2 (fun x z => x + z), o_putI 9 28, o_ald 0, o_getI 9 6, o_c (.int (3 : Int32))] 124 := .cons (v_aload_n (i := 0) d_M_readUnit_109 rfl) (.cons (v_dup d_M_readUnit_110) (.cons (v_getI (k := 28) k_M (by decide) (Or.inl rfl) (Or.inl w_1489) d_M_readUnit_111) (.cons (v_iconst (v := (1 : Int32)) d_M_readUnit_114 (by decide +kernel)) (.cons (v_iadd d_M_readUnit_115) (.cons (v_putI (k := 28) k_M (by decide) rfl (Or.inl ⟨rfl, Or.inl w_1489⟩) d_M_readUnit_116) (.cons (v_aload_n (i := 0) d_M_readUnit_119 rfl) (.cons (v_getI (k := 6) k_M (by decide) (Or.inl rfl) (Or.inl w_1467) d_M_readUnit_120) (.cons (v_iconst (v := (3 : Int32)) d_M_readUnit_123 (by decide +kernel)) .nil))))))))
theorem d_M_readUnit_124 : decode y_M_readUnit.2.1 124 = .ok (.if_icmp .ne (72), 3) := by decide +kernel
theorem d_M_readUnit_196 : decode y_M_readUnit.2.1 196 = .ok (.aload_n 0, 1) := by decide +kernel
theorem s_M_readUnit_196 : aw_VS y_M_readUnit 196 [o_ald 0] 197 := .cons (v_aload_n (i := 0) d_M_readUnit_196 rfl) .nil
theorem d_M_readUnit_197 : decode y_M_readUnit.2.1 197 = .ok (.invokevirtual 252, 3) := by decide +kernel
theorem d_M_readUnit_127 : decode y_M_readUnit.2.1 127 = .ok (.aload_n 0, 1) := by decide +kernel
theorem d_M_readUnit_128 : decode y_M_readUnit.2.1 128 = .ok (.getfield 28, 3) := by decide +kernel
theorem d_M_readUnit_131 : decode y_M_readUnit.2.1 131 = .ok (.aload_n 0, 1) := by decide +kernel
theorem d_M_readUnit_132 : decode y_M_readUnit.2.1 132 = .ok (.getfield 225, 3) := by decide +kernel
theorem s_M_readUnit_127 : aw_VS y_M_readUnit 127 [o_ald 0, o_getA 9 17, o_ald 0, o_getI 9 29] 135 := .cons (v_aload_n (i := 0) d_M_readUnit_127 rfl) (.cons (v_getA (k := 17) k_M (by decide) rfl (Or.inl w_1478) d_M_readUnit_128) (.cons (v_aload_n (i := 0) d_M_readUnit_131 rfl) (.cons (v_getI (k := 29) k_M (by decide) (Or.inl rfl) (Or.inl w_1490) d_M_readUnit_132) .nil)))
theorem d_M_readUnit_135 : decode y_M_readUnit.2.1 135 = .ok (.iaload, 1) := by decide +kernel
theorem d_M_readUnit_136 : decode y_M_readUnit.2.1 136 = .ok (.bipush 20, 2) := by decide +kernel
theorem s_M_readUnit_136 : aw_VS y_M_readUnit 136 [o_c (.int (20 : Int32))] 138 := .cons (v_bipush (v := (20 : Int32)) d_M_readUnit_136 (by decide +kernel)) .nil
theorem d_M_readUnit_138 : decode y_M_readUnit.2.1 138 = .ok (.if_icmp .ge (29), 3) := by decide +kernel
theorem d_M_readUnit_141 : decode y_M_readUnit.2.1 141 = .ok (.aload_n 0, 1) := by decide +kernel
theorem d_M_readUnit_142 : decode y_M_readUnit.2.1 142 = .ok (.getfield 35, 3) := by decide +kernel
theorem d_M_readUnit_145 : decode y_M_readUnit.2.1 145 = .ok (.bipush 20, 2) := by decide +kernel
theorem d_M_readUnit_147 : decode y_M_readUnit.2.1 147 = .ok (.aload_n 0, 1) := by decide +kernel
theorem d_M_readUnit_148 : decode y_M_readUnit.2.1 148 = .ok (.getfield 225, 3) := by decide +kernel
theorem d_M_readUnit_151 : decode y_M_readUnit.2.1 151 = .ok (.imul, 1) := by decide +kernel
theorem d_M_readUnit_152 : decode y_M_readUnit.2.1 152 = .ok (.aload_n 0, 1) := by decide +kernel
theorem d_M_readUnit_153 : decode y_M_readUnit.2.1 153 = .ok (.getfield 28, 3) := by decide +kernel
theorem d_M_readUnit_156 : decode y_M_readUnit.2.1 156 = .ok (.aload_n 0, 1) := by decide +kernel
theorem d_M_readUnit_157 : decode y_M_readUnit.2.1 157 = .ok (.getfield 225, 3) := by decide +kernel
theorem s_M_readUnit_141 : aw_VS y_M_readUnit 141 [o_ald 0, o_getA 9 19, o_c (.int (20 : Int32)), o_ald 0, o_getI 9 29, o_i2 (fun x z => x * z), o_ald 0, o_getA 9 17, o_ald 0, o_getI 9 29] 160 := .cons (v_aload_n (i := 0) d_M_readUnit_141 rfl) (.cons (v_getA (k := 19) k_M (by decide) rfl (Or.inl w_1480) d_M_readUnit_142) (.cons (v_bipush (v := (20 : Int32)) d_M_readUnit_145 (by decide +kernel)) (.cons (v_aload_n (i := 0) d_M_readUnit_147 rfl) (.cons (v_getI (k := 29) k_M (by decide) (Or.inl rfl) (Or.inl w_1490) d_M_readUnit_148) (.cons (v_imul d_M_readUnit_151) (.cons (v_aload_n (i := 0) d_M_readUnit_152 rfl) (.cons (v_getA (k := 17) k_M (by decide) rfl (Or.inl w_1478) d_M_readUnit_153) (.cons (v_aload_n (i := 0) d_M_readUnit_156 rfl) (.cons (v_getI (k := 29) k_M (by decide) (Or.inl rfl) (Or.inl w_1490) d_M_readUnit_157) .nil)))))))))
theorem d_M_readUnit_160 : decode y_M_readUnit.2.1 160 = .ok (.iaload, 1) := by decide +kernel
theorem d_M_readUnit_161 : decode y_M_readUnit.2.1 161 = .ok (.iadd, 1) := by decide +kernel
theorem d_M_readUnit_162 : decode y_M_readUnit.2.1 162 = .ok (.aload_n 0, 1) := by decide +kernel
theorem d_M_readUnit_163 : decode y_M_readUnit.2.1 163 = .ok (.getfield 228, 3) := by decide +kernel
theorem s_M_readUnit_161 : aw_VS y_M_readUnit 161 [o_i2 (fun x z => x + z), o_ald 0, o_getI 9 30] 166 := .cons (v_iadd d_M_readUnit_161) (.cons (v_aload_n (i := 0) d_M_readUnit_162 rfl) (.cons (v_getI (k := 30) k_M (by decide) (Or.inl rfl) (Or.inl w_1491) d_M_readUnit_163) .nil))
theorem d_M_readUnit_166 : decode y_M_readUnit.2.1 166 = .ok (.iastore, 1) := by decide +kernel
theorem b_M_readUnit_109 {X : aw_X} {d : Nat} {Q : Option Value → aw_H → Prop} {I : Nat → Nat → Int32} {L : Nat → Nat → Int64} {D : Nat → Nat} {v1 : Int32}
    (h1 : ¬ (I 69 6) = (3 : Int32) → aw_m X d y_M_isName [.ref 69] (aw_s (aw_u I 69 28 ((I 69 28) + (1 : Int32))) L D) (fun r A => aw_z X (d + 1) y_M_readUnit Q 200 [some (.ref 69), some (.int v1)] (r.toList ++ []) A))
    (h2 : (I 69 6) = (3 : Int32) → vp_in (I 69 29) 7)
    (h3 : (I 69 6) = (3 : Int32) → (20 : Int32) ≤ (I 76 ((I 69 29).toNatClampNeg)) → aw_z X (d + 1) y_M_readUnit Q 167 [some (.ref 69), none] [] (aw_s (aw_u I 69 28 ((I 69 28) + (1 : Int32))) L D))
    (h4 : (I 69 6) = (3 : Int32) → ¬ (20 : Int32) ≤ (I 76 ((I 69 29).toNatClampNeg)) → vp_in (I 69 29) 7)
    (h5 : (I 69 6) = (3 : Int32) → ¬ (20 : Int32) ≤ (I 76 ((I 69 29).toNatClampNeg)) → vp_in (((20 : Int32) * (I 69 29)) + (I 76 ((I 69 29).toNatClampNeg))) 140)
    (h6 : (I 69 6) = (3 : Int32) → ¬ (20 : Int32) ≤ (I 76 ((I 69 29).toNatClampNeg)) → aw_z X (d + 1) y_M_readUnit Q 167 [some (.ref 69), none] [] (aw_s (aw_u (aw_u I 69 28 ((I 69 28) + (1 : Int32))) 78 ((((20 : Int32) * (I 69 29)) + (I 76 ((I 69 29).toNatClampNeg))).toNatClampNeg) (I 69 30)) L D)) :
    aw_z X (d + 1) y_M_readUnit Q 109 [some (.ref 69), some (.int v1)] [] (aw_s I L D) :=
  (s_M_readUnit_109.go [some (.ref 69), some (.int v1)] [.int (3 : Int32), .int (I 69 6)] (aw_s (aw_u I 69 28 ((I 69 28) + (1 : Int32))) L D) rfl (z_icmp_ne (tgt := 196) d_M_readUnit_124 rfl (fun q1 => (s_M_readUnit_196.go [some (.ref 69), some (.int v1)] [.ref 69] (aw_s (aw_u I 69 28 ((I 69 28) + (1 : Int32))) L D) rfl (z_callV (av := []) (st := []) ok_M_isName (Or.inl w_1828) w_1830 w_88 k_M d_M_readUnit_197 rfl (aw_lt (o := 69) rfl) rfl rfl (Nat.le_of_ble_eq_true rfl) (Nat.le_refl _) (Nat.le_refl _) (h1 q1)))) (fun q2 => (s_M_readUnit_127.go [some (.ref 69), some (.int v1)] [.int (I 69 29), .ref 76] (aw_s (aw_u I 69 28 ((I 69 28) + (1 : Int32))) L D) rfl (z_iald (n := 7) rfl (aw_lt (o := 76) rfl) (h2 q2) d_M_readUnit_135 (s_M_readUnit_136.go [some (.ref 69), some (.int v1)] [.int (20 : Int32), .int (I 76 ((I 69 29).toNatClampNeg))] (aw_s (aw_u I 69 28 ((I 69 28) + (1 : Int32))) L D) rfl (z_icmp_ge (tgt := 167) d_M_readUnit_138 rfl (fun q3 => (aw_Z.weak (ls' := [some (.ref 69), none]) (h3 q2 q3) (Nat.le_of_ble_eq_true rfl) ⟨Or.inr rfl, ⟨Or.inl rfl, trivial⟩⟩)) (fun q4 => (s_M_readUnit_141.go [some (.ref 69), some (.int v1)] [.int (I 69 29), .ref 76, .int ((20 : Int32) * (I 69 29)), .ref 78] (aw_s (aw_u I 69 28 ((I 69 28) + (1 : Int32))) L D) rfl (z_iald (n := 7) rfl (aw_lt (o := 76) rfl) (h4 q2 q4) d_M_readUnit_160 (s_M_readUnit_161.go [some (.ref 69), some (.int v1)] [.int (I 69 30), .int (((20 : Int32) * (I 69 29)) + (I 76 ((I 69 29).toNatClampNeg))), .ref 78] (aw_s (aw_u I 69 28 ((I 69 28) + (1 : Int32))) L D) rfl (z_iast (n := 140) rfl (aw_lt (o := 78) rfl) (h5 q2 q4) d_M_readUnit_166 (aw_Z.weak (ls' := [some (.ref 69), none]) (h6 q2 q4) (Nat.le_of_ble_eq_true rfl) ⟨Or.inr rfl, ⟨Or.inl rfl, trivial⟩⟩)))))))))))))
theorem d_M_readUnit_200 : decode y_M_readUnit.2.1 200 = .ok (.ifCond .eq (22), 3) := by decide +kernel
theorem d_M_readUnit_222 : decode y_M_readUnit.2.1 222 = .ok (.iload_n 1, 1) := by decide +kernel
theorem s_M_readUnit_222 : aw_VS y_M_readUnit 222 [o_ild 1] 223 := .cons (v_iload_n (i := 1) d_M_readUnit_222 rfl) .nil
theorem d_M_readUnit_223 : decode y_M_readUnit.2.1 223 = .ok (.ifCond .eq (37), 3) := by decide +kernel
theorem d_M_readUnit_226 : decode y_M_readUnit.2.1 226 = .ok (.aload_n 0, 1) := by decide +kernel
theorem s_M_readUnit_226 : aw_VS y_M_readUnit 226 [o_ald 0] 227 := .cons (v_aload_n (i := 0) d_M_readUnit_226 rfl) .nil
theorem d_M_readUnit_227 : decode y_M_readUnit.2.1 227 = .ok (.invokevirtual 222, 3) := by decide +kernel
theorem d_M_readUnit_203 : decode y_M_readUnit.2.1 203 = .ok (.aload_n 0, 1) := by decide +kernel
theorem d_M_readUnit_204 : decode y_M_readUnit.2.1 204 = .ok (.iconst 3, 1) := by decide +kernel
theorem d_M_readUnit_205 : decode y_M_readUnit.2.1 205 = .ok (.aload_n 0, 1) := by decide +kernel
theorem d_M_readUnit_206 : decode y_M_readUnit.2.1 206 = .ok (.getfield 195, 3) := by decide +kernel
theorem d_M_readUnit_209 : decode y_M_readUnit.2.1 209 = .ok (.l2i, 1) := by decide +kernel
theorem d_M_readUnit_210 : decode y_M_readUnit.2.1 210 = .ok (.iconst 1, 1) := by decide +kernel
theorem d_M_readUnit_211 : decode y_M_readUnit.2.1 211 = .ok (.isub, 1) := by decide +kernel
theorem s_M_readUnit_203 : aw_VS y_M_readUnit 203 [o_ald 0, o_c (.int (3 : Int32)), o_ald 0, o_getJ 9 11, o_li (fun x => x.toInt32), o_c (.int (1 : Int32)), o_i2 (fun x z => x - z)] 212 := .cons (v_aload_n (i := 0) d_M_readUnit_203 rfl) (.cons (v_iconst (v := (3 : Int32)) d_M_readUnit_204 (by decide +kernel)) (.cons (v_aload_n (i := 0) d_M_readUnit_205 rfl) (.cons (v_getJ (k := 11) k_M (by decide) rfl (Or.inl w_1472) d_M_readUnit_206) (.cons (v_l2i d_M_readUnit_209) (.cons (v_iconst (v := (1 : Int32)) d_M_readUnit_210 (by decide +kernel)) (.cons (v_isub d_M_readUnit_211) .nil))))))
theorem d_M_readUnit_212 : decode y_M_readUnit.2.1 212 = .ok (.invokevirtual 238, 3) := by decide +kernel
theorem b_M_readUnit_200 {X : aw_X} {d : Nat} {Q : Option Value → aw_H → Prop} {I : Nat → Nat → Int32} {L : Nat → Nat → Int64} {D : Nat → Nat} {v1 : Int32} {s0 : Int32}
    (h1 : s0 = 0 → v1 = 0 → aw_z X (d + 1) y_M_readUnit Q 260 [some (.ref 69), some (.int v1)] [] (aw_s I L D))
    (h2 : s0 = 0 → ¬ v1 = 0 → aw_m X d y_M_go [.ref 69] (aw_s I L D) (fun r A => aw_z X (d + 1) y_M_readUnit Q 230 [some (.ref 69), some (.int v1)] (r.toList ++ []) A))
    (h3 : ¬ s0 = 0 → aw_m X d y_M_emit [.ref 69, .int (3 : Int32), .int (((L 69 11).toInt32) - (1 : Int32))] (aw_s I L D) (fun r A => aw_z X (d + 1) y_M_readUnit Q 215 [some (.ref 69), none] (r.toList ++ []) A)) :
    aw_z X (d + 1) y_M_readUnit Q 200 [some (.ref 69), some (.int v1)] [.int s0] (aw_s I L D) :=
  (z_if_eq (tgt := 222) d_M_readUnit_200 rfl (fun q1 => (s_M_readUnit_222.go [some (.ref 69), some (.int v1)] [.int v1] (aw_s I L D) rfl (z_if_eq (tgt := 260) d_M_readUnit_223 rfl (fun q3 => (h1 q1 q3)) (fun q4 => (s_M_readUnit_226.go [some (.ref 69), some (.int v1)] [.ref 69] (aw_s I L D) rfl (z_callV (av := []) (st := []) ok_M_go (Or.inl w_1760) w_1762 w_75 k_M d_M_readUnit_227 rfl (aw_lt (o := 69) rfl) rfl rfl (Nat.le_of_ble_eq_true rfl) (Nat.le_refl _) (Nat.le_refl _) (h2 q1 q4))))))) (fun q2 => (s_M_readUnit_203.go [some (.ref 69), some (.int v1)] [.int (((L 69 11).toInt32) - (1 : Int32)), .int (3 : Int32), .ref 69] (aw_s I L D) rfl (z_callV (av := [.int (3 : Int32), .int (((L 69 11).toInt32) - (1 : Int32))]) (st := []) ok_M_emit (Or.inl w_1787) w_1789 w_79 k_M d_M_readUnit_212 rfl (aw_lt (o := 69) rfl) rfl rfl (Nat.le_of_ble_eq_true rfl) (Nat.le_refl _) (Nat.le_refl _) (aw_C.mono (h3 q2) (fun _ _ zz => aw_Z.weak (ls' := [some (.ref 69), none]) zz (Nat.le_of_ble_eq_true rfl) ⟨Or.inr rfl, ⟨Or.inl rfl, trivial⟩⟩))))))
theorem d_M_readUnit_167 : decode y_M_readUnit.2.1 167 = .ok (.aload_n 0, 1) := by decide +kernel
theorem d_M_readUnit_168 : decode y_M_readUnit.2.1 168 = .ok (.getfield 28, 3) := by decide +kernel
theorem d_M_readUnit_171 : decode y_M_readUnit.2.1 171 = .ok (.aload_n 0, 1) := by decide +kernel
theorem d_M_readUnit_172 : decode y_M_readUnit.2.1 172 = .ok (.getfield 225, 3) := by decide +kernel
theorem d_M_readUnit_175 : decode y_M_readUnit.2.1 175 = .ok (.dup2, 1) := by decide +kernel
theorem s_M_readUnit_167 : aw_VS y_M_readUnit 167 [o_ald 0, o_getA 9 17, o_ald 0, o_getI 9 29, o_dup2] 176 := .cons (v_aload_n (i := 0) d_M_readUnit_167 rfl) (.cons (v_getA (k := 17) k_M (by decide) rfl (Or.inl w_1478) d_M_readUnit_168) (.cons (v_aload_n (i := 0) d_M_readUnit_171 rfl) (.cons (v_getI (k := 29) k_M (by decide) (Or.inl rfl) (Or.inl w_1490) d_M_readUnit_172) (.cons (v_dup2 d_M_readUnit_175) .nil))))
theorem d_M_readUnit_176 : decode y_M_readUnit.2.1 176 = .ok (.iaload, 1) := by decide +kernel
theorem d_M_readUnit_177 : decode y_M_readUnit.2.1 177 = .ok (.iconst 1, 1) := by decide +kernel
theorem d_M_readUnit_178 : decode y_M_readUnit.2.1 178 = .ok (.iadd, 1) := by decide +kernel
theorem s_M_readUnit_177 : aw_VS y_M_readUnit 177 [o_c (.int (1 : Int32)), o_i2 (fun x z => x + z)] 179 := .cons (v_iconst (v := (1 : Int32)) d_M_readUnit_177 (by decide +kernel)) (.cons (v_iadd d_M_readUnit_178) .nil)
theorem d_M_readUnit_179 : decode y_M_readUnit.2.1 179 = .ok (.iastore, 1) := by decide +kernel
theorem d_M_readUnit_180 : decode y_M_readUnit.2.1 180 = .ok (.aload_n 0, 1) := by decide +kernel
theorem d_M_readUnit_181 : decode y_M_readUnit.2.1 181 = .ok (.iconst 2, 1) := by decide +kernel
theorem d_M_readUnit_182 : decode y_M_readUnit.2.1 182 = .ok (.aload_n 0, 1) := by decide +kernel
theorem d_M_readUnit_183 : decode y_M_readUnit.2.1 183 = .ok (.getfield 199, 3) := by decide +kernel
theorem s_M_readUnit_180 : aw_VS y_M_readUnit 180 [o_ald 0, o_c (.int (2 : Int32)), o_ald 0, o_getI 9 7] 186 := .cons (v_aload_n (i := 0) d_M_readUnit_180 rfl) (.cons (v_iconst (v := (2 : Int32)) d_M_readUnit_181 (by decide +kernel)) (.cons (v_aload_n (i := 0) d_M_readUnit_182 rfl) (.cons (v_getI (k := 7) k_M (by decide) (Or.inl rfl) (Or.inl w_1468) d_M_readUnit_183) .nil)))
theorem d_M_readUnit_186 : decode y_M_readUnit.2.1 186 = .ok (.invokevirtual 238, 3) := by decide +kernel
theorem b_M_readUnit_167 {X : aw_X} {d : Nat} {Q : Option Value → aw_H → Prop} {I : Nat → Nat → Int32} {L : Nat → Nat → Int64} {D : Nat → Nat} 
    (h1 : vp_in (I 69 29) 7)
    (h2 : vp_in (I 69 29) 7)
    (h3 : aw_m X d y_M_emit [.ref 69, .int (2 : Int32), .int (I 69 7)] (aw_s (aw_u I 76 ((I 69 29).toNatClampNeg) ((I 76 ((I 69 29).toNatClampNeg)) + (1 : Int32))) L D) (fun r A => aw_z X (d + 1) y_M_readUnit Q 189 [some (.ref 69), none] (r.toList ++ []) A)) :
    aw_z X (d + 1) y_M_readUnit Q 167 [some (.ref 69), none] [] (aw_s I L D) :=
  (s_M_readUnit_167.go [some (.ref 69), none] [.int (I 69 29), .ref 76, .int (I 69 29), .ref 76] (aw_s I L D) rfl (z_iald (n := 7) rfl (aw_lt (o := 76) rfl) (h1) d_M_readUnit_176 (s_M_readUnit_177.go [some (.ref 69), none] [.int ((I 76 ((I 69 29).toNatClampNeg)) + (1 : Int32)), .int (I 69 29), .ref 76] (aw_s I L D) rfl (z_iast (n := 7) rfl (aw_lt (o := 76) rfl) (h2) d_M_readUnit_179 (s_M_readUnit_180.go [some (.ref 69), none] [.int (I 69 7), .int (2 : Int32), .ref 69] (aw_s (aw_u I 76 ((I 69 29).toNatClampNeg) ((I 76 ((I 69 29).toNatClampNeg)) + (1 : Int32))) L D) rfl (z_callV (av := [.int (2 : Int32), .int (I 69 7)]) (st := []) ok_M_emit (Or.inl w_1787) w_1789 w_79 k_M d_M_readUnit_186 rfl (aw_lt (o := 69) rfl) rfl rfl (Nat.le_of_ble_eq_true rfl) (Nat.le_refl _) (Nat.le_refl _) (h3)))))))
theorem d_M_readUnit_260 : decode y_M_readUnit.2.1 260 = .ok (.aload_n 0, 1) := by decide +kernel
theorem d_M_readUnit_261 : decode y_M_readUnit.2.1 261 = .ok (.dup, 1) := by decide +kernel
theorem d_M_readUnit_262 : decode y_M_readUnit.2.1 262 = .ok (.getfield 259, 3) := by decide +kernel
theorem d_M_readUnit_265 : decode y_M_readUnit.2.1 265 = .ok (.iconst 1, 1) := by decide +kernel
theorem d_M_readUnit_266 : decode y_M_readUnit.2.1 266 = .ok (.iadd, 1) := by decide +kernel
theorem d_M_readUnit_267 : decode y_M_readUnit.2.1 267 = .ok (.putfield 259, 3) := by decide +kernel
theorem d_M_readUnit_270 : decode y_M_readUnit.2.1 270 = .ok (.aload_n 0, 1) := by decide +kernel
theorem d_M_readUnit_271 : decode y_M_readUnit.2.1 271 = .ok (.getfield 38, 3) := by decide +kernel
theorem d_M_readUnit_274 : decode y_M_readUnit.2.1 274 = .ok (.aload_n 0, 1) := by decide +kernel
theorem d_M_readUnit_275 : decode y_M_readUnit.2.1 275 = .ok (.getfield 231, 3) := by decide +kernel
theorem d_M_readUnit_278 : decode y_M_readUnit.2.1 278 = .ok (.iload_n 1, 1) := by decide +kernel
theorem s_M_readUnit_260 : aw_VS y_M_readUnit 260 [o_ald 0, o_dup, o_getI 9 27, o_c (.int (1 : Int32)), o_i2 (fun x z => x + z), o_putI 9 27, o_ald 0, o_getA 9 20, o_ald 0, o_getI 9 25, o_ild 1] 279 := .cons (v_aload_n (i := 0) d_M_readUnit_260 rfl) (.cons (v_dup d_M_readUnit_261) (.cons (v_getI (k := 27) k_M (by decide) (Or.inl rfl) (Or.inl w_1488) d_M_readUnit_262) (.cons (v_iconst (v := (1 : Int32)) d_M_readUnit_265 (by decide +kernel)) (.cons (v_iadd d_M_readUnit_266) (.cons (v_putI (k := 27) k_M (by decide) rfl (Or.inl ⟨rfl, Or.inl w_1488⟩) d_M_readUnit_267) (.cons (v_aload_n (i := 0) d_M_readUnit_270 rfl) (.cons (v_getA (k := 20) k_M (by decide) rfl (Or.inl w_1481) d_M_readUnit_271) (.cons (v_aload_n (i := 0) d_M_readUnit_274 rfl) (.cons (v_getI (k := 25) k_M (by decide) (Or.inl rfl) (Or.inl w_1486) d_M_readUnit_275) (.cons (v_iload_n (i := 1) d_M_readUnit_278 rfl) .nil))))))))))
theorem d_M_readUnit_279 : decode y_M_readUnit.2.1 279 = .ok (.ifCond .eq (8), 3) := by decide +kernel
theorem d_M_readUnit_287 : decode y_M_readUnit.2.1 287 = .ok (.bipush 26, 2) := by decide +kernel
theorem s_M_readUnit_287 : aw_VS y_M_readUnit 287 [o_c (.int (26 : Int32))] 289 := .cons (v_bipush (v := (26 : Int32)) d_M_readUnit_287 (by decide +kernel)) .nil
theorem d_M_readUnit_282 : decode y_M_readUnit.2.1 282 = .ok (.bipush 27, 2) := by decide +kernel
theorem s_M_readUnit_282 : aw_VS y_M_readUnit 282 [o_c (.int (27 : Int32))] 284 := .cons (v_bipush (v := (27 : Int32)) d_M_readUnit_282 (by decide +kernel)) .nil
theorem d_M_readUnit_284 : decode y_M_readUnit.2.1 284 = .ok (.goto (5), 3) := by decide +kernel
theorem b_M_readUnit_260 {X : aw_X} {d : Nat} {Q : Option Value → aw_H → Prop} {I : Nat → Nat → Int32} {L : Nat → Nat → Int64} {D : Nat → Nat} {v1 : Int32}
    (h1 : v1 = 0 → aw_z X (d + 1) y_M_readUnit Q 289 [some (.ref 69), none] [.int (26 : Int32), .int (I 69 25), .ref 79] (aw_s (aw_u I 69 27 ((I 69 27) + (1 : Int32))) L D))
    (h2 : ¬ v1 = 0 → aw_z X (d + 1) y_M_readUnit Q 289 [some (.ref 69), none] [.int (27 : Int32), .int (I 69 25), .ref 79] (aw_s (aw_u I 69 27 ((I 69 27) + (1 : Int32))) L D)) :
    aw_z X (d + 1) y_M_readUnit Q 260 [some (.ref 69), some (.int v1)] [] (aw_s I L D) :=
  (s_M_readUnit_260.go [some (.ref 69), some (.int v1)] [.int v1, .int (I 69 25), .ref 79] (aw_s (aw_u I 69 27 ((I 69 27) + (1 : Int32))) L D) rfl (z_if_eq (tgt := 287) d_M_readUnit_279 rfl (fun q1 => (s_M_readUnit_287.go [some (.ref 69), some (.int v1)] [.int (26 : Int32), .int (I 69 25), .ref 79] (aw_s (aw_u I 69 27 ((I 69 27) + (1 : Int32))) L D) rfl (aw_Z.weak (ls' := [some (.ref 69), none]) (h1 q1) (Nat.le_of_ble_eq_true rfl) ⟨Or.inr rfl, ⟨Or.inl rfl, trivial⟩⟩))) (fun q2 => (s_M_readUnit_282.go [some (.ref 69), some (.int v1)] [.int (27 : Int32), .int (I 69 25), .ref 79] (aw_s (aw_u I 69 27 ((I 69 27) + (1 : Int32))) L D) rfl (z_goto (tgt := 289) d_M_readUnit_284 rfl (aw_Z.weak (ls' := [some (.ref 69), none]) (h2 q2) (Nat.le_of_ble_eq_true rfl) ⟨Or.inr rfl, ⟨Or.inl rfl, trivial⟩⟩))))))
theorem d_M_readUnit_230 : decode y_M_readUnit.2.1 230 = .ok (.aload_n 0, 1) := by decide +kernel
theorem d_M_readUnit_231 : decode y_M_readUnit.2.1 231 = .ok (.bipush 91, 2) := by decide +kernel
theorem s_M_readUnit_230 : aw_VS y_M_readUnit 230 [o_ald 0, o_c (.int (91 : Int32))] 233 := .cons (v_aload_n (i := 0) d_M_readUnit_230 rfl) (.cons (v_bipush (v := (91 : Int32)) d_M_readUnit_231 (by decide +kernel)) .nil)
theorem d_M_readUnit_233 : decode y_M_readUnit.2.1 233 = .ok (.invokevirtual 216, 3) := by decide +kernel
theorem b_M_readUnit_230 {X : aw_X} {d : Nat} {Q : Option Value → aw_H → Prop} {I : Nat → Nat → Int32} {L : Nat → Nat → Int64} {D : Nat → Nat} {v1 : Int32}
    (h1 : aw_m X d y_M_isSign [.ref 69, .int (91 : Int32)] (aw_s I L D) (fun r A => aw_z X (d + 1) y_M_readUnit Q 236 [some (.ref 69), some (.int v1)] (r.toList ++ []) A)) :
    aw_z X (d + 1) y_M_readUnit Q 230 [some (.ref 69), some (.int v1)] [] (aw_s I L D) :=
  (s_M_readUnit_230.go [some (.ref 69), some (.int v1)] [.int (91 : Int32), .ref 69] (aw_s I L D) rfl (z_callV (av := [.int (91 : Int32)]) (st := []) ok_M_isSign (Or.inl w_1779) w_1781 w_77 k_M d_M_readUnit_233 rfl (aw_lt (o := 69) rfl) rfl rfl (Nat.le_of_ble_eq_true rfl) (Nat.le_refl _) (Nat.le_refl _) (h1)))
theorem d_M_readUnit_215 : decode y_M_readUnit.2.1 215 = .ok (.pop, 1) := by decide +kernel
theorem d_M_readUnit_216 : decode y_M_readUnit.2.1 216 = .ok (.aload_n 0, 1) := by decide +kernel
theorem s_M_readUnit_215 : aw_VS y_M_readUnit 215 [o_pop, o_ald 0] 217 := .cons (v_pop d_M_readUnit_215) (.cons (v_aload_n (i := 0) d_M_readUnit_216 rfl) .nil)
theorem d_M_readUnit_217 : decode y_M_readUnit.2.1 217 = .ok (.invokevirtual 222, 3) := by decide +kernel
theorem b_M_readUnit_215 {X : aw_X} {d : Nat} {Q : Option Value → aw_H → Prop} {I : Nat → Nat → Int32} {L : Nat → Nat → Int64} {D : Nat → Nat} {s0 : Int32}
    (h1 : aw_m X d y_M_go [.ref 69] (aw_s I L D) (fun r A => aw_z X (d + 1) y_M_readUnit Q 220 [none, none] (r.toList ++ []) A)) :
    aw_z X (d + 1) y_M_readUnit Q 215 [some (.ref 69), none] [.int s0] (aw_s I L D) :=
  (s_M_readUnit_215.go [some (.ref 69), none] [.ref 69] (aw_s I L D) rfl (z_callV (av := []) (st := []) ok_M_go (Or.inl w_1760) w_1762 w_75 k_M d_M_readUnit_217 rfl (aw_lt (o := 69) rfl) rfl rfl (Nat.le_of_ble_eq_true rfl) (Nat.le_refl _) (Nat.le_refl _) (aw_C.mono (h1) (fun _ _ zz => aw_Z.weak (ls' := [none, none]) zz (Nat.le_of_ble_eq_true rfl) ⟨Or.inl rfl, ⟨Or.inl rfl, trivial⟩⟩))))
theorem d_M_readUnit_189 : decode y_M_readUnit.2.1 189 = .ok (.pop, 1) := by decide +kernel
theorem d_M_readUnit_190 : decode y_M_readUnit.2.1 190 = .ok (.aload_n 0, 1) := by decide +kernel
theorem s_M_readUnit_189 : aw_VS y_M_readUnit 189 [o_pop, o_ald 0] 191 := .cons (v_pop d_M_readUnit_189) (.cons (v_aload_n (i := 0) d_M_readUnit_190 rfl) .nil)
theorem d_M_readUnit_191 : decode y_M_readUnit.2.1 191 = .ok (.invokevirtual 222, 3) := by decide +kernel
theorem b_M_readUnit_189 {X : aw_X} {d : Nat} {Q : Option Value → aw_H → Prop} {I : Nat → Nat → Int32} {L : Nat → Nat → Int64} {D : Nat → Nat} {s0 : Int32}
    (h1 : aw_m X d y_M_go [.ref 69] (aw_s I L D) (fun r A => aw_z X (d + 1) y_M_readUnit Q 194 [none, none] (r.toList ++ []) A)) :
    aw_z X (d + 1) y_M_readUnit Q 189 [some (.ref 69), none] [.int s0] (aw_s I L D) :=
  (s_M_readUnit_189.go [some (.ref 69), none] [.ref 69] (aw_s I L D) rfl (z_callV (av := []) (st := []) ok_M_go (Or.inl w_1760) w_1762 w_75 k_M d_M_readUnit_191 rfl (aw_lt (o := 69) rfl) rfl rfl (Nat.le_of_ble_eq_true rfl) (Nat.le_refl _) (Nat.le_refl _) (aw_C.mono (h1) (fun _ _ zz => aw_Z.weak (ls' := [none, none]) zz (Nat.le_of_ble_eq_true rfl) ⟨Or.inl rfl, ⟨Or.inl rfl, trivial⟩⟩))))
theorem d_M_readUnit_289 : decode y_M_readUnit.2.1 289 = .ok (.iastore, 1) := by decide +kernel
theorem d_M_readUnit_290 : decode y_M_readUnit.2.1 290 = .ok (.aload_n 0, 1) := by decide +kernel
theorem d_M_readUnit_291 : decode y_M_readUnit.2.1 291 = .ok (.dup, 1) := by decide +kernel
theorem d_M_readUnit_292 : decode y_M_readUnit.2.1 292 = .ok (.getfield 231, 3) := by decide +kernel
theorem d_M_readUnit_295 : decode y_M_readUnit.2.1 295 = .ok (.iconst 1, 1) := by decide +kernel
theorem d_M_readUnit_296 : decode y_M_readUnit.2.1 296 = .ok (.iadd, 1) := by decide +kernel
theorem d_M_readUnit_297 : decode y_M_readUnit.2.1 297 = .ok (.putfield 231, 3) := by decide +kernel
theorem d_M_readUnit_300 : decode y_M_readUnit.2.1 300 = .ok (.aload_n 0, 1) := by decide +kernel
theorem s_M_readUnit_290 : aw_VS y_M_readUnit 290 [o_ald 0, o_dup, o_getI 9 25, o_c (.int (1 : Int32)), o_i2 (fun x z => x + z), o_putI 9 25, o_ald 0] 301 := .cons (v_aload_n (i := 0) d_M_readUnit_290 rfl) (.cons (v_dup d_M_readUnit_291) (.cons (v_getI (k := 25) k_M (by decide) (Or.inl rfl) (Or.inl w_1486) d_M_readUnit_292) (.cons (v_iconst (v := (1 : Int32)) d_M_readUnit_295 (by decide +kernel)) (.cons (v_iadd d_M_readUnit_296) (.cons (v_putI (k := 25) k_M (by decide) rfl (Or.inl ⟨rfl, Or.inl w_1486⟩) d_M_readUnit_297) (.cons (v_aload_n (i := 0) d_M_readUnit_300 rfl) .nil))))))
theorem d_M_readUnit_301 : decode y_M_readUnit.2.1 301 = .ok (.invokevirtual 222, 3) := by decide +kernel
theorem b_M_readUnit_289 {X : aw_X} {d : Nat} {Q : Option Value → aw_H → Prop} {I : Nat → Nat → Int32} {L : Nat → Nat → Int64} {D : Nat → Nat} {s2 : Int32} {s1 : Int32}
    (h1 : vp_in s1 200)
    (h2 : aw_m X d y_M_go [.ref 69] (aw_s (aw_u (aw_u I 79 s1.toNatClampNeg s2) 69 25 ((I 69 25) + (1 : Int32))) L D) (fun r A => aw_z X (d + 1) y_M_readUnit Q 304 [some (.ref 69), none] (r.toList ++ []) A)) :
    aw_z X (d + 1) y_M_readUnit Q 289 [some (.ref 69), none] [.int s2, .int s1, .ref 79] (aw_s I L D) :=
  (z_iast (n := 200) rfl (aw_lt (o := 79) rfl) (h1) d_M_readUnit_289 (s_M_readUnit_290.go [some (.ref 69), none] [.ref 69] (aw_s (aw_u (aw_u I 79 s1.toNatClampNeg s2) 69 25 ((I 69 25) + (1 : Int32))) L D) rfl (z_callV (av := []) (st := []) ok_M_go (Or.inl w_1760) w_1762 w_75 k_M d_M_readUnit_301 rfl (aw_lt (o := 69) rfl) rfl rfl (Nat.le_of_ble_eq_true rfl) (Nat.le_refl _) (Nat.le_refl _) (h2))))
theorem d_M_readUnit_236 : decode y_M_readUnit.2.1 236 = .ok (.ifCond .ne (9), 3) := by decide +kernel
theorem d_M_readUnit_245 : decode y_M_readUnit.2.1 245 = .ok (.aload_n 0, 1) := by decide +kernel
theorem d_M_readUnit_246 : decode y_M_readUnit.2.1 246 = .ok (.getfield 259, 3) := by decide +kernel
theorem d_M_readUnit_249 : decode y_M_readUnit.2.1 249 = .ok (.bipush 10, 2) := by decide +kernel
theorem s_M_readUnit_245 : aw_VS y_M_readUnit 245 [o_ald 0, o_getI 9 27, o_c (.int (10 : Int32))] 251 := .cons (v_aload_n (i := 0) d_M_readUnit_245 rfl) (.cons (v_getI (k := 27) k_M (by decide) (Or.inl rfl) (Or.inl w_1488) d_M_readUnit_246) (.cons (v_bipush (v := (10 : Int32)) d_M_readUnit_249 (by decide +kernel)) .nil))
theorem d_M_readUnit_251 : decode y_M_readUnit.2.1 251 = .ok (.if_icmp .ne (9), 3) := by decide +kernel
theorem d_M_readUnit_254 : decode y_M_readUnit.2.1 254 = .ok (.aload_n 0, 1) := by decide +kernel
theorem d_M_readUnit_255 : decode y_M_readUnit.2.1 255 = .ok (.iconst 3, 1) := by decide +kernel
theorem s_M_readUnit_254 : aw_VS y_M_readUnit 254 [o_ald 0, o_c (.int (3 : Int32))] 256 := .cons (v_aload_n (i := 0) d_M_readUnit_254 rfl) (.cons (v_iconst (v := (3 : Int32)) d_M_readUnit_255 (by decide +kernel)) .nil)
theorem d_M_readUnit_256 : decode y_M_readUnit.2.1 256 = .ok (.invokevirtual 219, 3) := by decide +kernel
theorem d_M_readUnit_239 : decode y_M_readUnit.2.1 239 = .ok (.aload_n 0, 1) := by decide +kernel
theorem d_M_readUnit_240 : decode y_M_readUnit.2.1 240 = .ok (.iconst 1, 1) := by decide +kernel
theorem s_M_readUnit_239 : aw_VS y_M_readUnit 239 [o_ald 0, o_c (.int (1 : Int32))] 241 := .cons (v_aload_n (i := 0) d_M_readUnit_239 rfl) (.cons (v_iconst (v := (1 : Int32)) d_M_readUnit_240 (by decide +kernel)) .nil)
theorem d_M_readUnit_241 : decode y_M_readUnit.2.1 241 = .ok (.invokevirtual 219, 3) := by decide +kernel
theorem b_M_readUnit_236 {X : aw_X} {d : Nat} {Q : Option Value → aw_H → Prop} {I : Nat → Nat → Int32} {L : Nat → Nat → Int64} {D : Nat → Nat} {v1 : Int32} {s0 : Int32}
    (h1 : ¬ s0 = 0 → ¬ (I 69 27) = (10 : Int32) → aw_z X (d + 1) y_M_readUnit Q 260 [some (.ref 69), some (.int v1)] [] (aw_s I L D))
    (h2 : ¬ s0 = 0 → (I 69 27) = (10 : Int32) → aw_m X d y_M_bad [.ref 69, .int (3 : Int32)] (aw_s I L D) (fun r A => aw_z X (d + 1) y_M_readUnit Q 259 [none, none] (r.toList ++ []) A))
    (h3 : s0 = 0 → aw_m X d y_M_bad [.ref 69, .int (1 : Int32)] (aw_s I L D) (fun r A => aw_z X (d + 1) y_M_readUnit Q 244 [none, none] (r.toList ++ []) A)) :
    aw_z X (d + 1) y_M_readUnit Q 236 [some (.ref 69), some (.int v1)] [.int s0] (aw_s I L D) :=
  (z_if_ne (tgt := 245) d_M_readUnit_236 rfl (fun q1 => (s_M_readUnit_245.go [some (.ref 69), some (.int v1)] [.int (10 : Int32), .int (I 69 27)] (aw_s I L D) rfl (z_icmp_ne (tgt := 260) d_M_readUnit_251 rfl (fun q3 => (h1 q1 q3)) (fun q4 => (s_M_readUnit_254.go [some (.ref 69), some (.int v1)] [.int (3 : Int32), .ref 69] (aw_s I L D) rfl (z_callV (av := [.int (3 : Int32)]) (st := []) ok_M_bad (Or.inl w_1806) w_1808 w_83 k_M d_M_readUnit_256 rfl (aw_lt (o := 69) rfl) rfl rfl (Nat.le_of_ble_eq_true rfl) (Nat.le_refl _) (Nat.le_refl _) (aw_C.mono (h2 q1 q4) (fun _ _ zz => aw_Z.weak (ls' := [none, none]) zz (Nat.le_of_ble_eq_true rfl) ⟨Or.inl rfl, ⟨Or.inl rfl, trivial⟩⟩)))))))) (fun q2 => (s_M_readUnit_239.go [some (.ref 69), some (.int v1)] [.int (1 : Int32), .ref 69] (aw_s I L D) rfl (z_callV (av := [.int (1 : Int32)]) (st := []) ok_M_bad (Or.inl w_1806) w_1808 w_83 k_M d_M_readUnit_241 rfl (aw_lt (o := 69) rfl) rfl rfl (Nat.le_of_ble_eq_true rfl) (Nat.le_refl _) (Nat.le_refl _) (aw_C.mono (h3 q2) (fun _ _ zz => aw_Z.weak (ls' := [none, none]) zz (Nat.le_of_ble_eq_true rfl) ⟨Or.inl rfl, ⟨Or.inl rfl, trivial⟩⟩))))))
theorem d_M_readUnit_220 : decode y_M_readUnit.2.1 220 = .ok (.iconst 1, 1) := by decide +kernel
theorem s_M_readUnit_220 : aw_VS y_M_readUnit 220 [o_c (.int (1 : Int32))] 221 := .cons (v_iconst (v := (1 : Int32)) d_M_readUnit_220 (by decide +kernel)) .nil
theorem d_M_readUnit_221 : decode y_M_readUnit.2.1 221 = .ok (.ireturn, 1) := by decide +kernel
theorem b_M_readUnit_220 {X : aw_X} {d : Nat} {Q : Option Value → aw_H → Prop} {I : Nat → Nat → Int32} {L : Nat → Nat → Int64} {D : Nat → Nat} 
    (h1 : Q (some (.int (1 : Int32))) (aw_s I L D)) :
    aw_z X (d + 1) y_M_readUnit Q 220 [none, none] [] (aw_s I L D) :=
  (s_M_readUnit_220.go [none, none] [.int (1 : Int32)] (aw_s I L D) rfl (z_iret d_M_readUnit_221 rfl (aw_nz (by decide +kernel)) (h1)))
theorem d_M_readUnit_194 : decode y_M_readUnit.2.1 194 = .ok (.iconst 1, 1) := by decide +kernel
theorem s_M_readUnit_194 : aw_VS y_M_readUnit 194 [o_c (.int (1 : Int32))] 195 := .cons (v_iconst (v := (1 : Int32)) d_M_readUnit_194 (by decide +kernel)) .nil
theorem d_M_readUnit_195 : decode y_M_readUnit.2.1 195 = .ok (.ireturn, 1) := by decide +kernel
theorem b_M_readUnit_194 {X : aw_X} {d : Nat} {Q : Option Value → aw_H → Prop} {I : Nat → Nat → Int32} {L : Nat → Nat → Int64} {D : Nat → Nat} 
    (h1 : Q (some (.int (1 : Int32))) (aw_s I L D)) :
    aw_z X (d + 1) y_M_readUnit Q 194 [none, none] [] (aw_s I L D) :=
  (s_M_readUnit_194.go [none, none] [.int (1 : Int32)] (aw_s I L D) rfl (z_iret d_M_readUnit_195 rfl (aw_nz (by decide +kernel)) (h1)))
theorem d_M_readUnit_304 : decode y_M_readUnit.2.1 304 = .ok (.goto (-304), 3) := by decide +kernel
theorem b_M_readUnit_304 {X : aw_X} {d : Nat} {Q : Option Value → aw_H → Prop} {I : Nat → Nat → Int32} {L : Nat → Nat → Int64} {D : Nat → Nat} 
    (h1 : aw_z X (d + 1) y_M_readUnit Q 0 [some (.ref 69), none] [] (aw_s I L D)) :
    aw_z X (d + 1) y_M_readUnit Q 304 [some (.ref 69), none] [] (aw_s I L D) :=
  (z_goto (tgt := 0) d_M_readUnit_304 rfl (h1))
theorem d_M_readUnit_259 : decode y_M_readUnit.2.1 259 = .ok (.ireturn, 1) := by decide +kernel
theorem b_M_readUnit_259 {X : aw_X} {d : Nat} {Q : Option Value → aw_H → Prop} {I : Nat → Nat → Int32} {L : Nat → Nat → Int64} {D : Nat → Nat} {s0 : Int32}
    (h1 : (s0 = 0 ∨ s0 = 1))
    (h2 : Q (some (.int s0)) (aw_s I L D)) :
    aw_z X (d + 1) y_M_readUnit Q 259 [none, none] [.int s0] (aw_s I L D) :=
  (z_iret d_M_readUnit_259 rfl (aw_nz (h1)) (h2))
theorem d_M_readUnit_244 : decode y_M_readUnit.2.1 244 = .ok (.ireturn, 1) := by decide +kernel
theorem b_M_readUnit_244 {X : aw_X} {d : Nat} {Q : Option Value → aw_H → Prop} {I : Nat → Nat → Int32} {L : Nat → Nat → Int64} {D : Nat → Nat} {s0 : Int32}
    (h1 : (s0 = 0 ∨ s0 = 1))
    (h2 : Q (some (.int s0)) (aw_s I L D)) :
    aw_z X (d + 1) y_M_readUnit Q 244 [none, none] [.int s0] (aw_s I L D) :=
  (z_iret d_M_readUnit_244 rfl (aw_nz (h1)) (h2))
/-! M_closes -/
theorem d_M_closes_0 : decode y_M_closes.2.1 0 = .ok (.aload_n 0, 1) := by decide +kernel
theorem d_M_closes_1 : decode y_M_closes.2.1 1 = .ok (.getfield 231, 3) := by decide +kernel
theorem d_M_closes_4 : decode y_M_closes.2.1 4 = .ok (.iconst 1, 1) := by decide +kernel
theorem d_M_closes_5 : decode y_M_closes.2.1 5 = .ok (.isub, 1) := by decide +kernel
theorem d_M_closes_6 : decode y_M_closes.2.1 6 = .ok (.istore_n 3, 1) := by decide +kernel
theorem s_M_closes_0 : aw_VS y_M_closes 0 [o_ald 0, o_getI 9 25, o_c (.int (1 : Int32)), o_i2 (fun x z => x - z), o_ist 3] 7 := .cons (v_aload_n (i := 0) d_M_closes_0 rfl) (.cons (v_getI (k := 25) k_M (by decide) (Or.inl rfl) (Or.inl w_1486) d_M_closes_1) (.cons (v_iconst (v := (1 : Int32)) d_M_closes_4 (by decide +kernel)) (.cons (v_isub d_M_closes_5) (.cons (v_istore_n d_M_closes_6) .nil))))
theorem b_M_closes_0 {X : aw_X} {d : Nat} {Q : Option Value → aw_H → Prop} {I : Nat → Nat → Int32} {L : Nat → Nat → Int64} {D : Nat → Nat} {v1 : Int32} {v2 : Int32}
    (h1 : aw_z X d y_M_closes Q 7 [some (.ref 69), some (.int v1), some (.int v2), some (.int ((I 69 25) - (1 : Int32)))] [] (aw_s I L D)) :
    aw_z X d y_M_closes Q 0 [some (.ref 69), some (.int v1), some (.int v2), none] [] (aw_s I L D) :=
  (s_M_closes_0.go [some (.ref 69), some (.int v1), some (.int v2), some (.int ((I 69 25) - (1 : Int32)))] [] (aw_s I L D) rfl (h1))
theorem d_M_closes_7 : decode y_M_closes.2.1 7 = .ok (.iload_n 3, 1) := by decide +kernel
theorem d_M_closes_8 : decode y_M_closes.2.1 8 = .ok (.iload_n 1, 1) := by decide +kernel
theorem s_M_closes_7 : aw_VS y_M_closes 7 [o_ild 3, o_ild 1] 9 := .cons (v_iload_n (i := 3) d_M_closes_7 rfl) (.cons (v_iload_n (i := 1) d_M_closes_8 rfl) .nil)
theorem d_M_closes_9 : decode y_M_closes.2.1 9 = .ok (.if_icmp .lt (20), 3) := by decide +kernel
theorem d_M_closes_12 : decode y_M_closes.2.1 12 = .ok (.aload_n 0, 1) := by decide +kernel
theorem d_M_closes_13 : decode y_M_closes.2.1 13 = .ok (.getfield 38, 3) := by decide +kernel
theorem d_M_closes_16 : decode y_M_closes.2.1 16 = .ok (.iload_n 3, 1) := by decide +kernel
theorem s_M_closes_12 : aw_VS y_M_closes 12 [o_ald 0, o_getA 9 20, o_ild 3] 17 := .cons (v_aload_n (i := 0) d_M_closes_12 rfl) (.cons (v_getA (k := 20) k_M (by decide) rfl (Or.inl w_1481) d_M_closes_13) (.cons (v_iload_n (i := 3) d_M_closes_16 rfl) .nil))
theorem d_M_closes_17 : decode y_M_closes.2.1 17 = .ok (.iaload, 1) := by decide +kernel
theorem d_M_closes_18 : decode y_M_closes.2.1 18 = .ok (.bipush 26, 2) := by decide +kernel
theorem s_M_closes_18 : aw_VS y_M_closes 18 [o_c (.int (26 : Int32))] 20 := .cons (v_bipush (v := (26 : Int32)) d_M_closes_18 (by decide +kernel)) .nil
theorem d_M_closes_20 : decode y_M_closes.2.1 20 = .ok (.if_icmp .ge (9), 3) := by decide +kernel
theorem d_M_closes_23 : decode y_M_closes.2.1 23 = .ok (.iinc 3 (-1), 3) := by decide +kernel
theorem s_M_closes_23 : aw_VS y_M_closes 23 [o_inc 3 (-1 : Int32)] 26 := .cons (v_iinc (k0 := (-1 : Int32)) d_M_closes_23 (by decide +kernel)) .nil
theorem d_M_closes_26 : decode y_M_closes.2.1 26 = .ok (.goto (-19), 3) := by decide +kernel
theorem b_M_closes_7 {X : aw_X} {d : Nat} {Q : Option Value → aw_H → Prop} {I : Nat → Nat → Int32} {L : Nat → Nat → Int64} {D : Nat → Nat} {v1 : Int32} {v2 : Int32} {v3 : Int32}
    (h1 : v3 < v1 → aw_z X d y_M_closes Q 29 [some (.ref 69), some (.int v1), some (.int v2), some (.int v3)] [] (aw_s I L D))
    (h2 : ¬ v3 < v1 → vp_in v3 200)
    (h3 : ¬ v3 < v1 → (26 : Int32) ≤ (I 79 v3.toNatClampNeg) → aw_z X d y_M_closes Q 29 [some (.ref 69), some (.int v1), some (.int v2), some (.int v3)] [] (aw_s I L D))
    (h4 : ¬ v3 < v1 → ¬ (26 : Int32) ≤ (I 79 v3.toNatClampNeg) → aw_z X d y_M_closes Q 7 [some (.ref 69), some (.int v1), some (.int v2), some (.int (v3 + (-1 : Int32)))] [] (aw_s I L D)) :
    aw_z X d y_M_closes Q 7 [some (.ref 69), some (.int v1), some (.int v2), some (.int v3)] [] (aw_s I L D) :=
  (s_M_closes_7.go [some (.ref 69), some (.int v1), some (.int v2), some (.int v3)] [.int v1, .int v3] (aw_s I L D) rfl (z_icmp_lt (tgt := 29) d_M_closes_9 rfl (fun q1 => (h1 q1)) (fun q2 => (s_M_closes_12.go [some (.ref 69), some (.int v1), some (.int v2), some (.int v3)] [.int v3, .ref 79] (aw_s I L D) rfl (z_iald (n := 200) rfl (aw_lt (o := 79) rfl) (h2 q2) d_M_closes_17 (s_M_closes_18.go [some (.ref 69), some (.int v1), some (.int v2), some (.int v3)] [.int (26 : Int32), .int (I 79 v3.toNatClampNeg)] (aw_s I L D) rfl (z_icmp_ge (tgt := 29) d_M_closes_20 rfl (fun q3 => (h3 q2 q3)) (fun q4 => (s_M_closes_23.go [some (.ref 69), some (.int v1), some (.int v2), some (.int (v3 + (-1 : Int32)))] [] (aw_s I L D) rfl (z_goto (tgt := 7) d_M_closes_26 rfl (h4 q2 q4)))))))))))
theorem d_M_closes_29 : decode y_M_closes.2.1 29 = .ok (.iload_n 3, 1) := by decide +kernel
theorem d_M_closes_30 : decode y_M_closes.2.1 30 = .ok (.iload_n 1, 1) := by decide +kernel
theorem s_M_closes_29 : aw_VS y_M_closes 29 [o_ild 3, o_ild 1] 31 := .cons (v_iload_n (i := 3) d_M_closes_29 rfl) (.cons (v_iload_n (i := 1) d_M_closes_30 rfl) .nil)
theorem d_M_closes_31 : decode y_M_closes.2.1 31 = .ok (.if_icmp .lt (17), 3) := by decide +kernel
theorem d_M_closes_48 : decode y_M_closes.2.1 48 = .ok (.iconst 0, 1) := by decide +kernel
theorem s_M_closes_48 : aw_VS y_M_closes 48 [o_c (.int (0 : Int32))] 49 := .cons (v_iconst (v := (0 : Int32)) d_M_closes_48 (by decide +kernel)) .nil
theorem d_M_closes_49 : decode y_M_closes.2.1 49 = .ok (.ireturn, 1) := by decide +kernel
theorem d_M_closes_34 : decode y_M_closes.2.1 34 = .ok (.aload_n 0, 1) := by decide +kernel
theorem d_M_closes_35 : decode y_M_closes.2.1 35 = .ok (.getfield 38, 3) := by decide +kernel
theorem d_M_closes_38 : decode y_M_closes.2.1 38 = .ok (.iload_n 3, 1) := by decide +kernel
theorem s_M_closes_34 : aw_VS y_M_closes 34 [o_ald 0, o_getA 9 20, o_ild 3] 39 := .cons (v_aload_n (i := 0) d_M_closes_34 rfl) (.cons (v_getA (k := 20) k_M (by decide) rfl (Or.inl w_1481) d_M_closes_35) (.cons (v_iload_n (i := 3) d_M_closes_38 rfl) .nil))
theorem d_M_closes_39 : decode y_M_closes.2.1 39 = .ok (.iaload, 1) := by decide +kernel
theorem d_M_closes_40 : decode y_M_closes.2.1 40 = .ok (.iload_n 2, 1) := by decide +kernel
theorem s_M_closes_40 : aw_VS y_M_closes 40 [o_ild 2] 41 := .cons (v_iload_n (i := 2) d_M_closes_40 rfl) .nil
theorem d_M_closes_41 : decode y_M_closes.2.1 41 = .ok (.if_icmp .ne (7), 3) := by decide +kernel
theorem d_M_closes_44 : decode y_M_closes.2.1 44 = .ok (.iconst 1, 1) := by decide +kernel
theorem s_M_closes_44 : aw_VS y_M_closes 44 [o_c (.int (1 : Int32))] 45 := .cons (v_iconst (v := (1 : Int32)) d_M_closes_44 (by decide +kernel)) .nil
theorem d_M_closes_45 : decode y_M_closes.2.1 45 = .ok (.goto (4), 3) := by decide +kernel
theorem b_M_closes_29 {X : aw_X} {d : Nat} {Q : Option Value → aw_H → Prop} {I : Nat → Nat → Int32} {L : Nat → Nat → Int64} {D : Nat → Nat} {v1 : Int32} {v2 : Int32} {v3 : Int32}
    (h1 : v3 < v1 → Q (some (.int (0 : Int32))) (aw_s I L D))
    (h2 : ¬ v3 < v1 → vp_in v3 200)
    (h3 : ¬ v3 < v1 → ¬ (I 79 v3.toNatClampNeg) = v2 → Q (some (.int (0 : Int32))) (aw_s I L D))
    (h4 : ¬ v3 < v1 → (I 79 v3.toNatClampNeg) = v2 → Q (some (.int (1 : Int32))) (aw_s I L D)) :
    aw_z X d y_M_closes Q 29 [some (.ref 69), some (.int v1), some (.int v2), some (.int v3)] [] (aw_s I L D) :=
  (s_M_closes_29.go [some (.ref 69), some (.int v1), some (.int v2), some (.int v3)] [.int v1, .int v3] (aw_s I L D) rfl (z_icmp_lt (tgt := 48) d_M_closes_31 rfl (fun q1 => (s_M_closes_48.go [some (.ref 69), some (.int v1), some (.int v2), some (.int v3)] [.int (0 : Int32)] (aw_s I L D) rfl (z_iret d_M_closes_49 rfl (aw_nz (by decide +kernel)) (h1 q1)))) (fun q2 => (s_M_closes_34.go [some (.ref 69), some (.int v1), some (.int v2), some (.int v3)] [.int v3, .ref 79] (aw_s I L D) rfl (z_iald (n := 200) rfl (aw_lt (o := 79) rfl) (h2 q2) d_M_closes_39 (s_M_closes_40.go [some (.ref 69), some (.int v1), some (.int v2), some (.int v3)] [.int v2, .int (I 79 v3.toNatClampNeg)] (aw_s I L D) rfl (z_icmp_ne (tgt := 48) d_M_closes_41 rfl (fun q3 => (s_M_closes_48.go [some (.ref 69), some (.int v1), some (.int v2), some (.int v3)] [.int (0 : Int32)] (aw_s I L D) rfl (z_iret d_M_closes_49 rfl (aw_nz (by decide +kernel)) (h3 q2 q3)))) (fun q4 => (s_M_closes_44.go [some (.ref 69), some (.int v1), some (.int v2), some (.int v3)] [.int (1 : Int32)] (aw_s I L D) rfl (z_goto (tgt := 49) d_M_closes_45 rfl (z_iret d_M_closes_49 rfl (aw_nz (by decide +kernel)) (h4 q2 q4))))))))))))
/-! M_drop -/
theorem d_M_drop_0 : decode y_M_drop.2.1 0 = .ok (.aload_n 0, 1) := by decide +kernel
theorem d_M_drop_1 : decode y_M_drop.2.1 1 = .ok (.getfield 231, 3) := by decide +kernel
theorem s_M_drop_0 : aw_VS y_M_drop 0 [o_ald 0, o_getI 9 25] 4 := .cons (v_aload_n (i := 0) d_M_drop_0 rfl) (.cons (v_getI (k := 25) k_M (by decide) (Or.inl rfl) (Or.inl w_1486) d_M_drop_1) .nil)
theorem d_M_drop_4 : decode y_M_drop.2.1 4 = .ok (.ifCond .le (50), 3) := by decide +kernel
theorem d_M_drop_54 : decode y_M_drop.2.1 54 = .ok (.return_, 1) := by decide +kernel
theorem d_M_drop_7 : decode y_M_drop.2.1 7 = .ok (.aload_n 0, 1) := by decide +kernel
theorem d_M_drop_8 : decode y_M_drop.2.1 8 = .ok (.getfield 38, 3) := by decide +kernel
theorem d_M_drop_11 : decode y_M_drop.2.1 11 = .ok (.aload_n 0, 1) := by decide +kernel
theorem d_M_drop_12 : decode y_M_drop.2.1 12 = .ok (.getfield 231, 3) := by decide +kernel
theorem d_M_drop_15 : decode y_M_drop.2.1 15 = .ok (.iconst 1, 1) := by decide +kernel
theorem d_M_drop_16 : decode y_M_drop.2.1 16 = .ok (.isub, 1) := by decide +kernel
theorem s_M_drop_7 : aw_VS y_M_drop 7 [o_ald 0, o_getA 9 20, o_ald 0, o_getI 9 25, o_c (.int (1 : Int32)), o_i2 (fun x z => x - z)] 17 := .cons (v_aload_n (i := 0) d_M_drop_7 rfl) (.cons (v_getA (k := 20) k_M (by decide) rfl (Or.inl w_1481) d_M_drop_8) (.cons (v_aload_n (i := 0) d_M_drop_11 rfl) (.cons (v_getI (k := 25) k_M (by decide) (Or.inl rfl) (Or.inl w_1486) d_M_drop_12) (.cons (v_iconst (v := (1 : Int32)) d_M_drop_15 (by decide +kernel)) (.cons (v_isub d_M_drop_16) .nil)))))
theorem d_M_drop_17 : decode y_M_drop.2.1 17 = .ok (.iaload, 1) := by decide +kernel
theorem d_M_drop_18 : decode y_M_drop.2.1 18 = .ok (.iload_n 1, 1) := by decide +kernel
theorem d_M_drop_19 : decode y_M_drop.2.1 19 = .ok (.iload_n 2, 1) := by decide +kernel
theorem s_M_drop_18 : aw_VS y_M_drop 18 [o_ild 1, o_ild 2] 20 := .cons (v_iload_n (i := 1) d_M_drop_18 rfl) (.cons (v_iload_n (i := 2) d_M_drop_19 rfl) .nil)
theorem d_M_drop_20 : decode y_M_drop.2.1 20 = .ok (.invokestatic 234, 3) := by decide +kernel
theorem b_M_drop_0 {X : aw_X} {d : Nat} {Q : Option Value → aw_H → Prop} {I : Nat → Nat → Int32} {L : Nat → Nat → Int64} {D : Nat → Nat} {v1 : Int32} {v2 : Int32}
    (h1 : (I 69 25) ≤ 0 → Q none (aw_s I L D))
    (h2 : ¬ (I 69 25) ≤ 0 → vp_in ((I 69 25) - (1 : Int32)) 200)
    (h3 : ¬ (I 69 25) ≤ 0 → aw_m X d y_M_isIn [.int (I 79 (((I 69 25) - (1 : Int32)).toNatClampNeg)), .int v1, .int v2] (aw_s I L D) (fun r A => aw_z X (d + 1) y_M_drop Q 23 [some (.ref 69), some (.int v1), some (.int v2)] (r.toList ++ []) A)) :
    aw_z X (d + 1) y_M_drop Q 0 [some (.ref 69), some (.int v1), some (.int v2)] [] (aw_s I L D) :=
  (s_M_drop_0.go [some (.ref 69), some (.int v1), some (.int v2)] [.int (I 69 25)] (aw_s I L D) rfl (z_if_le (tgt := 54) d_M_drop_4 rfl (fun q1 => (z_vret d_M_drop_54 rfl (h1 q1))) (fun q2 => (s_M_drop_7.go [some (.ref 69), some (.int v1), some (.int v2)] [.int ((I 69 25) - (1 : Int32)), .ref 79] (aw_s I L D) rfl (z_iald (n := 200) rfl (aw_lt (o := 79) rfl) (h2 q2) d_M_drop_17 (s_M_drop_18.go [some (.ref 69), some (.int v1), some (.int v2)] [.int v2, .int v1, .int (I 79 (((I 69 25) - (1 : Int32)).toNatClampNeg))] (aw_s I L D) rfl (z_callS (av := [.int (I 79 (((I 69 25) - (1 : Int32)).toNatClampNeg)), .int v1, .int v2]) (st := []) ok_M_isIn (Or.inl w_1873) w_1874 d_M_drop_20 rfl rfl (Nat.le_of_ble_eq_true rfl) (Nat.le_refl _) (Nat.le_refl _) (h3 q2))))))))
theorem d_M_drop_23 : decode y_M_drop.2.1 23 = .ok (.ifCond .eq (31), 3) := by decide +kernel
theorem d_M_drop_26 : decode y_M_drop.2.1 26 = .ok (.aload_n 0, 1) := by decide +kernel
theorem d_M_drop_27 : decode y_M_drop.2.1 27 = .ok (.dup, 1) := by decide +kernel
theorem d_M_drop_28 : decode y_M_drop.2.1 28 = .ok (.getfield 231, 3) := by decide +kernel
theorem d_M_drop_31 : decode y_M_drop.2.1 31 = .ok (.iconst 1, 1) := by decide +kernel
theorem d_M_drop_32 : decode y_M_drop.2.1 32 = .ok (.isub, 1) := by decide +kernel
theorem d_M_drop_33 : decode y_M_drop.2.1 33 = .ok (.putfield 231, 3) := by decide +kernel
theorem d_M_drop_36 : decode y_M_drop.2.1 36 = .ok (.aload_n 0, 1) := by decide +kernel
theorem d_M_drop_37 : decode y_M_drop.2.1 37 = .ok (.aload_n 0, 1) := by decide +kernel
theorem d_M_drop_38 : decode y_M_drop.2.1 38 = .ok (.getfield 38, 3) := by decide +kernel
theorem d_M_drop_41 : decode y_M_drop.2.1 41 = .ok (.aload_n 0, 1) := by decide +kernel
theorem d_M_drop_42 : decode y_M_drop.2.1 42 = .ok (.getfield 231, 3) := by decide +kernel
theorem s_M_drop_26 : aw_VS y_M_drop 26 [o_ald 0, o_dup, o_getI 9 25, o_c (.int (1 : Int32)), o_i2 (fun x z => x - z), o_putI 9 25, o_ald 0, o_ald 0, o_getA 9 20, o_ald 0, o_getI 9 25] 45 := .cons (v_aload_n (i := 0) d_M_drop_26 rfl) (.cons (v_dup d_M_drop_27) (.cons (v_getI (k := 25) k_M (by decide) (Or.inl rfl) (Or.inl w_1486) d_M_drop_28) (.cons (v_iconst (v := (1 : Int32)) d_M_drop_31 (by decide +kernel)) (.cons (v_isub d_M_drop_32) (.cons (v_putI (k := 25) k_M (by decide) rfl (Or.inl ⟨rfl, Or.inl w_1486⟩) d_M_drop_33) (.cons (v_aload_n (i := 0) d_M_drop_36 rfl) (.cons (v_aload_n (i := 0) d_M_drop_37 rfl) (.cons (v_getA (k := 20) k_M (by decide) rfl (Or.inl w_1481) d_M_drop_38) (.cons (v_aload_n (i := 0) d_M_drop_41 rfl) (.cons (v_getI (k := 25) k_M (by decide) (Or.inl rfl) (Or.inl w_1486) d_M_drop_42) .nil))))))))))
theorem d_M_drop_45 : decode y_M_drop.2.1 45 = .ok (.iaload, 1) := by decide +kernel
theorem d_M_drop_46 : decode y_M_drop.2.1 46 = .ok (.iconst 0, 1) := by decide +kernel
theorem s_M_drop_46 : aw_VS y_M_drop 46 [o_c (.int (0 : Int32))] 47 := .cons (v_iconst (v := (0 : Int32)) d_M_drop_46 (by decide +kernel)) .nil
theorem d_M_drop_47 : decode y_M_drop.2.1 47 = .ok (.invokevirtual 238, 3) := by decide +kernel
theorem b_M_drop_23 {X : aw_X} {d : Nat} {Q : Option Value → aw_H → Prop} {I : Nat → Nat → Int32} {L : Nat → Nat → Int64} {D : Nat → Nat} {v1 : Int32} {v2 : Int32} {s0 : Int32}
    (h1 : s0 = 0 → Q none (aw_s I L D))
    (h2 : ¬ s0 = 0 → vp_in ((I 69 25) - (1 : Int32)) 200)
    (h3 : ¬ s0 = 0 → aw_m X d y_M_emit [.ref 69, .int (I 79 (((I 69 25) - (1 : Int32)).toNatClampNeg)), .int (0 : Int32)] (aw_s (aw_u I 69 25 ((I 69 25) - (1 : Int32))) L D) (fun r A => aw_z X (d + 1) y_M_drop Q 50 [some (.ref 69), some (.int v1), some (.int v2)] (r.toList ++ []) A)) :
    aw_z X (d + 1) y_M_drop Q 23 [some (.ref 69), some (.int v1), some (.int v2)] [.int s0] (aw_s I L D) :=
  (z_if_eq (tgt := 54) d_M_drop_23 rfl (fun q1 => (z_vret d_M_drop_54 rfl (h1 q1))) (fun q2 => (s_M_drop_26.go [some (.ref 69), some (.int v1), some (.int v2)] [.int ((I 69 25) - (1 : Int32)), .ref 79, .ref 69] (aw_s (aw_u I 69 25 ((I 69 25) - (1 : Int32))) L D) rfl (z_iald (n := 200) rfl (aw_lt (o := 79) rfl) (h2 q2) d_M_drop_45 (s_M_drop_46.go [some (.ref 69), some (.int v1), some (.int v2)] [.int (0 : Int32), .int (I 79 (((I 69 25) - (1 : Int32)).toNatClampNeg)), .ref 69] (aw_s (aw_u I 69 25 ((I 69 25) - (1 : Int32))) L D) rfl (z_callV (av := [.int (I 79 (((I 69 25) - (1 : Int32)).toNatClampNeg)), .int (0 : Int32)]) (st := []) ok_M_emit (Or.inl w_1787) w_1789 w_79 k_M d_M_drop_47 rfl (aw_lt (o := 69) rfl) rfl rfl (Nat.le_of_ble_eq_true rfl) (Nat.le_refl _) (Nat.le_refl _) (h3 q2)))))))
theorem d_M_drop_50 : decode y_M_drop.2.1 50 = .ok (.pop, 1) := by decide +kernel
theorem s_M_drop_50 : aw_VS y_M_drop 50 [o_pop] 51 := .cons (v_pop d_M_drop_50) .nil
theorem d_M_drop_51 : decode y_M_drop.2.1 51 = .ok (.goto (-51), 3) := by decide +kernel
theorem b_M_drop_50 {X : aw_X} {d : Nat} {Q : Option Value → aw_H → Prop} {I : Nat → Nat → Int32} {L : Nat → Nat → Int64} {D : Nat → Nat} {v1 : Int32} {v2 : Int32} {s0 : Int32}
    (h1 : aw_z X (d + 1) y_M_drop Q 0 [some (.ref 69), some (.int v1), some (.int v2)] [] (aw_s I L D)) :
    aw_z X (d + 1) y_M_drop Q 50 [some (.ref 69), some (.int v1), some (.int v2)] [.int s0] (aw_s I L D) :=
  (s_M_drop_50.go [some (.ref 69), some (.int v1), some (.int v2)] [] (aw_s I L D) rfl (z_goto (tgt := 0) d_M_drop_51 rfl (h1)))
/-! M_isIn -/
theorem d_M_isIn_0 : decode y_M_isIn.2.1 0 = .ok (.iload_n 0, 1) := by decide +kernel
theorem d_M_isIn_1 : decode y_M_isIn.2.1 1 = .ok (.iload_n 1, 1) := by decide +kernel
theorem s_M_isIn_0 : aw_VS y_M_isIn 0 [o_ild 0, o_ild 1] 2 := .cons (v_iload_n (i := 0) d_M_isIn_0 rfl) (.cons (v_iload_n (i := 1) d_M_isIn_1 rfl) .nil)
theorem d_M_isIn_2 : decode y_M_isIn.2.1 2 = .ok (.if_icmp .lt (12), 3) := by decide +kernel
theorem d_M_isIn_14 : decode y_M_isIn.2.1 14 = .ok (.iconst 0, 1) := by decide +kernel
theorem s_M_isIn_14 : aw_VS y_M_isIn 14 [o_c (.int (0 : Int32))] 15 := .cons (v_iconst (v := (0 : Int32)) d_M_isIn_14 (by decide +kernel)) .nil
theorem d_M_isIn_15 : decode y_M_isIn.2.1 15 = .ok (.ireturn, 1) := by decide +kernel
theorem d_M_isIn_5 : decode y_M_isIn.2.1 5 = .ok (.iload_n 0, 1) := by decide +kernel
theorem d_M_isIn_6 : decode y_M_isIn.2.1 6 = .ok (.iload_n 2, 1) := by decide +kernel
theorem s_M_isIn_5 : aw_VS y_M_isIn 5 [o_ild 0, o_ild 2] 7 := .cons (v_iload_n (i := 0) d_M_isIn_5 rfl) (.cons (v_iload_n (i := 2) d_M_isIn_6 rfl) .nil)
theorem d_M_isIn_7 : decode y_M_isIn.2.1 7 = .ok (.if_icmp .gt (7), 3) := by decide +kernel
theorem d_M_isIn_10 : decode y_M_isIn.2.1 10 = .ok (.iconst 1, 1) := by decide +kernel
theorem s_M_isIn_10 : aw_VS y_M_isIn 10 [o_c (.int (1 : Int32))] 11 := .cons (v_iconst (v := (1 : Int32)) d_M_isIn_10 (by decide +kernel)) .nil
theorem d_M_isIn_11 : decode y_M_isIn.2.1 11 = .ok (.goto (4), 3) := by decide +kernel
theorem b_M_isIn_0 {X : aw_X} {d : Nat} {Q : Option Value → aw_H → Prop} {I : Nat → Nat → Int32} {L : Nat → Nat → Int64} {D : Nat → Nat} {v0 : Int32} {v1 : Int32} {v2 : Int32}
    (h1 : v0 < v1 → Q (some (.int (0 : Int32))) (aw_s I L D))
    (h2 : ¬ v0 < v1 → v2 < v0 → Q (some (.int (0 : Int32))) (aw_s I L D))
    (h3 : ¬ v0 < v1 → ¬ v2 < v0 → Q (some (.int (1 : Int32))) (aw_s I L D)) :
    aw_z X d y_M_isIn Q 0 [some (.int v0), some (.int v1), some (.int v2)] [] (aw_s I L D) :=
  (s_M_isIn_0.go [some (.int v0), some (.int v1), some (.int v2)] [.int v1, .int v0] (aw_s I L D) rfl (z_icmp_lt (tgt := 14) d_M_isIn_2 rfl (fun q1 => (s_M_isIn_14.go [some (.int v0), some (.int v1), some (.int v2)] [.int (0 : Int32)] (aw_s I L D) rfl (z_iret d_M_isIn_15 rfl (aw_nz (by decide +kernel)) (h1 q1)))) (fun q2 => (s_M_isIn_5.go [some (.int v0), some (.int v1), some (.int v2)] [.int v2, .int v0] (aw_s I L D) rfl (z_icmp_gt (tgt := 14) d_M_isIn_7 rfl (fun q3 => (s_M_isIn_14.go [some (.int v0), some (.int v1), some (.int v2)] [.int (0 : Int32)] (aw_s I L D) rfl (z_iret d_M_isIn_15 rfl (aw_nz (by decide +kernel)) (h2 q2 q3)))) (fun q4 => (s_M_isIn_10.go [some (.int v0), some (.int v1), some (.int v2)] [.int (1 : Int32)] (aw_s I L D) rfl (z_goto (tgt := 15) d_M_isIn_11 rfl (z_iret d_M_isIn_15 rfl (aw_nz (by decide +kernel)) (h3 q2 q4))))))))))
/-! M_isOpen -/
theorem d_M_isOpen_0 : decode y_M_isOpen.2.1 0 = .ok (.iload_n 1, 1) := by decide +kernel
theorem d_M_isOpen_1 : decode y_M_isOpen.2.1 1 = .ok (.istore_n 2, 1) := by decide +kernel
theorem s_M_isOpen_0 : aw_VS y_M_isOpen 0 [o_ild 1, o_ist 2] 2 := .cons (v_iload_n (i := 1) d_M_isOpen_0 rfl) (.cons (v_istore_n d_M_isOpen_1) .nil)
theorem b_M_isOpen_0 {X : aw_X} {d : Nat} {Q : Option Value → aw_H → Prop} {I : Nat → Nat → Int32} {L : Nat → Nat → Int64} {D : Nat → Nat} {v1 : Int32}
    (h1 : aw_z X d y_M_isOpen Q 2 [some (.ref 69), none, some (.int v1)] [] (aw_s I L D)) :
    aw_z X d y_M_isOpen Q 0 [some (.ref 69), some (.int v1), none] [] (aw_s I L D) :=
  (s_M_isOpen_0.go [some (.ref 69), some (.int v1), some (.int v1)] [] (aw_s I L D) rfl (aw_Z.weak (ls' := [some (.ref 69), none, some (.int v1)]) (h1) (Nat.le_of_ble_eq_true rfl) ⟨Or.inr rfl, ⟨Or.inl rfl, ⟨Or.inr rfl, trivial⟩⟩⟩))
theorem d_M_isOpen_2 : decode y_M_isOpen.2.1 2 = .ok (.iload_n 2, 1) := by decide +kernel
theorem d_M_isOpen_3 : decode y_M_isOpen.2.1 3 = .ok (.aload_n 0, 1) := by decide +kernel
theorem d_M_isOpen_4 : decode y_M_isOpen.2.1 4 = .ok (.getfield 231, 3) := by decide +kernel
theorem s_M_isOpen_2 : aw_VS y_M_isOpen 2 [o_ild 2, o_ald 0, o_getI 9 25] 7 := .cons (v_iload_n (i := 2) d_M_isOpen_2 rfl) (.cons (v_aload_n (i := 0) d_M_isOpen_3 rfl) (.cons (v_getI (k := 25) k_M (by decide) (Or.inl rfl) (Or.inl w_1486) d_M_isOpen_4) .nil))
theorem d_M_isOpen_7 : decode y_M_isOpen.2.1 7 = .ok (.if_icmp .ge (22), 3) := by decide +kernel
theorem d_M_isOpen_29 : decode y_M_isOpen.2.1 29 = .ok (.iconst 0, 1) := by decide +kernel
theorem s_M_isOpen_29 : aw_VS y_M_isOpen 29 [o_c (.int (0 : Int32))] 30 := .cons (v_iconst (v := (0 : Int32)) d_M_isOpen_29 (by decide +kernel)) .nil
theorem d_M_isOpen_30 : decode y_M_isOpen.2.1 30 = .ok (.ireturn, 1) := by decide +kernel
theorem d_M_isOpen_10 : decode y_M_isOpen.2.1 10 = .ok (.aload_n 0, 1) := by decide +kernel
theorem d_M_isOpen_11 : decode y_M_isOpen.2.1 11 = .ok (.getfield 38, 3) := by decide +kernel
theorem d_M_isOpen_14 : decode y_M_isOpen.2.1 14 = .ok (.iload_n 2, 1) := by decide +kernel
theorem s_M_isOpen_10 : aw_VS y_M_isOpen 10 [o_ald 0, o_getA 9 20, o_ild 2] 15 := .cons (v_aload_n (i := 0) d_M_isOpen_10 rfl) (.cons (v_getA (k := 20) k_M (by decide) rfl (Or.inl w_1481) d_M_isOpen_11) (.cons (v_iload_n (i := 2) d_M_isOpen_14 rfl) .nil))
theorem d_M_isOpen_15 : decode y_M_isOpen.2.1 15 = .ok (.iaload, 1) := by decide +kernel
theorem d_M_isOpen_16 : decode y_M_isOpen.2.1 16 = .ok (.bipush 26, 2) := by decide +kernel
theorem s_M_isOpen_16 : aw_VS y_M_isOpen 16 [o_c (.int (26 : Int32))] 18 := .cons (v_bipush (v := (26 : Int32)) d_M_isOpen_16 (by decide +kernel)) .nil
theorem d_M_isOpen_18 : decode y_M_isOpen.2.1 18 = .ok (.if_icmp .lt (5), 3) := by decide +kernel
theorem d_M_isOpen_23 : decode y_M_isOpen.2.1 23 = .ok (.iinc 2 (1), 3) := by decide +kernel
theorem s_M_isOpen_23 : aw_VS y_M_isOpen 23 [o_inc 2 (1 : Int32)] 26 := .cons (v_iinc (k0 := (1 : Int32)) d_M_isOpen_23 (by decide +kernel)) .nil
theorem d_M_isOpen_26 : decode y_M_isOpen.2.1 26 = .ok (.goto (-24), 3) := by decide +kernel
theorem d_M_isOpen_21 : decode y_M_isOpen.2.1 21 = .ok (.iconst 1, 1) := by decide +kernel
theorem s_M_isOpen_21 : aw_VS y_M_isOpen 21 [o_c (.int (1 : Int32))] 22 := .cons (v_iconst (v := (1 : Int32)) d_M_isOpen_21 (by decide +kernel)) .nil
theorem d_M_isOpen_22 : decode y_M_isOpen.2.1 22 = .ok (.ireturn, 1) := by decide +kernel
theorem b_M_isOpen_2 {X : aw_X} {d : Nat} {Q : Option Value → aw_H → Prop} {I : Nat → Nat → Int32} {L : Nat → Nat → Int64} {D : Nat → Nat} {v2 : Int32}
    (h1 : (I 69 25) ≤ v2 → Q (some (.int (0 : Int32))) (aw_s I L D))
    (h2 : ¬ (I 69 25) ≤ v2 → vp_in v2 200)
    (h3 : ¬ (I 69 25) ≤ v2 → (I 79 v2.toNatClampNeg) < (26 : Int32) → aw_z X d y_M_isOpen Q 2 [some (.ref 69), none, some (.int (v2 + (1 : Int32)))] [] (aw_s I L D))
    (h4 : ¬ (I 69 25) ≤ v2 → ¬ (I 79 v2.toNatClampNeg) < (26 : Int32) → Q (some (.int (1 : Int32))) (aw_s I L D)) :
    aw_z X d y_M_isOpen Q 2 [some (.ref 69), none, some (.int v2)] [] (aw_s I L D) :=
  (s_M_isOpen_2.go [some (.ref 69), none, some (.int v2)] [.int (I 69 25), .int v2] (aw_s I L D) rfl (z_icmp_ge (tgt := 29) d_M_isOpen_7 rfl (fun q1 => (s_M_isOpen_29.go [some (.ref 69), none, some (.int v2)] [.int (0 : Int32)] (aw_s I L D) rfl (z_iret d_M_isOpen_30 rfl (aw_nz (by decide +kernel)) (h1 q1)))) (fun q2 => (s_M_isOpen_10.go [some (.ref 69), none, some (.int v2)] [.int v2, .ref 79] (aw_s I L D) rfl (z_iald (n := 200) rfl (aw_lt (o := 79) rfl) (h2 q2) d_M_isOpen_15 (s_M_isOpen_16.go [some (.ref 69), none, some (.int v2)] [.int (26 : Int32), .int (I 79 v2.toNatClampNeg)] (aw_s I L D) rfl (z_icmp_lt (tgt := 23) d_M_isOpen_18 rfl (fun q3 => (s_M_isOpen_23.go [some (.ref 69), none, some (.int (v2 + (1 : Int32)))] [] (aw_s I L D) rfl (z_goto (tgt := 2) d_M_isOpen_26 rfl (h3 q2 q3)))) (fun q4 => (s_M_isOpen_21.go [some (.ref 69), none, some (.int v2)] [.int (1 : Int32)] (aw_s I L D) rfl (z_iret d_M_isOpen_22 rfl (aw_nz (by decide +kernel)) (h4 q2 q4)))))))))))
/-! M_readSign -/
theorem d_M_readSign_0 : decode y_M_readSign.2.1 0 = .ok (.aload_n 0, 1) := by decide +kernel
theorem d_M_readSign_1 : decode y_M_readSign.2.1 1 = .ok (.iload_n 1, 1) := by decide +kernel
theorem s_M_readSign_0 : aw_VS y_M_readSign 0 [o_ald 0, o_ild 1] 2 := .cons (v_aload_n (i := 0) d_M_readSign_0 rfl) (.cons (v_iload_n (i := 1) d_M_readSign_1 rfl) .nil)
theorem d_M_readSign_2 : decode y_M_readSign.2.1 2 = .ok (.invokevirtual 216, 3) := by decide +kernel
theorem b_M_readSign_0 {X : aw_X} {d : Nat} {Q : Option Value → aw_H → Prop} {I : Nat → Nat → Int32} {L : Nat → Nat → Int64} {D : Nat → Nat} {v1 : Int32}
    (h1 : aw_m X d y_M_isSign [.ref 69, .int v1] (aw_s I L D) (fun r A => aw_z X (d + 1) y_M_readSign Q 5 [some (.ref 69), none] (r.toList ++ []) A)) :
    aw_z X (d + 1) y_M_readSign Q 0 [some (.ref 69), some (.int v1)] [] (aw_s I L D) :=
  (s_M_readSign_0.go [some (.ref 69), some (.int v1)] [.int v1, .ref 69] (aw_s I L D) rfl (z_callV (av := [.int v1]) (st := []) ok_M_isSign (Or.inl w_1779) w_1781 w_77 k_M d_M_readSign_2 rfl (aw_lt (o := 69) rfl) rfl rfl (Nat.le_of_ble_eq_true rfl) (Nat.le_refl _) (Nat.le_refl _) (aw_C.mono (h1) (fun _ _ zz => aw_Z.weak (ls' := [some (.ref 69), none]) zz (Nat.le_of_ble_eq_true rfl) ⟨Or.inr rfl, ⟨Or.inl rfl, trivial⟩⟩))))
theorem d_M_readSign_5 : decode y_M_readSign.2.1 5 = .ok (.ifCond .ne (9), 3) := by decide +kernel
theorem d_M_readSign_14 : decode y_M_readSign.2.1 14 = .ok (.aload_n 0, 1) := by decide +kernel
theorem s_M_readSign_14 : aw_VS y_M_readSign 14 [o_ald 0] 15 := .cons (v_aload_n (i := 0) d_M_readSign_14 rfl) .nil
theorem d_M_readSign_15 : decode y_M_readSign.2.1 15 = .ok (.invokevirtual 222, 3) := by decide +kernel
theorem d_M_readSign_8 : decode y_M_readSign.2.1 8 = .ok (.aload_n 0, 1) := by decide +kernel
theorem d_M_readSign_9 : decode y_M_readSign.2.1 9 = .ok (.iconst 1, 1) := by decide +kernel
theorem s_M_readSign_8 : aw_VS y_M_readSign 8 [o_ald 0, o_c (.int (1 : Int32))] 10 := .cons (v_aload_n (i := 0) d_M_readSign_8 rfl) (.cons (v_iconst (v := (1 : Int32)) d_M_readSign_9 (by decide +kernel)) .nil)
theorem d_M_readSign_10 : decode y_M_readSign.2.1 10 = .ok (.invokevirtual 219, 3) := by decide +kernel
theorem b_M_readSign_5 {X : aw_X} {d : Nat} {Q : Option Value → aw_H → Prop} {I : Nat → Nat → Int32} {L : Nat → Nat → Int64} {D : Nat → Nat} {s0 : Int32}
    (h1 : ¬ s0 = 0 → aw_m X d y_M_go [.ref 69] (aw_s I L D) (fun r A => aw_z X (d + 1) y_M_readSign Q 18 [none, none] (r.toList ++ []) A))
    (h2 : s0 = 0 → aw_m X d y_M_bad [.ref 69, .int (1 : Int32)] (aw_s I L D) (fun r A => aw_z X (d + 1) y_M_readSign Q 13 [none, none] (r.toList ++ []) A)) :
    aw_z X (d + 1) y_M_readSign Q 5 [some (.ref 69), none] [.int s0] (aw_s I L D) :=
  (z_if_ne (tgt := 14) d_M_readSign_5 rfl (fun q1 => (s_M_readSign_14.go [some (.ref 69), none] [.ref 69] (aw_s I L D) rfl (z_callV (av := []) (st := []) ok_M_go (Or.inl w_1760) w_1762 w_75 k_M d_M_readSign_15 rfl (aw_lt (o := 69) rfl) rfl rfl (Nat.le_of_ble_eq_true rfl) (Nat.le_refl _) (Nat.le_refl _) (aw_C.mono (h1 q1) (fun _ _ zz => aw_Z.weak (ls' := [none, none]) zz (Nat.le_of_ble_eq_true rfl) ⟨Or.inl rfl, ⟨Or.inl rfl, trivial⟩⟩))))) (fun q2 => (s_M_readSign_8.go [some (.ref 69), none] [.int (1 : Int32), .ref 69] (aw_s I L D) rfl (z_callV (av := [.int (1 : Int32)]) (st := []) ok_M_bad (Or.inl w_1806) w_1808 w_83 k_M d_M_readSign_10 rfl (aw_lt (o := 69) rfl) rfl rfl (Nat.le_of_ble_eq_true rfl) (Nat.le_refl _) (Nat.le_refl _) (aw_C.mono (h2 q2) (fun _ _ zz => aw_Z.weak (ls' := [none, none]) zz (Nat.le_of_ble_eq_true rfl) ⟨Or.inl rfl, ⟨Or.inl rfl, trivial⟩⟩))))))
theorem d_M_readSign_18 : decode y_M_readSign.2.1 18 = .ok (.iconst 1, 1) := by decide +kernel
theorem s_M_readSign_18 : aw_VS y_M_readSign 18 [o_c (.int (1 : Int32))] 19 := .cons (v_iconst (v := (1 : Int32)) d_M_readSign_18 (by decide +kernel)) .nil
theorem d_M_readSign_19 : decode y_M_readSign.2.1 19 = .ok (.ireturn, 1) := by decide +kernel
theorem b_M_readSign_18 {X : aw_X} {d : Nat} {Q : Option Value → aw_H → Prop} {I : Nat → Nat → Int32} {L : Nat → Nat → Int64} {D : Nat → Nat} 
    (h1 : Q (some (.int (1 : Int32))) (aw_s I L D)) :
    aw_z X (d + 1) y_M_readSign Q 18 [none, none] [] (aw_s I L D) :=
  (s_M_readSign_18.go [none, none] [.int (1 : Int32)] (aw_s I L D) rfl (z_iret d_M_readSign_19 rfl (aw_nz (by decide +kernel)) (h1)))
theorem d_M_readSign_13 : decode y_M_readSign.2.1 13 = .ok (.ireturn, 1) := by decide +kernel
theorem b_M_readSign_13 {X : aw_X} {d : Nat} {Q : Option Value → aw_H → Prop} {I : Nat → Nat → Int32} {L : Nat → Nat → Int64} {D : Nat → Nat} {s0 : Int32}
    (h1 : (s0 = 0 ∨ s0 = 1))
    (h2 : Q (some (.int s0)) (aw_s I L D)) :
    aw_z X (d + 1) y_M_readSign Q 13 [none, none] [.int s0] (aw_s I L D) :=
  (z_iret d_M_readSign_13 rfl (aw_nz (h1)) (h2))
/-! M_readCell -/
theorem d_M_readCell_0 : decode y_M_readCell.2.1 0 = .ok (.aload_n 0, 1) := by decide +kernel
theorem s_M_readCell_0 : aw_VS y_M_readCell 0 [o_ald 0] 1 := .cons (v_aload_n (i := 0) d_M_readCell_0 rfl) .nil
theorem d_M_readCell_1 : decode y_M_readCell.2.1 1 = .ok (.invokevirtual 222, 3) := by decide +kernel
theorem b_M_readCell_0 {X : aw_X} {d : Nat} {Q : Option Value → aw_H → Prop} {I : Nat → Nat → Int32} {L : Nat → Nat → Int64} {D : Nat → Nat} 
    (h1 : aw_m X d y_M_go [.ref 69] (aw_s I L D) (fun r A => aw_z X (d + 1) y_M_readCell Q 4 [some (.ref 69)] (r.toList ++ []) A)) :
    aw_z X (d + 1) y_M_readCell Q 0 [some (.ref 69)] [] (aw_s I L D) :=
  (s_M_readCell_0.go [some (.ref 69)] [.ref 69] (aw_s I L D) rfl (z_callV (av := []) (st := []) ok_M_go (Or.inl w_1760) w_1762 w_75 k_M d_M_readCell_1 rfl (aw_lt (o := 69) rfl) rfl rfl (Nat.le_of_ble_eq_true rfl) (Nat.le_refl _) (Nat.le_refl _) (h1)))
theorem d_M_readCell_4 : decode y_M_readCell.2.1 4 = .ok (.aload_n 0, 1) := by decide +kernel
theorem d_M_readCell_5 : decode y_M_readCell.2.1 5 = .ok (.bipush 91, 2) := by decide +kernel
theorem s_M_readCell_4 : aw_VS y_M_readCell 4 [o_ald 0, o_c (.int (91 : Int32))] 7 := .cons (v_aload_n (i := 0) d_M_readCell_4 rfl) (.cons (v_bipush (v := (91 : Int32)) d_M_readCell_5 (by decide +kernel)) .nil)
theorem d_M_readCell_7 : decode y_M_readCell.2.1 7 = .ok (.invokevirtual 216, 3) := by decide +kernel
theorem b_M_readCell_4 {X : aw_X} {d : Nat} {Q : Option Value → aw_H → Prop} {I : Nat → Nat → Int32} {L : Nat → Nat → Int64} {D : Nat → Nat} 
    (h1 : aw_m X d y_M_isSign [.ref 69, .int (91 : Int32)] (aw_s I L D) (fun r A => aw_z X (d + 1) y_M_readCell Q 10 [some (.ref 69)] (r.toList ++ []) A)) :
    aw_z X (d + 1) y_M_readCell Q 4 [some (.ref 69)] [] (aw_s I L D) :=
  (s_M_readCell_4.go [some (.ref 69)] [.int (91 : Int32), .ref 69] (aw_s I L D) rfl (z_callV (av := [.int (91 : Int32)]) (st := []) ok_M_isSign (Or.inl w_1779) w_1781 w_77 k_M d_M_readCell_7 rfl (aw_lt (o := 69) rfl) rfl rfl (Nat.le_of_ble_eq_true rfl) (Nat.le_refl _) (Nat.le_refl _) (h1)))
theorem d_M_readCell_10 : decode y_M_readCell.2.1 10 = .ok (.ifCond .ne (9), 3) := by decide +kernel
theorem d_M_readCell_19 : decode y_M_readCell.2.1 19 = .ok (.aload_n 0, 1) := by decide +kernel
theorem d_M_readCell_20 : decode y_M_readCell.2.1 20 = .ok (.getfield 259, 3) := by decide +kernel
theorem d_M_readCell_23 : decode y_M_readCell.2.1 23 = .ok (.bipush 10, 2) := by decide +kernel
theorem s_M_readCell_19 : aw_VS y_M_readCell 19 [o_ald 0, o_getI 9 27, o_c (.int (10 : Int32))] 25 := .cons (v_aload_n (i := 0) d_M_readCell_19 rfl) (.cons (v_getI (k := 27) k_M (by decide) (Or.inl rfl) (Or.inl w_1488) d_M_readCell_20) (.cons (v_bipush (v := (10 : Int32)) d_M_readCell_23 (by decide +kernel)) .nil))
theorem d_M_readCell_25 : decode y_M_readCell.2.1 25 = .ok (.if_icmp .ne (9), 3) := by decide +kernel
theorem d_M_readCell_34 : decode y_M_readCell.2.1 34 = .ok (.aload_n 0, 1) := by decide +kernel
theorem d_M_readCell_35 : decode y_M_readCell.2.1 35 = .ok (.dup, 1) := by decide +kernel
theorem d_M_readCell_36 : decode y_M_readCell.2.1 36 = .ok (.getfield 259, 3) := by decide +kernel
theorem d_M_readCell_39 : decode y_M_readCell.2.1 39 = .ok (.iconst 1, 1) := by decide +kernel
theorem d_M_readCell_40 : decode y_M_readCell.2.1 40 = .ok (.iadd, 1) := by decide +kernel
theorem d_M_readCell_41 : decode y_M_readCell.2.1 41 = .ok (.putfield 259, 3) := by decide +kernel
theorem d_M_readCell_44 : decode y_M_readCell.2.1 44 = .ok (.aload_n 0, 1) := by decide +kernel
theorem s_M_readCell_34 : aw_VS y_M_readCell 34 [o_ald 0, o_dup, o_getI 9 27, o_c (.int (1 : Int32)), o_i2 (fun x z => x + z), o_putI 9 27, o_ald 0] 45 := .cons (v_aload_n (i := 0) d_M_readCell_34 rfl) (.cons (v_dup d_M_readCell_35) (.cons (v_getI (k := 27) k_M (by decide) (Or.inl rfl) (Or.inl w_1488) d_M_readCell_36) (.cons (v_iconst (v := (1 : Int32)) d_M_readCell_39 (by decide +kernel)) (.cons (v_iadd d_M_readCell_40) (.cons (v_putI (k := 27) k_M (by decide) rfl (Or.inl ⟨rfl, Or.inl w_1488⟩) d_M_readCell_41) (.cons (v_aload_n (i := 0) d_M_readCell_44 rfl) .nil))))))
theorem d_M_readCell_45 : decode y_M_readCell.2.1 45 = .ok (.invokevirtual 222, 3) := by decide +kernel
theorem d_M_readCell_28 : decode y_M_readCell.2.1 28 = .ok (.aload_n 0, 1) := by decide +kernel
theorem d_M_readCell_29 : decode y_M_readCell.2.1 29 = .ok (.iconst 3, 1) := by decide +kernel
theorem s_M_readCell_28 : aw_VS y_M_readCell 28 [o_ald 0, o_c (.int (3 : Int32))] 30 := .cons (v_aload_n (i := 0) d_M_readCell_28 rfl) (.cons (v_iconst (v := (3 : Int32)) d_M_readCell_29 (by decide +kernel)) .nil)
theorem d_M_readCell_30 : decode y_M_readCell.2.1 30 = .ok (.invokevirtual 219, 3) := by decide +kernel
theorem d_M_readCell_13 : decode y_M_readCell.2.1 13 = .ok (.aload_n 0, 1) := by decide +kernel
theorem d_M_readCell_14 : decode y_M_readCell.2.1 14 = .ok (.iconst 1, 1) := by decide +kernel
theorem s_M_readCell_13 : aw_VS y_M_readCell 13 [o_ald 0, o_c (.int (1 : Int32))] 15 := .cons (v_aload_n (i := 0) d_M_readCell_13 rfl) (.cons (v_iconst (v := (1 : Int32)) d_M_readCell_14 (by decide +kernel)) .nil)
theorem d_M_readCell_15 : decode y_M_readCell.2.1 15 = .ok (.invokevirtual 219, 3) := by decide +kernel
theorem b_M_readCell_10 {X : aw_X} {d : Nat} {Q : Option Value → aw_H → Prop} {I : Nat → Nat → Int32} {L : Nat → Nat → Int64} {D : Nat → Nat} {s0 : Int32}
    (h1 : ¬ s0 = 0 → ¬ (I 69 27) = (10 : Int32) → aw_m X d y_M_go [.ref 69] (aw_s (aw_u I 69 27 ((I 69 27) + (1 : Int32))) L D) (fun r A => aw_z X (d + 1) y_M_readCell Q 48 [some (.ref 69)] (r.toList ++ []) A))
    (h2 : ¬ s0 = 0 → (I 69 27) = (10 : Int32) → aw_m X d y_M_bad [.ref 69, .int (3 : Int32)] (aw_s I L D) (fun r A => aw_z X (d + 1) y_M_readCell Q 33 [none] (r.toList ++ []) A))
    (h3 : s0 = 0 → aw_m X d y_M_bad [.ref 69, .int (1 : Int32)] (aw_s I L D) (fun r A => aw_z X (d + 1) y_M_readCell Q 18 [none] (r.toList ++ []) A)) :
    aw_z X (d + 1) y_M_readCell Q 10 [some (.ref 69)] [.int s0] (aw_s I L D) :=
  (z_if_ne (tgt := 19) d_M_readCell_10 rfl (fun q1 => (s_M_readCell_19.go [some (.ref 69)] [.int (10 : Int32), .int (I 69 27)] (aw_s I L D) rfl (z_icmp_ne (tgt := 34) d_M_readCell_25 rfl (fun q3 => (s_M_readCell_34.go [some (.ref 69)] [.ref 69] (aw_s (aw_u I 69 27 ((I 69 27) + (1 : Int32))) L D) rfl (z_callV (av := []) (st := []) ok_M_go (Or.inl w_1760) w_1762 w_75 k_M d_M_readCell_45 rfl (aw_lt (o := 69) rfl) rfl rfl (Nat.le_of_ble_eq_true rfl) (Nat.le_refl _) (Nat.le_refl _) (h1 q1 q3)))) (fun q4 => (s_M_readCell_28.go [some (.ref 69)] [.int (3 : Int32), .ref 69] (aw_s I L D) rfl (z_callV (av := [.int (3 : Int32)]) (st := []) ok_M_bad (Or.inl w_1806) w_1808 w_83 k_M d_M_readCell_30 rfl (aw_lt (o := 69) rfl) rfl rfl (Nat.le_of_ble_eq_true rfl) (Nat.le_refl _) (Nat.le_refl _) (aw_C.mono (h2 q1 q4) (fun _ _ zz => aw_Z.weak (ls' := [none]) zz (Nat.le_of_ble_eq_true rfl) ⟨Or.inl rfl, trivial⟩)))))))) (fun q2 => (s_M_readCell_13.go [some (.ref 69)] [.int (1 : Int32), .ref 69] (aw_s I L D) rfl (z_callV (av := [.int (1 : Int32)]) (st := []) ok_M_bad (Or.inl w_1806) w_1808 w_83 k_M d_M_readCell_15 rfl (aw_lt (o := 69) rfl) rfl rfl (Nat.le_of_ble_eq_true rfl) (Nat.le_refl _) (Nat.le_refl _) (aw_C.mono (h3 q2) (fun _ _ zz => aw_Z.weak (ls' := [none]) zz (Nat.le_of_ble_eq_true rfl) ⟨Or.inl rfl, trivial⟩))))))
theorem d_M_readCell_48 : decode y_M_readCell.2.1 48 = .ok (.aload_n 0, 1) := by decide +kernel
theorem s_M_readCell_48 : aw_VS y_M_readCell 48 [o_ald 0] 49 := .cons (v_aload_n (i := 0) d_M_readCell_48 rfl) .nil
theorem d_M_readCell_49 : decode y_M_readCell.2.1 49 = .ok (.invokevirtual 276, 3) := by decide +kernel
theorem b_M_readCell_48 {X : aw_X} {d : Nat} {Q : Option Value → aw_H → Prop} {I : Nat → Nat → Int32} {L : Nat → Nat → Int64} {D : Nat → Nat} 
    (h1 : aw_m X d y_M_readSum [.ref 69] (aw_s I L D) (fun r A => aw_z X (d + 1) y_M_readCell Q 52 [some (.ref 69)] (r.toList ++ []) A)) :
    aw_z X (d + 1) y_M_readCell Q 48 [some (.ref 69)] [] (aw_s I L D) :=
  (s_M_readCell_48.go [some (.ref 69)] [.ref 69] (aw_s I L D) rfl (z_callV (av := []) (st := []) ok_M_readSum (Or.inl w_1857) w_1859 w_95 k_M d_M_readCell_49 rfl (aw_lt (o := 69) rfl) rfl rfl (Nat.le_of_ble_eq_true rfl) (Nat.le_refl _) (Nat.le_refl _) (h1)))
theorem d_M_readCell_33 : decode y_M_readCell.2.1 33 = .ok (.ireturn, 1) := by decide +kernel
theorem b_M_readCell_33 {X : aw_X} {d : Nat} {Q : Option Value → aw_H → Prop} {I : Nat → Nat → Int32} {L : Nat → Nat → Int64} {D : Nat → Nat} {s0 : Int32}
    (h1 : (s0 = 0 ∨ s0 = 1))
    (h2 : Q (some (.int s0)) (aw_s I L D)) :
    aw_z X (d + 1) y_M_readCell Q 33 [none] [.int s0] (aw_s I L D) :=
  (z_iret d_M_readCell_33 rfl (aw_nz (h1)) (h2))
theorem d_M_readCell_18 : decode y_M_readCell.2.1 18 = .ok (.ireturn, 1) := by decide +kernel
theorem b_M_readCell_18 {X : aw_X} {d : Nat} {Q : Option Value → aw_H → Prop} {I : Nat → Nat → Int32} {L : Nat → Nat → Int64} {D : Nat → Nat} {s0 : Int32}
    (h1 : (s0 = 0 ∨ s0 = 1))
    (h2 : Q (some (.int s0)) (aw_s I L D)) :
    aw_z X (d + 1) y_M_readCell Q 18 [none] [.int s0] (aw_s I L D) :=
  (z_iret d_M_readCell_18 rfl (aw_nz (h1)) (h2))
theorem d_M_readCell_52 : decode y_M_readCell.2.1 52 = .ok (.ifCond .ne (5), 3) := by decide +kernel
theorem d_M_readCell_57 : decode y_M_readCell.2.1 57 = .ok (.aload_n 0, 1) := by decide +kernel
theorem d_M_readCell_58 : decode y_M_readCell.2.1 58 = .ok (.bipush 93, 2) := by decide +kernel
theorem s_M_readCell_57 : aw_VS y_M_readCell 57 [o_ald 0, o_c (.int (93 : Int32))] 60 := .cons (v_aload_n (i := 0) d_M_readCell_57 rfl) (.cons (v_bipush (v := (93 : Int32)) d_M_readCell_58 (by decide +kernel)) .nil)
theorem d_M_readCell_60 : decode y_M_readCell.2.1 60 = .ok (.invokevirtual 216, 3) := by decide +kernel
theorem d_M_readCell_55 : decode y_M_readCell.2.1 55 = .ok (.iconst 0, 1) := by decide +kernel
theorem s_M_readCell_55 : aw_VS y_M_readCell 55 [o_c (.int (0 : Int32))] 56 := .cons (v_iconst (v := (0 : Int32)) d_M_readCell_55 (by decide +kernel)) .nil
theorem d_M_readCell_56 : decode y_M_readCell.2.1 56 = .ok (.ireturn, 1) := by decide +kernel
theorem b_M_readCell_52 {X : aw_X} {d : Nat} {Q : Option Value → aw_H → Prop} {I : Nat → Nat → Int32} {L : Nat → Nat → Int64} {D : Nat → Nat} {s0 : Int32}
    (h1 : ¬ s0 = 0 → aw_m X d y_M_isSign [.ref 69, .int (93 : Int32)] (aw_s I L D) (fun r A => aw_z X (d + 1) y_M_readCell Q 63 [some (.ref 69)] (r.toList ++ []) A))
    (h2 : s0 = 0 → Q (some (.int (0 : Int32))) (aw_s I L D)) :
    aw_z X (d + 1) y_M_readCell Q 52 [some (.ref 69)] [.int s0] (aw_s I L D) :=
  (z_if_ne (tgt := 57) d_M_readCell_52 rfl (fun q1 => (s_M_readCell_57.go [some (.ref 69)] [.int (93 : Int32), .ref 69] (aw_s I L D) rfl (z_callV (av := [.int (93 : Int32)]) (st := []) ok_M_isSign (Or.inl w_1779) w_1781 w_77 k_M d_M_readCell_60 rfl (aw_lt (o := 69) rfl) rfl rfl (Nat.le_of_ble_eq_true rfl) (Nat.le_refl _) (Nat.le_refl _) (h1 q1)))) (fun q2 => (s_M_readCell_55.go [some (.ref 69)] [.int (0 : Int32)] (aw_s I L D) rfl (z_iret d_M_readCell_56 rfl (aw_nz (by decide +kernel)) (h2 q2)))))
theorem d_M_readCell_63 : decode y_M_readCell.2.1 63 = .ok (.ifCond .ne (9), 3) := by decide +kernel
theorem d_M_readCell_72 : decode y_M_readCell.2.1 72 = .ok (.aload_n 0, 1) := by decide +kernel
theorem d_M_readCell_73 : decode y_M_readCell.2.1 73 = .ok (.dup, 1) := by decide +kernel
theorem d_M_readCell_74 : decode y_M_readCell.2.1 74 = .ok (.getfield 259, 3) := by decide +kernel
theorem d_M_readCell_77 : decode y_M_readCell.2.1 77 = .ok (.iconst 1, 1) := by decide +kernel
theorem d_M_readCell_78 : decode y_M_readCell.2.1 78 = .ok (.isub, 1) := by decide +kernel
theorem d_M_readCell_79 : decode y_M_readCell.2.1 79 = .ok (.putfield 259, 3) := by decide +kernel
theorem d_M_readCell_82 : decode y_M_readCell.2.1 82 = .ok (.aload_n 0, 1) := by decide +kernel
theorem s_M_readCell_72 : aw_VS y_M_readCell 72 [o_ald 0, o_dup, o_getI 9 27, o_c (.int (1 : Int32)), o_i2 (fun x z => x - z), o_putI 9 27, o_ald 0] 83 := .cons (v_aload_n (i := 0) d_M_readCell_72 rfl) (.cons (v_dup d_M_readCell_73) (.cons (v_getI (k := 27) k_M (by decide) (Or.inl rfl) (Or.inl w_1488) d_M_readCell_74) (.cons (v_iconst (v := (1 : Int32)) d_M_readCell_77 (by decide +kernel)) (.cons (v_isub d_M_readCell_78) (.cons (v_putI (k := 27) k_M (by decide) rfl (Or.inl ⟨rfl, Or.inl w_1488⟩) d_M_readCell_79) (.cons (v_aload_n (i := 0) d_M_readCell_82 rfl) .nil))))))
theorem d_M_readCell_83 : decode y_M_readCell.2.1 83 = .ok (.invokevirtual 222, 3) := by decide +kernel
theorem d_M_readCell_66 : decode y_M_readCell.2.1 66 = .ok (.aload_n 0, 1) := by decide +kernel
theorem d_M_readCell_67 : decode y_M_readCell.2.1 67 = .ok (.iconst 1, 1) := by decide +kernel
theorem s_M_readCell_66 : aw_VS y_M_readCell 66 [o_ald 0, o_c (.int (1 : Int32))] 68 := .cons (v_aload_n (i := 0) d_M_readCell_66 rfl) (.cons (v_iconst (v := (1 : Int32)) d_M_readCell_67 (by decide +kernel)) .nil)
theorem d_M_readCell_68 : decode y_M_readCell.2.1 68 = .ok (.invokevirtual 219, 3) := by decide +kernel
theorem b_M_readCell_63 {X : aw_X} {d : Nat} {Q : Option Value → aw_H → Prop} {I : Nat → Nat → Int32} {L : Nat → Nat → Int64} {D : Nat → Nat} {s0 : Int32}
    (h1 : ¬ s0 = 0 → aw_m X d y_M_go [.ref 69] (aw_s (aw_u I 69 27 ((I 69 27) - (1 : Int32))) L D) (fun r A => aw_z X (d + 1) y_M_readCell Q 86 [some (.ref 69)] (r.toList ++ []) A))
    (h2 : s0 = 0 → aw_m X d y_M_bad [.ref 69, .int (1 : Int32)] (aw_s I L D) (fun r A => aw_z X (d + 1) y_M_readCell Q 71 [none] (r.toList ++ []) A)) :
    aw_z X (d + 1) y_M_readCell Q 63 [some (.ref 69)] [.int s0] (aw_s I L D) :=
  (z_if_ne (tgt := 72) d_M_readCell_63 rfl (fun q1 => (s_M_readCell_72.go [some (.ref 69)] [.ref 69] (aw_s (aw_u I 69 27 ((I 69 27) - (1 : Int32))) L D) rfl (z_callV (av := []) (st := []) ok_M_go (Or.inl w_1760) w_1762 w_75 k_M d_M_readCell_83 rfl (aw_lt (o := 69) rfl) rfl rfl (Nat.le_of_ble_eq_true rfl) (Nat.le_refl _) (Nat.le_refl _) (h1 q1)))) (fun q2 => (s_M_readCell_66.go [some (.ref 69)] [.int (1 : Int32), .ref 69] (aw_s I L D) rfl (z_callV (av := [.int (1 : Int32)]) (st := []) ok_M_bad (Or.inl w_1806) w_1808 w_83 k_M d_M_readCell_68 rfl (aw_lt (o := 69) rfl) rfl rfl (Nat.le_of_ble_eq_true rfl) (Nat.le_refl _) (Nat.le_refl _) (aw_C.mono (h2 q2) (fun _ _ zz => aw_Z.weak (ls' := [none]) zz (Nat.le_of_ble_eq_true rfl) ⟨Or.inl rfl, trivial⟩))))))
theorem d_M_readCell_86 : decode y_M_readCell.2.1 86 = .ok (.aload_n 0, 1) := by decide +kernel
theorem d_M_readCell_87 : decode y_M_readCell.2.1 87 = .ok (.bipush 61, 2) := by decide +kernel
theorem s_M_readCell_86 : aw_VS y_M_readCell 86 [o_ald 0, o_c (.int (61 : Int32))] 89 := .cons (v_aload_n (i := 0) d_M_readCell_86 rfl) (.cons (v_bipush (v := (61 : Int32)) d_M_readCell_87 (by decide +kernel)) .nil)
theorem d_M_readCell_89 : decode y_M_readCell.2.1 89 = .ok (.invokevirtual 316, 3) := by decide +kernel
theorem b_M_readCell_86 {X : aw_X} {d : Nat} {Q : Option Value → aw_H → Prop} {I : Nat → Nat → Int32} {L : Nat → Nat → Int64} {D : Nat → Nat} 
    (h1 : aw_m X d y_M_readSign [.ref 69, .int (61 : Int32)] (aw_s I L D) (fun r A => aw_z X (d + 1) y_M_readCell Q 92 [some (.ref 69)] (r.toList ++ []) A)) :
    aw_z X (d + 1) y_M_readCell Q 86 [some (.ref 69)] [] (aw_s I L D) :=
  (s_M_readCell_86.go [some (.ref 69)] [.int (61 : Int32), .ref 69] (aw_s I L D) rfl (z_callV (av := [.int (61 : Int32)]) (st := []) ok_M_readSign (Or.inl w_1880) w_1882 w_100 k_M d_M_readCell_89 rfl (aw_lt (o := 69) rfl) rfl rfl (Nat.le_of_ble_eq_true rfl) (Nat.le_refl _) (Nat.le_refl _) (h1)))
theorem d_M_readCell_71 : decode y_M_readCell.2.1 71 = .ok (.ireturn, 1) := by decide +kernel
theorem b_M_readCell_71 {X : aw_X} {d : Nat} {Q : Option Value → aw_H → Prop} {I : Nat → Nat → Int32} {L : Nat → Nat → Int64} {D : Nat → Nat} {s0 : Int32}
    (h1 : (s0 = 0 ∨ s0 = 1))
    (h2 : Q (some (.int s0)) (aw_s I L D)) :
    aw_z X (d + 1) y_M_readCell Q 71 [none] [.int s0] (aw_s I L D) :=
  (z_iret d_M_readCell_71 rfl (aw_nz (h1)) (h2))
theorem d_M_readCell_92 : decode y_M_readCell.2.1 92 = .ok (.ifCond .eq (10), 3) := by decide +kernel
theorem d_M_readCell_102 : decode y_M_readCell.2.1 102 = .ok (.iconst 0, 1) := by decide +kernel
theorem s_M_readCell_102 : aw_VS y_M_readCell 102 [o_c (.int (0 : Int32))] 103 := .cons (v_iconst (v := (0 : Int32)) d_M_readCell_102 (by decide +kernel)) .nil
theorem d_M_readCell_103 : decode y_M_readCell.2.1 103 = .ok (.ireturn, 1) := by decide +kernel
theorem d_M_readCell_95 : decode y_M_readCell.2.1 95 = .ok (.aload_n 0, 1) := by decide +kernel
theorem s_M_readCell_95 : aw_VS y_M_readCell 95 [o_ald 0] 96 := .cons (v_aload_n (i := 0) d_M_readCell_95 rfl) .nil
theorem d_M_readCell_96 : decode y_M_readCell.2.1 96 = .ok (.invokevirtual 276, 3) := by decide +kernel
theorem b_M_readCell_92 {X : aw_X} {d : Nat} {Q : Option Value → aw_H → Prop} {I : Nat → Nat → Int32} {L : Nat → Nat → Int64} {D : Nat → Nat} {s0 : Int32}
    (h1 : s0 = 0 → Q (some (.int (0 : Int32))) (aw_s I L D))
    (h2 : ¬ s0 = 0 → aw_m X d y_M_readSum [.ref 69] (aw_s I L D) (fun r A => aw_z X (d + 1) y_M_readCell Q 99 [some (.ref 69)] (r.toList ++ []) A)) :
    aw_z X (d + 1) y_M_readCell Q 92 [some (.ref 69)] [.int s0] (aw_s I L D) :=
  (z_if_eq (tgt := 102) d_M_readCell_92 rfl (fun q1 => (s_M_readCell_102.go [some (.ref 69)] [.int (0 : Int32)] (aw_s I L D) rfl (z_iret d_M_readCell_103 rfl (aw_nz (by decide +kernel)) (h1 q1)))) (fun q2 => (s_M_readCell_95.go [some (.ref 69)] [.ref 69] (aw_s I L D) rfl (z_callV (av := []) (st := []) ok_M_readSum (Or.inl w_1857) w_1859 w_95 k_M d_M_readCell_96 rfl (aw_lt (o := 69) rfl) rfl rfl (Nat.le_of_ble_eq_true rfl) (Nat.le_refl _) (Nat.le_refl _) (h2 q2)))))
theorem d_M_readCell_99 : decode y_M_readCell.2.1 99 = .ok (.ifCond .ne (5), 3) := by decide +kernel
theorem d_M_readCell_104 : decode y_M_readCell.2.1 104 = .ok (.aload_n 0, 1) := by decide +kernel
theorem d_M_readCell_105 : decode y_M_readCell.2.1 105 = .ok (.bipush 16, 2) := by decide +kernel
theorem d_M_readCell_107 : decode y_M_readCell.2.1 107 = .ok (.iconst 0, 1) := by decide +kernel
theorem s_M_readCell_104 : aw_VS y_M_readCell 104 [o_ald 0, o_c (.int (16 : Int32)), o_c (.int (0 : Int32))] 108 := .cons (v_aload_n (i := 0) d_M_readCell_104 rfl) (.cons (v_bipush (v := (16 : Int32)) d_M_readCell_105 (by decide +kernel)) (.cons (v_iconst (v := (0 : Int32)) d_M_readCell_107 (by decide +kernel)) .nil))
theorem d_M_readCell_108 : decode y_M_readCell.2.1 108 = .ok (.invokevirtual 238, 3) := by decide +kernel
theorem b_M_readCell_99 {X : aw_X} {d : Nat} {Q : Option Value → aw_H → Prop} {I : Nat → Nat → Int32} {L : Nat → Nat → Int64} {D : Nat → Nat} {s0 : Int32}
    (h1 : ¬ s0 = 0 → aw_m X d y_M_emit [.ref 69, .int (16 : Int32), .int (0 : Int32)] (aw_s I L D) (fun r A => aw_z X (d + 1) y_M_readCell Q 111 [some (.ref 69)] (r.toList ++ []) A))
    (h2 : s0 = 0 → Q (some (.int (0 : Int32))) (aw_s I L D)) :
    aw_z X (d + 1) y_M_readCell Q 99 [some (.ref 69)] [.int s0] (aw_s I L D) :=
  (z_if_ne (tgt := 104) d_M_readCell_99 rfl (fun q1 => (s_M_readCell_104.go [some (.ref 69)] [.int (0 : Int32), .int (16 : Int32), .ref 69] (aw_s I L D) rfl (z_callV (av := [.int (16 : Int32), .int (0 : Int32)]) (st := []) ok_M_emit (Or.inl w_1787) w_1789 w_79 k_M d_M_readCell_108 rfl (aw_lt (o := 69) rfl) rfl rfl (Nat.le_of_ble_eq_true rfl) (Nat.le_refl _) (Nat.le_refl _) (h1 q1)))) (fun q2 => (s_M_readCell_102.go [some (.ref 69)] [.int (0 : Int32)] (aw_s I L D) rfl (z_iret d_M_readCell_103 rfl (aw_nz (by decide +kernel)) (h2 q2)))))
theorem d_M_readCell_111 : decode y_M_readCell.2.1 111 = .ok (.pop, 1) := by decide +kernel
theorem d_M_readCell_112 : decode y_M_readCell.2.1 112 = .ok (.aload_n 0, 1) := by decide +kernel
theorem d_M_readCell_113 : decode y_M_readCell.2.1 113 = .ok (.bipush 59, 2) := by decide +kernel
theorem s_M_readCell_111 : aw_VS y_M_readCell 111 [o_pop, o_ald 0, o_c (.int (59 : Int32))] 115 := .cons (v_pop d_M_readCell_111) (.cons (v_aload_n (i := 0) d_M_readCell_112 rfl) (.cons (v_bipush (v := (59 : Int32)) d_M_readCell_113 (by decide +kernel)) .nil))
theorem d_M_readCell_115 : decode y_M_readCell.2.1 115 = .ok (.invokevirtual 316, 3) := by decide +kernel
theorem b_M_readCell_111 {X : aw_X} {d : Nat} {Q : Option Value → aw_H → Prop} {I : Nat → Nat → Int32} {L : Nat → Nat → Int64} {D : Nat → Nat} {s0 : Int32}
    (h1 : aw_m X d y_M_readSign [.ref 69, .int (59 : Int32)] (aw_s I L D) (fun r A => aw_z X (d + 1) y_M_readCell Q 118 [none] (r.toList ++ []) A)) :
    aw_z X (d + 1) y_M_readCell Q 111 [some (.ref 69)] [.int s0] (aw_s I L D) :=
  (s_M_readCell_111.go [some (.ref 69)] [.int (59 : Int32), .ref 69] (aw_s I L D) rfl (z_callV (av := [.int (59 : Int32)]) (st := []) ok_M_readSign (Or.inl w_1880) w_1882 w_100 k_M d_M_readCell_115 rfl (aw_lt (o := 69) rfl) rfl rfl (Nat.le_of_ble_eq_true rfl) (Nat.le_refl _) (Nat.le_refl _) (aw_C.mono (h1) (fun _ _ zz => aw_Z.weak (ls' := [none]) zz (Nat.le_of_ble_eq_true rfl) ⟨Or.inl rfl, trivial⟩))))
theorem d_M_readCell_118 : decode y_M_readCell.2.1 118 = .ok (.ireturn, 1) := by decide +kernel
theorem b_M_readCell_118 {X : aw_X} {d : Nat} {Q : Option Value → aw_H → Prop} {I : Nat → Nat → Int32} {L : Nat → Nat → Int64} {D : Nat → Nat} {s0 : Int32}
    (h1 : (s0 = 0 ∨ s0 = 1))
    (h2 : Q (some (.int s0)) (aw_s I L D)) :
    aw_z X (d + 1) y_M_readCell Q 118 [none] [.int s0] (aw_s I L D) :=
  (z_iret d_M_readCell_118 rfl (aw_nz (h1)) (h2))
/-! M_readCall -/
theorem d_M_readCall_0 : decode y_M_readCall.2.1 0 = .ok (.aload_n 0, 1) := by decide +kernel
theorem s_M_readCall_0 : aw_VS y_M_readCall 0 [o_ald 0] 1 := .cons (v_aload_n (i := 0) d_M_readCall_0 rfl) .nil
theorem d_M_readCall_1 : decode y_M_readCall.2.1 1 = .ok (.invokevirtual 222, 3) := by decide +kernel
theorem b_M_readCall_0 {X : aw_X} {d : Nat} {Q : Option Value → aw_H → Prop} {I : Nat → Nat → Int32} {L : Nat → Nat → Int64} {D : Nat → Nat} 
    (h1 : aw_m X d y_M_go [.ref 69] (aw_s I L D) (fun r A => aw_z X (d + 1) y_M_readCall Q 4 [some (.ref 69)] (r.toList ++ []) A)) :
    aw_z X (d + 1) y_M_readCall Q 0 [some (.ref 69)] [] (aw_s I L D) :=
  (s_M_readCall_0.go [some (.ref 69)] [.ref 69] (aw_s I L D) rfl (z_callV (av := []) (st := []) ok_M_go (Or.inl w_1760) w_1762 w_75 k_M d_M_readCall_1 rfl (aw_lt (o := 69) rfl) rfl rfl (Nat.le_of_ble_eq_true rfl) (Nat.le_refl _) (Nat.le_refl _) (h1)))
theorem d_M_readCall_4 : decode y_M_readCall.2.1 4 = .ok (.aload_n 0, 1) := by decide +kernel
theorem s_M_readCall_4 : aw_VS y_M_readCall 4 [o_ald 0] 5 := .cons (v_aload_n (i := 0) d_M_readCall_4 rfl) .nil
theorem d_M_readCall_5 : decode y_M_readCall.2.1 5 = .ok (.invokevirtual 301, 3) := by decide +kernel
theorem b_M_readCall_4 {X : aw_X} {d : Nat} {Q : Option Value → aw_H → Prop} {I : Nat → Nat → Int32} {L : Nat → Nat → Int64} {D : Nat → Nat} 
    (h1 : aw_m X d y_M_isProc [.ref 69] (aw_s I L D) (fun r A => aw_z X (d + 1) y_M_readCall Q 8 [some (.ref 69)] (r.toList ++ []) A)) :
    aw_z X (d + 1) y_M_readCall Q 4 [some (.ref 69)] [] (aw_s I L D) :=
  (s_M_readCall_4.go [some (.ref 69)] [.ref 69] (aw_s I L D) rfl (z_callV (av := []) (st := []) ok_M_isProc (Or.inl w_1814) w_1816 w_85 k_M d_M_readCall_5 rfl (aw_lt (o := 69) rfl) rfl rfl (Nat.le_of_ble_eq_true rfl) (Nat.le_refl _) (Nat.le_refl _) (h1)))
theorem d_M_readCall_8 : decode y_M_readCall.2.1 8 = .ok (.ifCond .ne (9), 3) := by decide +kernel
theorem d_M_readCall_17 : decode y_M_readCall.2.1 17 = .ok (.aload_n 0, 1) := by decide +kernel
theorem d_M_readCall_18 : decode y_M_readCall.2.1 18 = .ok (.getfield 50, 3) := by decide +kernel
theorem d_M_readCall_21 : decode y_M_readCall.2.1 21 = .ok (.aload_n 0, 1) := by decide +kernel
theorem d_M_readCall_22 : decode y_M_readCall.2.1 22 = .ok (.getfield 195, 3) := by decide +kernel
theorem d_M_readCall_25 : decode y_M_readCall.2.1 25 = .ok (.l2i, 1) := by decide +kernel
theorem d_M_readCall_26 : decode y_M_readCall.2.1 26 = .ok (.bipush 16, 2) := by decide +kernel
theorem d_M_readCall_28 : decode y_M_readCall.2.1 28 = .ok (.isub, 1) := by decide +kernel
theorem s_M_readCall_17 : aw_VS y_M_readCall 17 [o_ald 0, o_getA 9 24, o_ald 0, o_getJ 9 11, o_li (fun x => x.toInt32), o_c (.int (16 : Int32)), o_i2 (fun x z => x - z)] 29 := .cons (v_aload_n (i := 0) d_M_readCall_17 rfl) (.cons (v_getA (k := 24) k_M (by decide) rfl (Or.inl w_1485) d_M_readCall_18) (.cons (v_aload_n (i := 0) d_M_readCall_21 rfl) (.cons (v_getJ (k := 11) k_M (by decide) rfl (Or.inl w_1472) d_M_readCall_22) (.cons (v_l2i d_M_readCall_25) (.cons (v_bipush (v := (16 : Int32)) d_M_readCall_26 (by decide +kernel)) (.cons (v_isub d_M_readCall_28) .nil))))))
theorem d_M_readCall_29 : decode y_M_readCall.2.1 29 = .ok (.iaload, 1) := by decide +kernel
theorem d_M_readCall_30 : decode y_M_readCall.2.1 30 = .ok (.iconst (-1), 1) := by decide +kernel
theorem s_M_readCall_30 : aw_VS y_M_readCall 30 [o_c (.int (-1 : Int32))] 31 := .cons (v_iconst (v := (-1 : Int32)) d_M_readCall_30 (by decide +kernel)) .nil
theorem d_M_readCall_31 : decode y_M_readCall.2.1 31 = .ok (.if_icmp .ne (9), 3) := by decide +kernel
theorem d_M_readCall_40 : decode y_M_readCall.2.1 40 = .ok (.aload_n 0, 1) := by decide +kernel
theorem d_M_readCall_41 : decode y_M_readCall.2.1 41 = .ok (.bipush 23, 2) := by decide +kernel
theorem d_M_readCall_43 : decode y_M_readCall.2.1 43 = .ok (.aload_n 0, 1) := by decide +kernel
theorem d_M_readCall_44 : decode y_M_readCall.2.1 44 = .ok (.getfield 50, 3) := by decide +kernel
theorem d_M_readCall_47 : decode y_M_readCall.2.1 47 = .ok (.aload_n 0, 1) := by decide +kernel
theorem d_M_readCall_48 : decode y_M_readCall.2.1 48 = .ok (.getfield 195, 3) := by decide +kernel
theorem d_M_readCall_51 : decode y_M_readCall.2.1 51 = .ok (.l2i, 1) := by decide +kernel
theorem d_M_readCall_52 : decode y_M_readCall.2.1 52 = .ok (.bipush 16, 2) := by decide +kernel
theorem d_M_readCall_54 : decode y_M_readCall.2.1 54 = .ok (.isub, 1) := by decide +kernel
theorem s_M_readCall_40 : aw_VS y_M_readCall 40 [o_ald 0, o_c (.int (23 : Int32)), o_ald 0, o_getA 9 24, o_ald 0, o_getJ 9 11, o_li (fun x => x.toInt32), o_c (.int (16 : Int32)), o_i2 (fun x z => x - z)] 55 := .cons (v_aload_n (i := 0) d_M_readCall_40 rfl) (.cons (v_bipush (v := (23 : Int32)) d_M_readCall_41 (by decide +kernel)) (.cons (v_aload_n (i := 0) d_M_readCall_43 rfl) (.cons (v_getA (k := 24) k_M (by decide) rfl (Or.inl w_1485) d_M_readCall_44) (.cons (v_aload_n (i := 0) d_M_readCall_47 rfl) (.cons (v_getJ (k := 11) k_M (by decide) rfl (Or.inl w_1472) d_M_readCall_48) (.cons (v_l2i d_M_readCall_51) (.cons (v_bipush (v := (16 : Int32)) d_M_readCall_52 (by decide +kernel)) (.cons (v_isub d_M_readCall_54) .nil))))))))
theorem d_M_readCall_55 : decode y_M_readCall.2.1 55 = .ok (.iaload, 1) := by decide +kernel
theorem d_M_readCall_56 : decode y_M_readCall.2.1 56 = .ok (.invokevirtual 238, 3) := by decide +kernel
theorem d_M_readCall_34 : decode y_M_readCall.2.1 34 = .ok (.aload_n 0, 1) := by decide +kernel
theorem d_M_readCall_35 : decode y_M_readCall.2.1 35 = .ok (.iconst 4, 1) := by decide +kernel
theorem s_M_readCall_34 : aw_VS y_M_readCall 34 [o_ald 0, o_c (.int (4 : Int32))] 36 := .cons (v_aload_n (i := 0) d_M_readCall_34 rfl) (.cons (v_iconst (v := (4 : Int32)) d_M_readCall_35 (by decide +kernel)) .nil)
theorem d_M_readCall_36 : decode y_M_readCall.2.1 36 = .ok (.invokevirtual 219, 3) := by decide +kernel
theorem d_M_readCall_11 : decode y_M_readCall.2.1 11 = .ok (.aload_n 0, 1) := by decide +kernel
theorem d_M_readCall_12 : decode y_M_readCall.2.1 12 = .ok (.iconst 1, 1) := by decide +kernel
theorem s_M_readCall_11 : aw_VS y_M_readCall 11 [o_ald 0, o_c (.int (1 : Int32))] 13 := .cons (v_aload_n (i := 0) d_M_readCall_11 rfl) (.cons (v_iconst (v := (1 : Int32)) d_M_readCall_12 (by decide +kernel)) .nil)
theorem d_M_readCall_13 : decode y_M_readCall.2.1 13 = .ok (.invokevirtual 219, 3) := by decide +kernel
theorem b_M_readCall_8 {X : aw_X} {d : Nat} {Q : Option Value → aw_H → Prop} {I : Nat → Nat → Int32} {L : Nat → Nat → Int64} {D : Nat → Nat} {s0 : Int32}
    (h1 : ¬ s0 = 0 → vp_in (((L 69 11).toInt32) - (16 : Int32)) 4)
    (h2 : ¬ s0 = 0 → ¬ (I 83 ((((L 69 11).toInt32) - (16 : Int32)).toNatClampNeg)) = (-1 : Int32) → vp_in (((L 69 11).toInt32) - (16 : Int32)) 4)
    (h3 : ¬ s0 = 0 → ¬ (I 83 ((((L 69 11).toInt32) - (16 : Int32)).toNatClampNeg)) = (-1 : Int32) → aw_m X d y_M_emit [.ref 69, .int (23 : Int32), .int (I 83 ((((L 69 11).toInt32) - (16 : Int32)).toNatClampNeg))] (aw_s I L D) (fun r A => aw_z X (d + 1) y_M_readCall Q 59 [some (.ref 69)] (r.toList ++ []) A))
    (h4 : ¬ s0 = 0 → (I 83 ((((L 69 11).toInt32) - (16 : Int32)).toNatClampNeg)) = (-1 : Int32) → aw_m X d y_M_bad [.ref 69, .int (4 : Int32)] (aw_s I L D) (fun r A => aw_z X (d + 1) y_M_readCall Q 39 [none] (r.toList ++ []) A))
    (h5 : s0 = 0 → aw_m X d y_M_bad [.ref 69, .int (1 : Int32)] (aw_s I L D) (fun r A => aw_z X (d + 1) y_M_readCall Q 16 [none] (r.toList ++ []) A)) :
    aw_z X (d + 1) y_M_readCall Q 8 [some (.ref 69)] [.int s0] (aw_s I L D) :=
  (z_if_ne (tgt := 17) d_M_readCall_8 rfl (fun q1 => (s_M_readCall_17.go [some (.ref 69)] [.int (((L 69 11).toInt32) - (16 : Int32)), .ref 83] (aw_s I L D) rfl (z_iald (n := 4) rfl (aw_lt (o := 83) rfl) (h1 q1) d_M_readCall_29 (s_M_readCall_30.go [some (.ref 69)] [.int (-1 : Int32), .int (I 83 ((((L 69 11).toInt32) - (16 : Int32)).toNatClampNeg))] (aw_s I L D) rfl (z_icmp_ne (tgt := 40) d_M_readCall_31 rfl (fun q3 => (s_M_readCall_40.go [some (.ref 69)] [.int (((L 69 11).toInt32) - (16 : Int32)), .ref 83, .int (23 : Int32), .ref 69] (aw_s I L D) rfl (z_iald (n := 4) rfl (aw_lt (o := 83) rfl) (h2 q1 q3) d_M_readCall_55 (z_callV (av := [.int (23 : Int32), .int (I 83 ((((L 69 11).toInt32) - (16 : Int32)).toNatClampNeg))]) (st := []) ok_M_emit (Or.inl w_1787) w_1789 w_79 k_M d_M_readCall_56 rfl (aw_lt (o := 69) rfl) rfl rfl (Nat.le_of_ble_eq_true rfl) (Nat.le_refl _) (Nat.le_refl _) (h3 q1 q3))))) (fun q4 => (s_M_readCall_34.go [some (.ref 69)] [.int (4 : Int32), .ref 69] (aw_s I L D) rfl (z_callV (av := [.int (4 : Int32)]) (st := []) ok_M_bad (Or.inl w_1806) w_1808 w_83 k_M d_M_readCall_36 rfl (aw_lt (o := 69) rfl) rfl rfl (Nat.le_of_ble_eq_true rfl) (Nat.le_refl _) (Nat.le_refl _) (aw_C.mono (h4 q1 q4) (fun _ _ zz => aw_Z.weak (ls' := [none]) zz (Nat.le_of_ble_eq_true rfl) ⟨Or.inl rfl, trivial⟩)))))))))) (fun q2 => (s_M_readCall_11.go [some (.ref 69)] [.int (1 : Int32), .ref 69] (aw_s I L D) rfl (z_callV (av := [.int (1 : Int32)]) (st := []) ok_M_bad (Or.inl w_1806) w_1808 w_83 k_M d_M_readCall_13 rfl (aw_lt (o := 69) rfl) rfl rfl (Nat.le_of_ble_eq_true rfl) (Nat.le_refl _) (Nat.le_refl _) (aw_C.mono (h5 q2) (fun _ _ zz => aw_Z.weak (ls' := [none]) zz (Nat.le_of_ble_eq_true rfl) ⟨Or.inl rfl, trivial⟩))))))
theorem d_M_readCall_59 : decode y_M_readCall.2.1 59 = .ok (.pop, 1) := by decide +kernel
theorem d_M_readCall_60 : decode y_M_readCall.2.1 60 = .ok (.aload_n 0, 1) := by decide +kernel
theorem s_M_readCall_59 : aw_VS y_M_readCall 59 [o_pop, o_ald 0] 61 := .cons (v_pop d_M_readCall_59) (.cons (v_aload_n (i := 0) d_M_readCall_60 rfl) .nil)
theorem d_M_readCall_61 : decode y_M_readCall.2.1 61 = .ok (.invokevirtual 222, 3) := by decide +kernel
theorem b_M_readCall_59 {X : aw_X} {d : Nat} {Q : Option Value → aw_H → Prop} {I : Nat → Nat → Int32} {L : Nat → Nat → Int64} {D : Nat → Nat} {s0 : Int32}
    (h1 : aw_m X d y_M_go [.ref 69] (aw_s I L D) (fun r A => aw_z X (d + 1) y_M_readCall Q 64 [some (.ref 69)] (r.toList ++ []) A)) :
    aw_z X (d + 1) y_M_readCall Q 59 [some (.ref 69)] [.int s0] (aw_s I L D) :=
  (s_M_readCall_59.go [some (.ref 69)] [.ref 69] (aw_s I L D) rfl (z_callV (av := []) (st := []) ok_M_go (Or.inl w_1760) w_1762 w_75 k_M d_M_readCall_61 rfl (aw_lt (o := 69) rfl) rfl rfl (Nat.le_of_ble_eq_true rfl) (Nat.le_refl _) (Nat.le_refl _) (h1)))
theorem d_M_readCall_39 : decode y_M_readCall.2.1 39 = .ok (.ireturn, 1) := by decide +kernel
theorem b_M_readCall_39 {X : aw_X} {d : Nat} {Q : Option Value → aw_H → Prop} {I : Nat → Nat → Int32} {L : Nat → Nat → Int64} {D : Nat → Nat} {s0 : Int32}
    (h1 : (s0 = 0 ∨ s0 = 1))
    (h2 : Q (some (.int s0)) (aw_s I L D)) :
    aw_z X (d + 1) y_M_readCall Q 39 [none] [.int s0] (aw_s I L D) :=
  (z_iret d_M_readCall_39 rfl (aw_nz (h1)) (h2))
theorem d_M_readCall_16 : decode y_M_readCall.2.1 16 = .ok (.ireturn, 1) := by decide +kernel
theorem b_M_readCall_16 {X : aw_X} {d : Nat} {Q : Option Value → aw_H → Prop} {I : Nat → Nat → Int32} {L : Nat → Nat → Int64} {D : Nat → Nat} {s0 : Int32}
    (h1 : (s0 = 0 ∨ s0 = 1))
    (h2 : Q (some (.int s0)) (aw_s I L D)) :
    aw_z X (d + 1) y_M_readCall Q 16 [none] [.int s0] (aw_s I L D) :=
  (z_iret d_M_readCall_16 rfl (aw_nz (h1)) (h2))
theorem d_M_readCall_64 : decode y_M_readCall.2.1 64 = .ok (.aload_n 0, 1) := by decide +kernel
theorem d_M_readCall_65 : decode y_M_readCall.2.1 65 = .ok (.bipush 59, 2) := by decide +kernel
theorem s_M_readCall_64 : aw_VS y_M_readCall 64 [o_ald 0, o_c (.int (59 : Int32))] 67 := .cons (v_aload_n (i := 0) d_M_readCall_64 rfl) (.cons (v_bipush (v := (59 : Int32)) d_M_readCall_65 (by decide +kernel)) .nil)
theorem d_M_readCall_67 : decode y_M_readCall.2.1 67 = .ok (.invokevirtual 316, 3) := by decide +kernel
theorem b_M_readCall_64 {X : aw_X} {d : Nat} {Q : Option Value → aw_H → Prop} {I : Nat → Nat → Int32} {L : Nat → Nat → Int64} {D : Nat → Nat} 
    (h1 : aw_m X d y_M_readSign [.ref 69, .int (59 : Int32)] (aw_s I L D) (fun r A => aw_z X (d + 1) y_M_readCall Q 70 [none] (r.toList ++ []) A)) :
    aw_z X (d + 1) y_M_readCall Q 64 [some (.ref 69)] [] (aw_s I L D) :=
  (s_M_readCall_64.go [some (.ref 69)] [.int (59 : Int32), .ref 69] (aw_s I L D) rfl (z_callV (av := [.int (59 : Int32)]) (st := []) ok_M_readSign (Or.inl w_1880) w_1882 w_100 k_M d_M_readCall_67 rfl (aw_lt (o := 69) rfl) rfl rfl (Nat.le_of_ble_eq_true rfl) (Nat.le_refl _) (Nat.le_refl _) (aw_C.mono (h1) (fun _ _ zz => aw_Z.weak (ls' := [none]) zz (Nat.le_of_ble_eq_true rfl) ⟨Or.inl rfl, trivial⟩))))
theorem d_M_readCall_70 : decode y_M_readCall.2.1 70 = .ok (.ireturn, 1) := by decide +kernel
theorem b_M_readCall_70 {X : aw_X} {d : Nat} {Q : Option Value → aw_H → Prop} {I : Nat → Nat → Int32} {L : Nat → Nat → Int64} {D : Nat → Nat} {s0 : Int32}
    (h1 : (s0 = 0 ∨ s0 = 1))
    (h2 : Q (some (.int s0)) (aw_s I L D)) :
    aw_z X (d + 1) y_M_readCall Q 70 [none] [.int s0] (aw_s I L D) :=
  (z_iret d_M_readCall_70 rfl (aw_nz (h1)) (h2))
/-! M_copy -/
theorem d_M_copy_0 : decode y_M_copy.2.1 0 = .ok (.iconst 0, 1) := by decide +kernel
theorem d_M_copy_1 : decode y_M_copy.2.1 1 = .ok (.istore_n 3, 1) := by decide +kernel
theorem s_M_copy_0 : aw_VS y_M_copy 0 [o_c (.int (0 : Int32)), o_ist 3] 2 := .cons (v_iconst (v := (0 : Int32)) d_M_copy_0 (by decide +kernel)) (.cons (v_istore_n d_M_copy_1) .nil)
theorem b_M_copy_0 {X : aw_X} {d : Nat} {Q : Option Value → aw_H → Prop} {I : Nat → Nat → Int32} {L : Nat → Nat → Int64} {D : Nat → Nat} {v1 : Int32} {v2 : Int32}
    (h1 : aw_z X d y_M_copy Q 2 [some (.ref 69), some (.int v1), some (.int v2), some (.int (0 : Int32))] [] (aw_s I L D)) :
    aw_z X d y_M_copy Q 0 [some (.ref 69), some (.int v1), some (.int v2), none] [] (aw_s I L D) :=
  (s_M_copy_0.go [some (.ref 69), some (.int v1), some (.int v2), some (.int (0 : Int32))] [] (aw_s I L D) rfl (h1))
theorem d_M_copy_2 : decode y_M_copy.2.1 2 = .ok (.iload_n 3, 1) := by decide +kernel
theorem d_M_copy_3 : decode y_M_copy.2.1 3 = .ok (.aload_n 0, 1) := by decide +kernel
theorem d_M_copy_4 : decode y_M_copy.2.1 4 = .ok (.getfield 19, 3) := by decide +kernel
theorem d_M_copy_7 : decode y_M_copy.2.1 7 = .ok (.iload_n 1, 1) := by decide +kernel
theorem s_M_copy_2 : aw_VS y_M_copy 2 [o_ild 3, o_ald 0, o_getA 9 14, o_ild 1] 8 := .cons (v_iload_n (i := 3) d_M_copy_2 rfl) (.cons (v_aload_n (i := 0) d_M_copy_3 rfl) (.cons (v_getA (k := 14) k_M (by decide) rfl (Or.inl w_1475) d_M_copy_4) (.cons (v_iload_n (i := 1) d_M_copy_7 rfl) .nil)))
theorem d_M_copy_8 : decode y_M_copy.2.1 8 = .ok (.iaload, 1) := by decide +kernel
theorem d_M_copy_9 : decode y_M_copy.2.1 9 = .ok (.if_icmp .ge (57), 3) := by decide +kernel
theorem d_M_copy_66 : decode y_M_copy.2.1 66 = .ok (.iconst 0, 1) := by decide +kernel
theorem d_M_copy_67 : decode y_M_copy.2.1 67 = .ok (.istore_n 3, 1) := by decide +kernel
theorem s_M_copy_66 : aw_VS y_M_copy 66 [o_c (.int (0 : Int32)), o_ist 3] 68 := .cons (v_iconst (v := (0 : Int32)) d_M_copy_66 (by decide +kernel)) (.cons (v_istore_n d_M_copy_67) .nil)
theorem d_M_copy_12 : decode y_M_copy.2.1 12 = .ok (.aload_n 0, 1) := by decide +kernel
theorem d_M_copy_13 : decode y_M_copy.2.1 13 = .ok (.getfield 13, 3) := by decide +kernel
theorem d_M_copy_16 : decode y_M_copy.2.1 16 = .ok (.sipush 800, 3) := by decide +kernel
theorem d_M_copy_19 : decode y_M_copy.2.1 19 = .ok (.iload_n 2, 1) := by decide +kernel
theorem d_M_copy_20 : decode y_M_copy.2.1 20 = .ok (.imul, 1) := by decide +kernel
theorem d_M_copy_21 : decode y_M_copy.2.1 21 = .ok (.iload_n 3, 1) := by decide +kernel
theorem d_M_copy_22 : decode y_M_copy.2.1 22 = .ok (.iadd, 1) := by decide +kernel
theorem d_M_copy_23 : decode y_M_copy.2.1 23 = .ok (.aload_n 0, 1) := by decide +kernel
theorem d_M_copy_24 : decode y_M_copy.2.1 24 = .ok (.getfield 13, 3) := by decide +kernel
theorem d_M_copy_27 : decode y_M_copy.2.1 27 = .ok (.sipush 800, 3) := by decide +kernel
theorem d_M_copy_30 : decode y_M_copy.2.1 30 = .ok (.iload_n 1, 1) := by decide +kernel
theorem d_M_copy_31 : decode y_M_copy.2.1 31 = .ok (.imul, 1) := by decide +kernel
theorem d_M_copy_32 : decode y_M_copy.2.1 32 = .ok (.iload_n 3, 1) := by decide +kernel
theorem d_M_copy_33 : decode y_M_copy.2.1 33 = .ok (.iadd, 1) := by decide +kernel
theorem s_M_copy_12 : aw_VS y_M_copy 12 [o_ald 0, o_getA 9 12, o_c (.int (800 : Int32)), o_ild 2, o_i2 (fun x z => x * z), o_ild 3, o_i2 (fun x z => x + z), o_ald 0, o_getA 9 12, o_c (.int (800 : Int32)), o_ild 1, o_i2 (fun x z => x * z), o_ild 3, o_i2 (fun x z => x + z)] 34 := .cons (v_aload_n (i := 0) d_M_copy_12 rfl) (.cons (v_getA (k := 12) k_M (by decide) rfl (Or.inl w_1473) d_M_copy_13) (.cons (v_sipush (v := (800 : Int32)) d_M_copy_16 (by decide +kernel)) (.cons (v_iload_n (i := 2) d_M_copy_19 rfl) (.cons (v_imul d_M_copy_20) (.cons (v_iload_n (i := 3) d_M_copy_21 rfl) (.cons (v_iadd d_M_copy_22) (.cons (v_aload_n (i := 0) d_M_copy_23 rfl) (.cons (v_getA (k := 12) k_M (by decide) rfl (Or.inl w_1473) d_M_copy_24) (.cons (v_sipush (v := (800 : Int32)) d_M_copy_27 (by decide +kernel)) (.cons (v_iload_n (i := 1) d_M_copy_30 rfl) (.cons (v_imul d_M_copy_31) (.cons (v_iload_n (i := 3) d_M_copy_32 rfl) (.cons (v_iadd d_M_copy_33) .nil)))))))))))))
theorem d_M_copy_34 : decode y_M_copy.2.1 34 = .ok (.iaload, 1) := by decide +kernel
theorem d_M_copy_35 : decode y_M_copy.2.1 35 = .ok (.iastore, 1) := by decide +kernel
theorem d_M_copy_36 : decode y_M_copy.2.1 36 = .ok (.aload_n 0, 1) := by decide +kernel
theorem d_M_copy_37 : decode y_M_copy.2.1 37 = .ok (.getfield 16, 3) := by decide +kernel
theorem d_M_copy_40 : decode y_M_copy.2.1 40 = .ok (.sipush 800, 3) := by decide +kernel
theorem d_M_copy_43 : decode y_M_copy.2.1 43 = .ok (.iload_n 2, 1) := by decide +kernel
theorem d_M_copy_44 : decode y_M_copy.2.1 44 = .ok (.imul, 1) := by decide +kernel
theorem d_M_copy_45 : decode y_M_copy.2.1 45 = .ok (.iload_n 3, 1) := by decide +kernel
theorem d_M_copy_46 : decode y_M_copy.2.1 46 = .ok (.iadd, 1) := by decide +kernel
theorem d_M_copy_47 : decode y_M_copy.2.1 47 = .ok (.aload_n 0, 1) := by decide +kernel
theorem d_M_copy_48 : decode y_M_copy.2.1 48 = .ok (.getfield 16, 3) := by decide +kernel
theorem d_M_copy_51 : decode y_M_copy.2.1 51 = .ok (.sipush 800, 3) := by decide +kernel
theorem d_M_copy_54 : decode y_M_copy.2.1 54 = .ok (.iload_n 1, 1) := by decide +kernel
theorem d_M_copy_55 : decode y_M_copy.2.1 55 = .ok (.imul, 1) := by decide +kernel
theorem d_M_copy_56 : decode y_M_copy.2.1 56 = .ok (.iload_n 3, 1) := by decide +kernel
theorem d_M_copy_57 : decode y_M_copy.2.1 57 = .ok (.iadd, 1) := by decide +kernel
theorem s_M_copy_36 : aw_VS y_M_copy 36 [o_ald 0, o_getA 9 13, o_c (.int (800 : Int32)), o_ild 2, o_i2 (fun x z => x * z), o_ild 3, o_i2 (fun x z => x + z), o_ald 0, o_getA 9 13, o_c (.int (800 : Int32)), o_ild 1, o_i2 (fun x z => x * z), o_ild 3, o_i2 (fun x z => x + z)] 58 := .cons (v_aload_n (i := 0) d_M_copy_36 rfl) (.cons (v_getA (k := 13) k_M (by decide) rfl (Or.inl w_1474) d_M_copy_37) (.cons (v_sipush (v := (800 : Int32)) d_M_copy_40 (by decide +kernel)) (.cons (v_iload_n (i := 2) d_M_copy_43 rfl) (.cons (v_imul d_M_copy_44) (.cons (v_iload_n (i := 3) d_M_copy_45 rfl) (.cons (v_iadd d_M_copy_46) (.cons (v_aload_n (i := 0) d_M_copy_47 rfl) (.cons (v_getA (k := 13) k_M (by decide) rfl (Or.inl w_1474) d_M_copy_48) (.cons (v_sipush (v := (800 : Int32)) d_M_copy_51 (by decide +kernel)) (.cons (v_iload_n (i := 1) d_M_copy_54 rfl) (.cons (v_imul d_M_copy_55) (.cons (v_iload_n (i := 3) d_M_copy_56 rfl) (.cons (v_iadd d_M_copy_57) .nil)))))))))))))
theorem d_M_copy_58 : decode y_M_copy.2.1 58 = .ok (.iaload, 1) := by decide +kernel
theorem d_M_copy_59 : decode y_M_copy.2.1 59 = .ok (.iastore, 1) := by decide +kernel
theorem d_M_copy_60 : decode y_M_copy.2.1 60 = .ok (.iinc 3 (1), 3) := by decide +kernel
theorem s_M_copy_60 : aw_VS y_M_copy 60 [o_inc 3 (1 : Int32)] 63 := .cons (v_iinc (k0 := (1 : Int32)) d_M_copy_60 (by decide +kernel)) .nil
theorem d_M_copy_63 : decode y_M_copy.2.1 63 = .ok (.goto (-61), 3) := by decide +kernel
theorem b_M_copy_2 {X : aw_X} {d : Nat} {Q : Option Value → aw_H → Prop} {I : Nat → Nat → Int32} {L : Nat → Nat → Int64} {D : Nat → Nat} {v1 : Int32} {v2 : Int32} {v3 : Int32}
    (h1 : vp_in v1 7)
    (h2 : (I 73 v1.toNatClampNeg) ≤ v3 → aw_z X d y_M_copy Q 68 [some (.ref 69), some (.int v1), some (.int v2), some (.int (0 : Int32))] [] (aw_s I L D))
    (h3 : ¬ (I 73 v1.toNatClampNeg) ≤ v3 → vp_in (((800 : Int32) * v1) + v3) 5600)
    (h4 : ¬ (I 73 v1.toNatClampNeg) ≤ v3 → vp_in (((800 : Int32) * v2) + v3) 5600)
    (h5 : ¬ (I 73 v1.toNatClampNeg) ≤ v3 → vp_in (((800 : Int32) * v1) + v3) 5600)
    (h6 : ¬ (I 73 v1.toNatClampNeg) ≤ v3 → vp_in (((800 : Int32) * v2) + v3) 5600)
    (h7 : ¬ (I 73 v1.toNatClampNeg) ≤ v3 → aw_z X d y_M_copy Q 2 [some (.ref 69), some (.int v1), some (.int v2), some (.int (v3 + (1 : Int32)))] [] (aw_s (aw_u (aw_u I 71 ((((800 : Int32) * v2) + v3).toNatClampNeg) (I 71 ((((800 : Int32) * v1) + v3).toNatClampNeg))) 72 ((((800 : Int32) * v2) + v3).toNatClampNeg) (I 72 ((((800 : Int32) * v1) + v3).toNatClampNeg))) L D)) :
    aw_z X d y_M_copy Q 2 [some (.ref 69), some (.int v1), some (.int v2), some (.int v3)] [] (aw_s I L D) :=
  (s_M_copy_2.go [some (.ref 69), some (.int v1), some (.int v2), some (.int v3)] [.int v1, .ref 73, .int v3] (aw_s I L D) rfl (z_iald (n := 7) rfl (aw_lt (o := 73) rfl) (h1) d_M_copy_8 (z_icmp_ge (tgt := 66) d_M_copy_9 rfl (fun q1 => (s_M_copy_66.go [some (.ref 69), some (.int v1), some (.int v2), some (.int (0 : Int32))] [] (aw_s I L D) rfl (h2 q1))) (fun q2 => (s_M_copy_12.go [some (.ref 69), some (.int v1), some (.int v2), some (.int v3)] [.int (((800 : Int32) * v1) + v3), .ref 71, .int (((800 : Int32) * v2) + v3), .ref 71] (aw_s I L D) rfl (z_iald (n := 5600) rfl (aw_lt (o := 71) rfl) (h3 q2) d_M_copy_34 (z_iast (n := 5600) rfl (aw_lt (o := 71) rfl) (h4 q2) d_M_copy_35 (s_M_copy_36.go [some (.ref 69), some (.int v1), some (.int v2), some (.int v3)] [.int (((800 : Int32) * v1) + v3), .ref 72, .int (((800 : Int32) * v2) + v3), .ref 72] (aw_s (aw_u I 71 ((((800 : Int32) * v2) + v3).toNatClampNeg) (I 71 ((((800 : Int32) * v1) + v3).toNatClampNeg))) L D) rfl (z_iald (n := 5600) rfl (aw_lt (o := 72) rfl) (h5 q2) d_M_copy_58 (z_iast (n := 5600) rfl (aw_lt (o := 72) rfl) (h6 q2) d_M_copy_59 (s_M_copy_60.go [some (.ref 69), some (.int v1), some (.int v2), some (.int (v3 + (1 : Int32)))] [] (aw_s (aw_u (aw_u I 71 ((((800 : Int32) * v2) + v3).toNatClampNeg) (I 71 ((((800 : Int32) * v1) + v3).toNatClampNeg))) 72 ((((800 : Int32) * v2) + v3).toNatClampNeg) (I 72 ((((800 : Int32) * v1) + v3).toNatClampNeg))) L D) rfl (z_goto (tgt := 2) d_M_copy_63 rfl (h7 q2)))))))))))))
theorem d_M_copy_68 : decode y_M_copy.2.1 68 = .ok (.iload_n 3, 1) := by decide +kernel
theorem d_M_copy_69 : decode y_M_copy.2.1 69 = .ok (.bipush 60, 2) := by decide +kernel
theorem s_M_copy_68 : aw_VS y_M_copy 68 [o_ild 3, o_c (.int (60 : Int32))] 71 := .cons (v_iload_n (i := 3) d_M_copy_68 rfl) (.cons (v_bipush (v := (60 : Int32)) d_M_copy_69 (by decide +kernel)) .nil)
theorem d_M_copy_71 : decode y_M_copy.2.1 71 = .ok (.if_icmp .ge (31), 3) := by decide +kernel
theorem d_M_copy_102 : decode y_M_copy.2.1 102 = .ok (.iconst 0, 1) := by decide +kernel
theorem d_M_copy_103 : decode y_M_copy.2.1 103 = .ok (.istore_n 3, 1) := by decide +kernel
theorem s_M_copy_102 : aw_VS y_M_copy 102 [o_c (.int (0 : Int32)), o_ist 3] 104 := .cons (v_iconst (v := (0 : Int32)) d_M_copy_102 (by decide +kernel)) (.cons (v_istore_n d_M_copy_103) .nil)
theorem d_M_copy_74 : decode y_M_copy.2.1 74 = .ok (.aload_n 0, 1) := by decide +kernel
theorem d_M_copy_75 : decode y_M_copy.2.1 75 = .ok (.getfield 31, 3) := by decide +kernel
theorem d_M_copy_78 : decode y_M_copy.2.1 78 = .ok (.bipush 60, 2) := by decide +kernel
theorem d_M_copy_80 : decode y_M_copy.2.1 80 = .ok (.iload_n 2, 1) := by decide +kernel
theorem d_M_copy_81 : decode y_M_copy.2.1 81 = .ok (.imul, 1) := by decide +kernel
theorem d_M_copy_82 : decode y_M_copy.2.1 82 = .ok (.iload_n 3, 1) := by decide +kernel
theorem d_M_copy_83 : decode y_M_copy.2.1 83 = .ok (.iadd, 1) := by decide +kernel
theorem d_M_copy_84 : decode y_M_copy.2.1 84 = .ok (.aload_n 0, 1) := by decide +kernel
theorem d_M_copy_85 : decode y_M_copy.2.1 85 = .ok (.getfield 31, 3) := by decide +kernel
theorem d_M_copy_88 : decode y_M_copy.2.1 88 = .ok (.bipush 60, 2) := by decide +kernel
theorem d_M_copy_90 : decode y_M_copy.2.1 90 = .ok (.iload_n 1, 1) := by decide +kernel
theorem d_M_copy_91 : decode y_M_copy.2.1 91 = .ok (.imul, 1) := by decide +kernel
theorem d_M_copy_92 : decode y_M_copy.2.1 92 = .ok (.iload_n 3, 1) := by decide +kernel
theorem d_M_copy_93 : decode y_M_copy.2.1 93 = .ok (.iadd, 1) := by decide +kernel
theorem s_M_copy_74 : aw_VS y_M_copy 74 [o_ald 0, o_getA 9 18, o_c (.int (60 : Int32)), o_ild 2, o_i2 (fun x z => x * z), o_ild 3, o_i2 (fun x z => x + z), o_ald 0, o_getA 9 18, o_c (.int (60 : Int32)), o_ild 1, o_i2 (fun x z => x * z), o_ild 3, o_i2 (fun x z => x + z)] 94 := .cons (v_aload_n (i := 0) d_M_copy_74 rfl) (.cons (v_getA (k := 18) k_M (by decide) rfl (Or.inl w_1479) d_M_copy_75) (.cons (v_bipush (v := (60 : Int32)) d_M_copy_78 (by decide +kernel)) (.cons (v_iload_n (i := 2) d_M_copy_80 rfl) (.cons (v_imul d_M_copy_81) (.cons (v_iload_n (i := 3) d_M_copy_82 rfl) (.cons (v_iadd d_M_copy_83) (.cons (v_aload_n (i := 0) d_M_copy_84 rfl) (.cons (v_getA (k := 18) k_M (by decide) rfl (Or.inl w_1479) d_M_copy_85) (.cons (v_bipush (v := (60 : Int32)) d_M_copy_88 (by decide +kernel)) (.cons (v_iload_n (i := 1) d_M_copy_90 rfl) (.cons (v_imul d_M_copy_91) (.cons (v_iload_n (i := 3) d_M_copy_92 rfl) (.cons (v_iadd d_M_copy_93) .nil)))))))))))))
theorem d_M_copy_94 : decode y_M_copy.2.1 94 = .ok (.baload, 1) := by decide +kernel
theorem d_M_copy_95 : decode y_M_copy.2.1 95 = .ok (.bastore, 1) := by decide +kernel
theorem d_M_copy_96 : decode y_M_copy.2.1 96 = .ok (.iinc 3 (1), 3) := by decide +kernel
theorem s_M_copy_96 : aw_VS y_M_copy 96 [o_inc 3 (1 : Int32)] 99 := .cons (v_iinc (k0 := (1 : Int32)) d_M_copy_96 (by decide +kernel)) .nil
theorem d_M_copy_99 : decode y_M_copy.2.1 99 = .ok (.goto (-31), 3) := by decide +kernel
theorem b_M_copy_68 {X : aw_X} {d : Nat} {Q : Option Value → aw_H → Prop} {I : Nat → Nat → Int32} {L : Nat → Nat → Int64} {D : Nat → Nat} {v1 : Int32} {v2 : Int32} {v3 : Int32}
    (h1 : (60 : Int32) ≤ v3 → aw_z X d y_M_copy Q 104 [some (.ref 69), some (.int v1), some (.int v2), some (.int (0 : Int32))] [] (aw_s I L D))
    (h2 : ¬ (60 : Int32) ≤ v3 → vp_in (((60 : Int32) * v1) + v3) 420)
    (h3 : ¬ (60 : Int32) ≤ v3 → vp_in (((60 : Int32) * v2) + v3) 420)
    (h4 : ¬ (60 : Int32) ≤ v3 → ((I 77 ((((60 : Int32) * v1) + v3).toNatClampNeg)) = 0 ∨ (I 77 ((((60 : Int32) * v1) + v3).toNatClampNeg)) = 1))
    (h5 : ¬ (60 : Int32) ≤ v3 → aw_z X d y_M_copy Q 68 [some (.ref 69), some (.int v1), some (.int v2), some (.int (v3 + (1 : Int32)))] [] (aw_s (aw_u I 77 ((((60 : Int32) * v2) + v3).toNatClampNeg) (I 77 ((((60 : Int32) * v1) + v3).toNatClampNeg))) L D)) :
    aw_z X d y_M_copy Q 68 [some (.ref 69), some (.int v1), some (.int v2), some (.int v3)] [] (aw_s I L D) :=
  (s_M_copy_68.go [some (.ref 69), some (.int v1), some (.int v2), some (.int v3)] [.int (60 : Int32), .int v3] (aw_s I L D) rfl (z_icmp_ge (tgt := 102) d_M_copy_71 rfl (fun q1 => (s_M_copy_102.go [some (.ref 69), some (.int v1), some (.int v2), some (.int (0 : Int32))] [] (aw_s I L D) rfl (h1 q1))) (fun q2 => (s_M_copy_74.go [some (.ref 69), some (.int v1), some (.int v2), some (.int v3)] [.int (((60 : Int32) * v1) + v3), .ref 77, .int (((60 : Int32) * v2) + v3), .ref 77] (aw_s I L D) rfl (z_zald (n := 420) rfl (aw_lt (o := 77) rfl) (h2 q2) d_M_copy_94 (z_zast (n := 420) rfl rfl (aw_lt (o := 77) rfl) (h3 q2) (h4 q2) d_M_copy_95 (s_M_copy_96.go [some (.ref 69), some (.int v1), some (.int v2), some (.int (v3 + (1 : Int32)))] [] (aw_s (aw_u I 77 ((((60 : Int32) * v2) + v3).toNatClampNeg) (I 77 ((((60 : Int32) * v1) + v3).toNatClampNeg))) L D) rfl (z_goto (tgt := 68) d_M_copy_99 rfl (h5 q2)))))))))
theorem d_M_copy_104 : decode y_M_copy.2.1 104 = .ok (.iload_n 3, 1) := by decide +kernel
theorem d_M_copy_105 : decode y_M_copy.2.1 105 = .ok (.bipush 20, 2) := by decide +kernel
theorem s_M_copy_104 : aw_VS y_M_copy 104 [o_ild 3, o_c (.int (20 : Int32))] 107 := .cons (v_iload_n (i := 3) d_M_copy_104 rfl) (.cons (v_bipush (v := (20 : Int32)) d_M_copy_105 (by decide +kernel)) .nil)
theorem d_M_copy_107 : decode y_M_copy.2.1 107 = .ok (.if_icmp .ge (31), 3) := by decide +kernel
theorem d_M_copy_138 : decode y_M_copy.2.1 138 = .ok (.aload_n 0, 1) := by decide +kernel
theorem d_M_copy_139 : decode y_M_copy.2.1 139 = .ok (.getfield 19, 3) := by decide +kernel
theorem d_M_copy_142 : decode y_M_copy.2.1 142 = .ok (.iload_n 2, 1) := by decide +kernel
theorem d_M_copy_143 : decode y_M_copy.2.1 143 = .ok (.aload_n 0, 1) := by decide +kernel
theorem d_M_copy_144 : decode y_M_copy.2.1 144 = .ok (.getfield 19, 3) := by decide +kernel
theorem d_M_copy_147 : decode y_M_copy.2.1 147 = .ok (.iload_n 1, 1) := by decide +kernel
theorem s_M_copy_138 : aw_VS y_M_copy 138 [o_ald 0, o_getA 9 14, o_ild 2, o_ald 0, o_getA 9 14, o_ild 1] 148 := .cons (v_aload_n (i := 0) d_M_copy_138 rfl) (.cons (v_getA (k := 14) k_M (by decide) rfl (Or.inl w_1475) d_M_copy_139) (.cons (v_iload_n (i := 2) d_M_copy_142 rfl) (.cons (v_aload_n (i := 0) d_M_copy_143 rfl) (.cons (v_getA (k := 14) k_M (by decide) rfl (Or.inl w_1475) d_M_copy_144) (.cons (v_iload_n (i := 1) d_M_copy_147 rfl) .nil)))))
theorem d_M_copy_148 : decode y_M_copy.2.1 148 = .ok (.iaload, 1) := by decide +kernel
theorem d_M_copy_149 : decode y_M_copy.2.1 149 = .ok (.iastore, 1) := by decide +kernel
theorem d_M_copy_150 : decode y_M_copy.2.1 150 = .ok (.aload_n 0, 1) := by decide +kernel
theorem d_M_copy_151 : decode y_M_copy.2.1 151 = .ok (.getfield 22, 3) := by decide +kernel
theorem d_M_copy_154 : decode y_M_copy.2.1 154 = .ok (.iload_n 2, 1) := by decide +kernel
theorem d_M_copy_155 : decode y_M_copy.2.1 155 = .ok (.aload_n 0, 1) := by decide +kernel
theorem d_M_copy_156 : decode y_M_copy.2.1 156 = .ok (.getfield 22, 3) := by decide +kernel
theorem d_M_copy_159 : decode y_M_copy.2.1 159 = .ok (.iload_n 1, 1) := by decide +kernel
theorem s_M_copy_150 : aw_VS y_M_copy 150 [o_ald 0, o_getA 9 15, o_ild 2, o_ald 0, o_getA 9 15, o_ild 1] 160 := .cons (v_aload_n (i := 0) d_M_copy_150 rfl) (.cons (v_getA (k := 15) k_M (by decide) rfl (Or.inl w_1476) d_M_copy_151) (.cons (v_iload_n (i := 2) d_M_copy_154 rfl) (.cons (v_aload_n (i := 0) d_M_copy_155 rfl) (.cons (v_getA (k := 15) k_M (by decide) rfl (Or.inl w_1476) d_M_copy_156) (.cons (v_iload_n (i := 1) d_M_copy_159 rfl) .nil)))))
theorem d_M_copy_160 : decode y_M_copy.2.1 160 = .ok (.iaload, 1) := by decide +kernel
theorem d_M_copy_161 : decode y_M_copy.2.1 161 = .ok (.iastore, 1) := by decide +kernel
theorem d_M_copy_162 : decode y_M_copy.2.1 162 = .ok (.aload_n 0, 1) := by decide +kernel
theorem d_M_copy_163 : decode y_M_copy.2.1 163 = .ok (.getfield 25, 3) := by decide +kernel
theorem d_M_copy_166 : decode y_M_copy.2.1 166 = .ok (.iload_n 2, 1) := by decide +kernel
theorem d_M_copy_167 : decode y_M_copy.2.1 167 = .ok (.aload_n 0, 1) := by decide +kernel
theorem d_M_copy_168 : decode y_M_copy.2.1 168 = .ok (.getfield 25, 3) := by decide +kernel
theorem d_M_copy_171 : decode y_M_copy.2.1 171 = .ok (.iload_n 1, 1) := by decide +kernel
theorem s_M_copy_162 : aw_VS y_M_copy 162 [o_ald 0, o_getA 9 16, o_ild 2, o_ald 0, o_getA 9 16, o_ild 1] 172 := .cons (v_aload_n (i := 0) d_M_copy_162 rfl) (.cons (v_getA (k := 16) k_M (by decide) rfl (Or.inl w_1477) d_M_copy_163) (.cons (v_iload_n (i := 2) d_M_copy_166 rfl) (.cons (v_aload_n (i := 0) d_M_copy_167 rfl) (.cons (v_getA (k := 16) k_M (by decide) rfl (Or.inl w_1477) d_M_copy_168) (.cons (v_iload_n (i := 1) d_M_copy_171 rfl) .nil)))))
theorem d_M_copy_172 : decode y_M_copy.2.1 172 = .ok (.iaload, 1) := by decide +kernel
theorem d_M_copy_173 : decode y_M_copy.2.1 173 = .ok (.iastore, 1) := by decide +kernel
theorem d_M_copy_174 : decode y_M_copy.2.1 174 = .ok (.aload_n 0, 1) := by decide +kernel
theorem d_M_copy_175 : decode y_M_copy.2.1 175 = .ok (.getfield 28, 3) := by decide +kernel
theorem d_M_copy_178 : decode y_M_copy.2.1 178 = .ok (.iload_n 2, 1) := by decide +kernel
theorem d_M_copy_179 : decode y_M_copy.2.1 179 = .ok (.aload_n 0, 1) := by decide +kernel
theorem d_M_copy_180 : decode y_M_copy.2.1 180 = .ok (.getfield 28, 3) := by decide +kernel
theorem d_M_copy_183 : decode y_M_copy.2.1 183 = .ok (.iload_n 1, 1) := by decide +kernel
theorem s_M_copy_174 : aw_VS y_M_copy 174 [o_ald 0, o_getA 9 17, o_ild 2, o_ald 0, o_getA 9 17, o_ild 1] 184 := .cons (v_aload_n (i := 0) d_M_copy_174 rfl) (.cons (v_getA (k := 17) k_M (by decide) rfl (Or.inl w_1478) d_M_copy_175) (.cons (v_iload_n (i := 2) d_M_copy_178 rfl) (.cons (v_aload_n (i := 0) d_M_copy_179 rfl) (.cons (v_getA (k := 17) k_M (by decide) rfl (Or.inl w_1478) d_M_copy_180) (.cons (v_iload_n (i := 1) d_M_copy_183 rfl) .nil)))))
theorem d_M_copy_184 : decode y_M_copy.2.1 184 = .ok (.iaload, 1) := by decide +kernel
theorem d_M_copy_185 : decode y_M_copy.2.1 185 = .ok (.iastore, 1) := by decide +kernel
theorem d_M_copy_186 : decode y_M_copy.2.1 186 = .ok (.return_, 1) := by decide +kernel
theorem d_M_copy_110 : decode y_M_copy.2.1 110 = .ok (.aload_n 0, 1) := by decide +kernel
theorem d_M_copy_111 : decode y_M_copy.2.1 111 = .ok (.getfield 35, 3) := by decide +kernel
theorem d_M_copy_114 : decode y_M_copy.2.1 114 = .ok (.bipush 20, 2) := by decide +kernel
theorem d_M_copy_116 : decode y_M_copy.2.1 116 = .ok (.iload_n 2, 1) := by decide +kernel
theorem d_M_copy_117 : decode y_M_copy.2.1 117 = .ok (.imul, 1) := by decide +kernel
theorem d_M_copy_118 : decode y_M_copy.2.1 118 = .ok (.iload_n 3, 1) := by decide +kernel
theorem d_M_copy_119 : decode y_M_copy.2.1 119 = .ok (.iadd, 1) := by decide +kernel
theorem d_M_copy_120 : decode y_M_copy.2.1 120 = .ok (.aload_n 0, 1) := by decide +kernel
theorem d_M_copy_121 : decode y_M_copy.2.1 121 = .ok (.getfield 35, 3) := by decide +kernel
theorem d_M_copy_124 : decode y_M_copy.2.1 124 = .ok (.bipush 20, 2) := by decide +kernel
theorem d_M_copy_126 : decode y_M_copy.2.1 126 = .ok (.iload_n 1, 1) := by decide +kernel
theorem d_M_copy_127 : decode y_M_copy.2.1 127 = .ok (.imul, 1) := by decide +kernel
theorem d_M_copy_128 : decode y_M_copy.2.1 128 = .ok (.iload_n 3, 1) := by decide +kernel
theorem d_M_copy_129 : decode y_M_copy.2.1 129 = .ok (.iadd, 1) := by decide +kernel
theorem s_M_copy_110 : aw_VS y_M_copy 110 [o_ald 0, o_getA 9 19, o_c (.int (20 : Int32)), o_ild 2, o_i2 (fun x z => x * z), o_ild 3, o_i2 (fun x z => x + z), o_ald 0, o_getA 9 19, o_c (.int (20 : Int32)), o_ild 1, o_i2 (fun x z => x * z), o_ild 3, o_i2 (fun x z => x + z)] 130 := .cons (v_aload_n (i := 0) d_M_copy_110 rfl) (.cons (v_getA (k := 19) k_M (by decide) rfl (Or.inl w_1480) d_M_copy_111) (.cons (v_bipush (v := (20 : Int32)) d_M_copy_114 (by decide +kernel)) (.cons (v_iload_n (i := 2) d_M_copy_116 rfl) (.cons (v_imul d_M_copy_117) (.cons (v_iload_n (i := 3) d_M_copy_118 rfl) (.cons (v_iadd d_M_copy_119) (.cons (v_aload_n (i := 0) d_M_copy_120 rfl) (.cons (v_getA (k := 19) k_M (by decide) rfl (Or.inl w_1480) d_M_copy_121) (.cons (v_bipush (v := (20 : Int32)) d_M_copy_124 (by decide +kernel)) (.cons (v_iload_n (i := 1) d_M_copy_126 rfl) (.cons (v_imul d_M_copy_127) (.cons (v_iload_n (i := 3) d_M_copy_128 rfl) (.cons (v_iadd d_M_copy_129) .nil)))))))))))))
theorem d_M_copy_130 : decode y_M_copy.2.1 130 = .ok (.iaload, 1) := by decide +kernel
theorem d_M_copy_131 : decode y_M_copy.2.1 131 = .ok (.iastore, 1) := by decide +kernel
theorem d_M_copy_132 : decode y_M_copy.2.1 132 = .ok (.iinc 3 (1), 3) := by decide +kernel
theorem s_M_copy_132 : aw_VS y_M_copy 132 [o_inc 3 (1 : Int32)] 135 := .cons (v_iinc (k0 := (1 : Int32)) d_M_copy_132 (by decide +kernel)) .nil
theorem d_M_copy_135 : decode y_M_copy.2.1 135 = .ok (.goto (-31), 3) := by decide +kernel
theorem b_M_copy_104 {X : aw_X} {d : Nat} {Q : Option Value → aw_H → Prop} {I : Nat → Nat → Int32} {L : Nat → Nat → Int64} {D : Nat → Nat} {v1 : Int32} {v2 : Int32} {v3 : Int32}
    (h1 : (20 : Int32) ≤ v3 → vp_in v1 7)
    (h2 : (20 : Int32) ≤ v3 → vp_in v2 7)
    (h3 : (20 : Int32) ≤ v3 → vp_in v1 7)
    (h4 : (20 : Int32) ≤ v3 → vp_in v2 7)
    (h5 : (20 : Int32) ≤ v3 → vp_in v1 7)
    (h6 : (20 : Int32) ≤ v3 → vp_in v2 7)
    (h7 : (20 : Int32) ≤ v3 → vp_in v1 7)
    (h8 : (20 : Int32) ≤ v3 → vp_in v2 7)
    (h9 : (20 : Int32) ≤ v3 → Q none (aw_s (aw_u (aw_u (aw_u (aw_u I 73 v2.toNatClampNeg (I 73 v1.toNatClampNeg)) 74 v2.toNatClampNeg (I 74 v1.toNatClampNeg)) 75 v2.toNatClampNeg (I 75 v1.toNatClampNeg)) 76 v2.toNatClampNeg (I 76 v1.toNatClampNeg)) L D))
    (h10 : ¬ (20 : Int32) ≤ v3 → vp_in (((20 : Int32) * v1) + v3) 140)
    (h11 : ¬ (20 : Int32) ≤ v3 → vp_in (((20 : Int32) * v2) + v3) 140)
    (h12 : ¬ (20 : Int32) ≤ v3 → aw_z X d y_M_copy Q 104 [some (.ref 69), some (.int v1), some (.int v2), some (.int (v3 + (1 : Int32)))] [] (aw_s (aw_u I 78 ((((20 : Int32) * v2) + v3).toNatClampNeg) (I 78 ((((20 : Int32) * v1) + v3).toNatClampNeg))) L D)) :
    aw_z X d y_M_copy Q 104 [some (.ref 69), some (.int v1), some (.int v2), some (.int v3)] [] (aw_s I L D) :=
  (s_M_copy_104.go [some (.ref 69), some (.int v1), some (.int v2), some (.int v3)] [.int (20 : Int32), .int v3] (aw_s I L D) rfl (z_icmp_ge (tgt := 138) d_M_copy_107 rfl (fun q1 => (s_M_copy_138.go [some (.ref 69), some (.int v1), some (.int v2), some (.int v3)] [.int v1, .ref 73, .int v2, .ref 73] (aw_s I L D) rfl (z_iald (n := 7) rfl (aw_lt (o := 73) rfl) (h1 q1) d_M_copy_148 (z_iast (n := 7) rfl (aw_lt (o := 73) rfl) (h2 q1) d_M_copy_149 (s_M_copy_150.go [some (.ref 69), some (.int v1), some (.int v2), some (.int v3)] [.int v1, .ref 74, .int v2, .ref 74] (aw_s (aw_u I 73 v2.toNatClampNeg (I 73 v1.toNatClampNeg)) L D) rfl (z_iald (n := 7) rfl (aw_lt (o := 74) rfl) (h3 q1) d_M_copy_160 (z_iast (n := 7) rfl (aw_lt (o := 74) rfl) (h4 q1) d_M_copy_161 (s_M_copy_162.go [some (.ref 69), some (.int v1), some (.int v2), some (.int v3)] [.int v1, .ref 75, .int v2, .ref 75] (aw_s (aw_u (aw_u I 73 v2.toNatClampNeg (I 73 v1.toNatClampNeg)) 74 v2.toNatClampNeg (I 74 v1.toNatClampNeg)) L D) rfl (z_iald (n := 7) rfl (aw_lt (o := 75) rfl) (h5 q1) d_M_copy_172 (z_iast (n := 7) rfl (aw_lt (o := 75) rfl) (h6 q1) d_M_copy_173 (s_M_copy_174.go [some (.ref 69), some (.int v1), some (.int v2), some (.int v3)] [.int v1, .ref 76, .int v2, .ref 76] (aw_s (aw_u (aw_u (aw_u I 73 v2.toNatClampNeg (I 73 v1.toNatClampNeg)) 74 v2.toNatClampNeg (I 74 v1.toNatClampNeg)) 75 v2.toNatClampNeg (I 75 v1.toNatClampNeg)) L D) rfl (z_iald (n := 7) rfl (aw_lt (o := 76) rfl) (h7 q1) d_M_copy_184 (z_iast (n := 7) rfl (aw_lt (o := 76) rfl) (h8 q1) d_M_copy_185 (z_vret d_M_copy_186 rfl (h9 q1))))))))))))))) (fun q2 => (s_M_copy_110.go [some (.ref 69), some (.int v1), some (.int v2), some (.int v3)] [.int (((20 : Int32) * v1) + v3), .ref 78, .int (((20 : Int32) * v2) + v3), .ref 78] (aw_s I L D) rfl (z_iald (n := 140) rfl (aw_lt (o := 78) rfl) (h10 q2) d_M_copy_130 (z_iast (n := 140) rfl (aw_lt (o := 78) rfl) (h11 q2) d_M_copy_131 (s_M_copy_132.go [some (.ref 69), some (.int v1), some (.int v2), some (.int (v3 + (1 : Int32)))] [] (aw_s (aw_u I 78 ((((20 : Int32) * v2) + v3).toNatClampNeg) (I 78 ((((20 : Int32) * v1) + v3).toNatClampNeg))) L D) rfl (z_goto (tgt := 104) d_M_copy_135 rfl (h12 q2)))))))))
