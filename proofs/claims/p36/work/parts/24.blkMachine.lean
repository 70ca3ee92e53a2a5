/-! by gen_blk.py (genall.py) -/
/-! Mc_launchTraced -/
theorem d_Mc_launchTraced_0 : decode y_Mc_launchTraced.2.1 0 = .ok (.iconst 0, 1) := by decide +kernel
theorem d_Mc_launchTraced_1 : decode y_Mc_launchTraced.2.1 1 = .ok (.istore 4, 2) := by decide +kernel
theorem s_Mc_launchTraced_0 : aw_VS y_Mc_launchTraced 0 [o_c (.int (0 : Int32)), o_ist 4] 3 := .cons (v_iconst (v := (0 : Int32)) d_Mc_launchTraced_0 (by decide +kernel)) (.cons (v_istore d_Mc_launchTraced_1) .nil)
theorem b_Mc_launchTraced_0 {X : aw_X} {d : Nat} {Q : Option Value → aw_H → Prop} {I : Nat → Nat → Int32} {L : Nat → Nat → Int64} {D : Nat → Nat} {c1 : Nat} {v2 : Int32} {v3 : Int32}
    (h1 : aw_z X (d + 1) y_Mc_launchTraced Q 3 [some (.ref 4), some (.ref c1), some (.int v2), some (.int v3), some (.int (0 : Int32))] [] (aw_s I L D)) :
    aw_z X (d + 1) y_Mc_launchTraced Q 0 [some (.ref 4), some (.ref c1), some (.int v2), some (.int v3), none] [] (aw_s I L D) :=
  (s_Mc_launchTraced_0.go [some (.ref 4), some (.ref c1), some (.int v2), some (.int v3), some (.int (0 : Int32))] [] (aw_s I L D) rfl (h1))
theorem d_Mc_launchTraced_3 : decode y_Mc_launchTraced.2.1 3 = .ok (.iload 4, 2) := by decide +kernel
theorem d_Mc_launchTraced_5 : decode y_Mc_launchTraced.2.1 5 = .ok (.aload_n 0, 1) := by decide +kernel
theorem d_Mc_launchTraced_6 : decode y_Mc_launchTraced.2.1 6 = .ok (.getfield 28, 3) := by decide +kernel
theorem d_Mc_launchTraced_9 : decode y_Mc_launchTraced.2.1 9 = .ok (.arraylength, 1) := by decide +kernel
theorem s_Mc_launchTraced_3 : aw_VS y_Mc_launchTraced 3 [o_ild 4, o_ald 0, o_getA 3 18, o_alen] 10 := .cons (v_iload (i := 4) d_Mc_launchTraced_3) (.cons (v_aload_n (i := 0) d_Mc_launchTraced_5 rfl) (.cons (v_getA (k := 18) k_Mc (by decide) rfl (Or.inl w_149) d_Mc_launchTraced_6) (.cons (v_alen d_Mc_launchTraced_9) .nil)))
theorem d_Mc_launchTraced_10 : decode y_Mc_launchTraced.2.1 10 = .ok (.if_icmp .ge (17), 3) := by decide +kernel
theorem d_Mc_launchTraced_27 : decode y_Mc_launchTraced.2.1 27 = .ok (.aload_n 0, 1) := by decide +kernel
theorem d_Mc_launchTraced_28 : decode y_Mc_launchTraced.2.1 28 = .ok (.iconst 1, 1) := by decide +kernel
theorem s_Mc_launchTraced_27 : aw_VS y_Mc_launchTraced 27 [o_ald 0, o_c (.int (1 : Int32))] 29 := .cons (v_aload_n (i := 0) d_Mc_launchTraced_27 rfl) (.cons (v_iconst (v := (1 : Int32)) d_Mc_launchTraced_28 (by decide +kernel)) .nil)
theorem d_Mc_launchTraced_29 : decode y_Mc_launchTraced.2.1 29 = .ok (.putfield 66, 3) := by decide +kernel
theorem d_Mc_launchTraced_32 : decode y_Mc_launchTraced.2.1 32 = .ok (.aload_n 0, 1) := by decide +kernel
theorem d_Mc_launchTraced_33 : decode y_Mc_launchTraced.2.1 33 = .ok (.aload_n 1, 1) := by decide +kernel
theorem d_Mc_launchTraced_34 : decode y_Mc_launchTraced.2.1 34 = .ok (.iload_n 2, 1) := by decide +kernel
theorem d_Mc_launchTraced_35 : decode y_Mc_launchTraced.2.1 35 = .ok (.iload_n 3, 1) := by decide +kernel
theorem s_Mc_launchTraced_32 : aw_VS y_Mc_launchTraced 32 [o_ald 0, o_ald 1, o_ild 2, o_ild 3] 36 := .cons (v_aload_n (i := 0) d_Mc_launchTraced_32 rfl) (.cons (v_aload_n (i := 1) d_Mc_launchTraced_33 rfl) (.cons (v_iload_n (i := 2) d_Mc_launchTraced_34 rfl) (.cons (v_iload_n (i := 3) d_Mc_launchTraced_35 rfl) .nil)))
theorem d_Mc_launchTraced_36 : decode y_Mc_launchTraced.2.1 36 = .ok (.invokevirtual 70, 3) := by decide +kernel
theorem d_Mc_launchTraced_13 : decode y_Mc_launchTraced.2.1 13 = .ok (.aload_n 0, 1) := by decide +kernel
theorem d_Mc_launchTraced_14 : decode y_Mc_launchTraced.2.1 14 = .ok (.getfield 28, 3) := by decide +kernel
theorem d_Mc_launchTraced_17 : decode y_Mc_launchTraced.2.1 17 = .ok (.iload 4, 2) := by decide +kernel
theorem d_Mc_launchTraced_19 : decode y_Mc_launchTraced.2.1 19 = .ok (.iconst 0, 1) := by decide +kernel
theorem s_Mc_launchTraced_13 : aw_VS y_Mc_launchTraced 13 [o_ald 0, o_getA 3 18, o_ild 4, o_c (.int (0 : Int32))] 20 := .cons (v_aload_n (i := 0) d_Mc_launchTraced_13 rfl) (.cons (v_getA (k := 18) k_Mc (by decide) rfl (Or.inl w_149) d_Mc_launchTraced_14) (.cons (v_iload (i := 4) d_Mc_launchTraced_17) (.cons (v_iconst (v := (0 : Int32)) d_Mc_launchTraced_19 (by decide +kernel)) .nil)))
theorem d_Mc_launchTraced_20 : decode y_Mc_launchTraced.2.1 20 = .ok (.iastore, 1) := by decide +kernel
theorem d_Mc_launchTraced_21 : decode y_Mc_launchTraced.2.1 21 = .ok (.iinc 4 (1), 3) := by decide +kernel
theorem s_Mc_launchTraced_21 : aw_VS y_Mc_launchTraced 21 [o_inc 4 (1 : Int32)] 24 := .cons (v_iinc (k0 := (1 : Int32)) d_Mc_launchTraced_21 (by decide +kernel)) .nil
theorem d_Mc_launchTraced_24 : decode y_Mc_launchTraced.2.1 24 = .ok (.goto (-21), 3) := by decide +kernel
theorem b_Mc_launchTraced_3 {X : aw_X} {d : Nat} {Q : Option Value → aw_H → Prop} {I : Nat → Nat → Int32} {L : Nat → Nat → Int64} {D : Nat → Nat} {c1 : Nat} {v2 : Int32} {v3 : Int32} {v4 : Int32}
    (h1 : (60 : Int32) ≤ v4 → aw_m X d y_Mc_launch [.ref 4, .ref c1, .int v2, .int v3] (aw_s (aw_u I 4 19 (1 : Int32)) L D) (fun r A => aw_z X (d + 1) y_Mc_launchTraced Q 39 [some (.ref 4), none, none, none, none] (r.toList ++ []) A))
    (h2 : ¬ (60 : Int32) ≤ v4 → vp_in v4 60)
    (h3 : ¬ (60 : Int32) ≤ v4 → aw_z X (d + 1) y_Mc_launchTraced Q 3 [some (.ref 4), some (.ref c1), some (.int v2), some (.int v3), some (.int (v4 + (1 : Int32)))] [] (aw_s (aw_u I 10 v4.toNatClampNeg (0 : Int32)) L D)) :
    aw_z X (d + 1) y_Mc_launchTraced Q 3 [some (.ref 4), some (.ref c1), some (.int v2), some (.int v3), some (.int v4)] [] (aw_s I L D) :=
  (s_Mc_launchTraced_3.go [some (.ref 4), some (.ref c1), some (.int v2), some (.int v3), some (.int v4)] [.int (60 : Int32), .int v4] (aw_s I L D) rfl (z_icmp_ge (tgt := 27) d_Mc_launchTraced_10 rfl (fun q1 => (s_Mc_launchTraced_27.go [some (.ref 4), some (.ref c1), some (.int v2), some (.int v3), some (.int v4)] [.int (1 : Int32), .ref 4] (aw_s I L D) rfl (z_putZ (k := 19) k_Mc (by decide) rfl (Or.inl ⟨rfl, Or.inl w_151⟩) d_Mc_launchTraced_29 rfl (aw_lt (o := 4) rfl) (by decide +kernel) (s_Mc_launchTraced_32.go [some (.ref 4), some (.ref c1), some (.int v2), some (.int v3), some (.int v4)] [.int v3, .int v2, .ref c1, .ref 4] (aw_s (aw_u I 4 19 (1 : Int32)) L D) rfl (z_callV (av := [.ref c1, .int v2, .int v3]) (st := []) ok_Mc_launch (Or.inl w_780) w_781 w_782 k_Mc d_Mc_launchTraced_36 rfl (aw_lt (o := 4) rfl) rfl rfl (Nat.le_of_ble_eq_true rfl) (Nat.le_refl _) (Nat.le_refl _) (aw_C.mono (h1 q1) (fun _ _ zz => aw_Z.weak (ls' := [some (.ref 4), none, none, none, none]) zz (Nat.le_of_ble_eq_true rfl) ⟨Or.inr rfl, ⟨Or.inl rfl, ⟨Or.inl rfl, ⟨Or.inl rfl, ⟨Or.inl rfl, trivial⟩⟩⟩⟩⟩))))))) (fun q2 => (s_Mc_launchTraced_13.go [some (.ref 4), some (.ref c1), some (.int v2), some (.int v3), some (.int v4)] [.int (0 : Int32), .int v4, .ref 10] (aw_s I L D) rfl (z_iast (n := 60) rfl (aw_lt (o := 10) rfl) (h2 q2) d_Mc_launchTraced_20 (s_Mc_launchTraced_21.go [some (.ref 4), some (.ref c1), some (.int v2), some (.int v3), some (.int (v4 + (1 : Int32)))] [] (aw_s (aw_u I 10 v4.toNatClampNeg (0 : Int32)) L D) rfl (z_goto (tgt := 3) d_Mc_launchTraced_24 rfl (h3 q2))))))))
theorem d_Mc_launchTraced_39 : decode y_Mc_launchTraced.2.1 39 = .ok (.pop, 1) := by decide +kernel
theorem d_Mc_launchTraced_40 : decode y_Mc_launchTraced.2.1 40 = .ok (.aload_n 0, 1) := by decide +kernel
theorem d_Mc_launchTraced_41 : decode y_Mc_launchTraced.2.1 41 = .ok (.iconst 0, 1) := by decide +kernel
theorem s_Mc_launchTraced_39 : aw_VS y_Mc_launchTraced 39 [o_pop, o_ald 0, o_c (.int (0 : Int32))] 42 := .cons (v_pop d_Mc_launchTraced_39) (.cons (v_aload_n (i := 0) d_Mc_launchTraced_40 rfl) (.cons (v_iconst (v := (0 : Int32)) d_Mc_launchTraced_41 (by decide +kernel)) .nil))
theorem d_Mc_launchTraced_42 : decode y_Mc_launchTraced.2.1 42 = .ok (.putfield 66, 3) := by decide +kernel
theorem d_Mc_launchTraced_45 : decode y_Mc_launchTraced.2.1 45 = .ok (.return_, 1) := by decide +kernel
theorem b_Mc_launchTraced_39 {X : aw_X} {d : Nat} {Q : Option Value → aw_H → Prop} {I : Nat → Nat → Int32} {L : Nat → Nat → Int64} {D : Nat → Nat} {s0 : Int32}
    (h1 : Q none (aw_s (aw_u I 4 19 (0 : Int32)) L D)) :
    aw_z X (d + 1) y_Mc_launchTraced Q 39 [some (.ref 4), none, none, none, none] [.int s0] (aw_s I L D) :=
  (s_Mc_launchTraced_39.go [some (.ref 4), none, none, none, none] [.int (0 : Int32), .ref 4] (aw_s I L D) rfl (z_putZ (k := 19) k_Mc (by decide) rfl (Or.inl ⟨rfl, Or.inl w_151⟩) d_Mc_launchTraced_42 rfl (aw_lt (o := 4) rfl) (by decide +kernel) (z_vret d_Mc_launchTraced_45 rfl (h1))))
/-! Mc_launch -/
theorem d_Mc_launch_0 : decode y_Mc_launch.2.1 0 = .ok (.aload_n 0, 1) := by decide +kernel
theorem d_Mc_launch_1 : decode y_Mc_launch.2.1 1 = .ok (.aload_n 1, 1) := by decide +kernel
theorem d_Mc_launch_2 : decode y_Mc_launch.2.1 2 = .ok (.iload_n 2, 1) := by decide +kernel
theorem d_Mc_launch_3 : decode y_Mc_launch.2.1 3 = .ok (.iload_n 3, 1) := by decide +kernel
theorem d_Mc_launch_4 : decode y_Mc_launch.2.1 4 = .ok (.iconst (-1), 1) := by decide +kernel
theorem s_Mc_launch_0 : aw_VS y_Mc_launch 0 [o_ald 0, o_ald 1, o_ild 2, o_ild 3, o_c (.int (-1 : Int32))] 5 := .cons (v_aload_n (i := 0) d_Mc_launch_0 rfl) (.cons (v_aload_n (i := 1) d_Mc_launch_1 rfl) (.cons (v_iload_n (i := 2) d_Mc_launch_2 rfl) (.cons (v_iload_n (i := 3) d_Mc_launch_3 rfl) (.cons (v_iconst (v := (-1 : Int32)) d_Mc_launch_4 (by decide +kernel)) .nil))))
theorem d_Mc_launch_5 : decode y_Mc_launch.2.1 5 = .ok (.invokevirtual 35, 3) := by decide +kernel
theorem b_Mc_launch_0 {X : aw_X} {d : Nat} {Q : Option Value → aw_H → Prop} {I : Nat → Nat → Int32} {L : Nat → Nat → Int64} {D : Nat → Nat} {c1 : Nat} {v2 : Int32} {v3 : Int32}
    (h1 : aw_m X d y_Mc_launchAnswered [.ref 4, .ref c1, .int v2, .int v3, .int (-1 : Int32)] (aw_s I L D) (fun r A => aw_z X (d + 1) y_Mc_launch Q 8 [none, none, none, none] (r.toList ++ []) A)) :
    aw_z X (d + 1) y_Mc_launch Q 0 [some (.ref 4), some (.ref c1), some (.int v2), some (.int v3)] [] (aw_s I L D) :=
  (s_Mc_launch_0.go [some (.ref 4), some (.ref c1), some (.int v2), some (.int v3)] [.int (-1 : Int32), .int v3, .int v2, .ref c1, .ref 4] (aw_s I L D) rfl (z_callV (av := [.ref c1, .int v2, .int v3, .int (-1 : Int32)]) (st := []) ok_Mc_launchAnswered (Or.inl w_784) w_785 w_786 k_Mc d_Mc_launch_5 rfl (aw_lt (o := 4) rfl) rfl rfl (Nat.le_of_ble_eq_true rfl) (Nat.le_refl _) (Nat.le_refl _) (aw_C.mono (h1) (fun _ _ zz => aw_Z.weak (ls' := [none, none, none, none]) zz (Nat.le_of_ble_eq_true rfl) ⟨Or.inl rfl, ⟨Or.inl rfl, ⟨Or.inl rfl, ⟨Or.inl rfl, trivial⟩⟩⟩⟩))))
theorem d_Mc_launch_8 : decode y_Mc_launch.2.1 8 = .ok (.ireturn, 1) := by decide +kernel
theorem b_Mc_launch_8 {X : aw_X} {d : Nat} {Q : Option Value → aw_H → Prop} {I : Nat → Nat → Int32} {L : Nat → Nat → Int64} {D : Nat → Nat} {s0 : Int32}
    (h1 : Q (some (.int s0)) (aw_s I L D)) :
    aw_z X (d + 1) y_Mc_launch Q 8 [none, none, none, none] [.int s0] (aw_s I L D) :=
  (z_iret d_Mc_launch_8 rfl rfl (h1))
/-! Mc_launchAnswered -/
theorem d_Mc_launchAnswered_0 : decode y_Mc_launchAnswered.2.1 0 = .ok (.aload_n 0, 1) := by decide +kernel
theorem d_Mc_launchAnswered_1 : decode y_Mc_launchAnswered.2.1 1 = .ok (.iload_n 2, 1) := by decide +kernel
theorem s_Mc_launchAnswered_0 : aw_VS y_Mc_launchAnswered 0 [o_ald 0, o_ild 2] 2 := .cons (v_aload_n (i := 0) d_Mc_launchAnswered_0 rfl) (.cons (v_iload_n (i := 2) d_Mc_launchAnswered_1 rfl) .nil)
theorem d_Mc_launchAnswered_2 : decode y_Mc_launchAnswered.2.1 2 = .ok (.invokevirtual 39, 3) := by decide +kernel
theorem b_Mc_launchAnswered_0 {X : aw_X} {d : Nat} {Q : Option Value → aw_H → Prop} {I : Nat → Nat → Int32} {L : Nat → Nat → Int64} {D : Nat → Nat} {c1 : Nat} {v2 : Int32} {v3 : Int32} {v4 : Int32}
    (h1 : aw_m X d y_Mc_layRow [.ref 4, .int v2] (aw_s I L D) (fun r A => aw_z X (d + 1) y_Mc_launchAnswered Q 5 [some (.ref 4), some (.ref c1), none, some (.int v3), some (.int v4), none, none] (r.toList ++ []) A)) :
    aw_z X (d + 1) y_Mc_launchAnswered Q 0 [some (.ref 4), some (.ref c1), some (.int v2), some (.int v3), some (.int v4), none, none] [] (aw_s I L D) :=
  (s_Mc_launchAnswered_0.go [some (.ref 4), some (.ref c1), some (.int v2), some (.int v3), some (.int v4), none, none] [.int v2, .ref 4] (aw_s I L D) rfl (z_callV (av := [.int v2]) (st := []) ok_Mc_layRow (Or.inl w_788) w_790 w_27 k_Mc d_Mc_launchAnswered_2 rfl (aw_lt (o := 4) rfl) rfl rfl (Nat.le_of_ble_eq_true rfl) (Nat.le_refl _) (Nat.le_refl _) (aw_C.mono (h1) (fun _ _ zz => aw_Z.weak (ls' := [some (.ref 4), some (.ref c1), none, some (.int v3), some (.int v4), none, none]) zz (Nat.le_of_ble_eq_true rfl) ⟨Or.inr rfl, ⟨Or.inr rfl, ⟨Or.inl rfl, ⟨Or.inr rfl, ⟨Or.inr rfl, ⟨Or.inl rfl, ⟨Or.inl rfl, trivial⟩⟩⟩⟩⟩⟩⟩))))
theorem d_Mc_launchAnswered_5 : decode y_Mc_launchAnswered.2.1 5 = .ok (.aload_n 0, 1) := by decide +kernel
theorem d_Mc_launchAnswered_6 : decode y_Mc_launchAnswered.2.1 6 = .ok (.iload 4, 2) := by decide +kernel
theorem d_Mc_launchAnswered_8 : decode y_Mc_launchAnswered.2.1 8 = .ok (.putfield 43, 3) := by decide +kernel
theorem d_Mc_launchAnswered_11 : decode y_Mc_launchAnswered.2.1 11 = .ok (.aload_n 0, 1) := by decide +kernel
theorem d_Mc_launchAnswered_12 : decode y_Mc_launchAnswered.2.1 12 = .ok (.iload_n 3, 1) := by decide +kernel
theorem d_Mc_launchAnswered_13 : decode y_Mc_launchAnswered.2.1 13 = .ok (.putfield 47, 3) := by decide +kernel
theorem d_Mc_launchAnswered_16 : decode y_Mc_launchAnswered.2.1 16 = .ok (.aload_n 1, 1) := by decide +kernel
theorem d_Mc_launchAnswered_17 : decode y_Mc_launchAnswered.2.1 17 = .ok (.getfield 50, 3) := by decide +kernel
theorem d_Mc_launchAnswered_20 : decode y_Mc_launchAnswered.2.1 20 = .ok (.istore 5, 2) := by decide +kernel
theorem d_Mc_launchAnswered_22 : decode y_Mc_launchAnswered.2.1 22 = .ok (.iconst 0, 1) := by decide +kernel
theorem d_Mc_launchAnswered_23 : decode y_Mc_launchAnswered.2.1 23 = .ok (.istore 6, 2) := by decide +kernel
theorem s_Mc_launchAnswered_5 : aw_VS y_Mc_launchAnswered 5 [o_ald 0, o_ild 4, o_putI 3 9, o_ald 0, o_ild 3, o_putI 3 10, o_ald 1, o_getI 6 5, o_ist 5, o_c (.int (0 : Int32)), o_ist 6] 25 := .cons (v_aload_n (i := 0) d_Mc_launchAnswered_5 rfl) (.cons (v_iload (i := 4) d_Mc_launchAnswered_6) (.cons (v_putI (k := 9) k_Mc (by decide) rfl (Or.inl ⟨rfl, Or.inl w_132⟩) d_Mc_launchAnswered_8) (.cons (v_aload_n (i := 0) d_Mc_launchAnswered_11 rfl) (.cons (v_iload_n (i := 3) d_Mc_launchAnswered_12 rfl) (.cons (v_putI (k := 10) k_Mc (by decide) rfl (Or.inl ⟨rfl, Or.inl w_133⟩) d_Mc_launchAnswered_13) (.cons (v_aload_n (i := 1) d_Mc_launchAnswered_16 rfl) (.cons (v_getI (k := 5) k_Cd (by decide) (Or.inl rfl) (Or.inr ⟨"AllWays", w_300⟩) d_Mc_launchAnswered_17) (.cons (v_istore d_Mc_launchAnswered_20) (.cons (v_iconst (v := (0 : Int32)) d_Mc_launchAnswered_22 (by decide +kernel)) (.cons (v_istore d_Mc_launchAnswered_23) .nil))))))))))
theorem b_Mc_launchAnswered_5 {X : aw_X} {d : Nat} {Q : Option Value → aw_H → Prop} {I : Nat → Nat → Int32} {L : Nat → Nat → Int64} {D : Nat → Nat} {c1 : Nat} {v3 : Int32} {v4 : Int32} (hc1 : c1 ∈ aw_codes)
    (h1 : aw_z X (d + 1) y_Mc_launchAnswered Q 25 [some (.ref 4), some (.ref c1), none, none, none, some (.int ((aw_u (aw_u I 4 9 v4) 4 10 v3) c1 5)), some (.int (0 : Int32))] [] (aw_s (aw_u (aw_u I 4 9 v4) 4 10 v3) L D)) :
    aw_z X (d + 1) y_Mc_launchAnswered Q 5 [some (.ref 4), some (.ref c1), none, some (.int v3), some (.int v4), none, none] [] (aw_s I L D) := by
  simp only [aw_codes, List.mem_cons, List.not_mem_nil, or_false] at hc1
  rcases hc1 with rfl | rfl | rfl | rfl | rfl | rfl
  · exact (s_Mc_launchAnswered_5.go [some (.ref 4), some (.ref 30), none, some (.int v3), some (.int v4), some (.int ((aw_u (aw_u I 4 9 v4) 4 10 v3) 30 5)), some (.int (0 : Int32))] [] (aw_s (aw_u (aw_u I 4 9 v4) 4 10 v3) L D) rfl (aw_Z.weak (ls' := [some (.ref 4), some (.ref 30), none, none, none, some (.int ((aw_u (aw_u I 4 9 v4) 4 10 v3) 30 5)), some (.int (0 : Int32))]) (h1) (Nat.le_of_ble_eq_true rfl) ⟨Or.inr rfl, ⟨Or.inr rfl, ⟨Or.inl rfl, ⟨Or.inl rfl, ⟨Or.inl rfl, ⟨Or.inr rfl, ⟨Or.inr rfl, trivial⟩⟩⟩⟩⟩⟩⟩))
  · exact (s_Mc_launchAnswered_5.go [some (.ref 4), some (.ref 35), none, some (.int v3), some (.int v4), some (.int ((aw_u (aw_u I 4 9 v4) 4 10 v3) 35 5)), some (.int (0 : Int32))] [] (aw_s (aw_u (aw_u I 4 9 v4) 4 10 v3) L D) rfl (aw_Z.weak (ls' := [some (.ref 4), some (.ref 35), none, none, none, some (.int ((aw_u (aw_u I 4 9 v4) 4 10 v3) 35 5)), some (.int (0 : Int32))]) (h1) (Nat.le_of_ble_eq_true rfl) ⟨Or.inr rfl, ⟨Or.inr rfl, ⟨Or.inl rfl, ⟨Or.inl rfl, ⟨Or.inl rfl, ⟨Or.inr rfl, ⟨Or.inr rfl, trivial⟩⟩⟩⟩⟩⟩⟩))
  · exact (s_Mc_launchAnswered_5.go [some (.ref 4), some (.ref 40), none, some (.int v3), some (.int v4), some (.int ((aw_u (aw_u I 4 9 v4) 4 10 v3) 40 5)), some (.int (0 : Int32))] [] (aw_s (aw_u (aw_u I 4 9 v4) 4 10 v3) L D) rfl (aw_Z.weak (ls' := [some (.ref 4), some (.ref 40), none, none, none, some (.int ((aw_u (aw_u I 4 9 v4) 4 10 v3) 40 5)), some (.int (0 : Int32))]) (h1) (Nat.le_of_ble_eq_true rfl) ⟨Or.inr rfl, ⟨Or.inr rfl, ⟨Or.inl rfl, ⟨Or.inl rfl, ⟨Or.inl rfl, ⟨Or.inr rfl, ⟨Or.inr rfl, trivial⟩⟩⟩⟩⟩⟩⟩))
  · exact (s_Mc_launchAnswered_5.go [some (.ref 4), some (.ref 45), none, some (.int v3), some (.int v4), some (.int ((aw_u (aw_u I 4 9 v4) 4 10 v3) 45 5)), some (.int (0 : Int32))] [] (aw_s (aw_u (aw_u I 4 9 v4) 4 10 v3) L D) rfl (aw_Z.weak (ls' := [some (.ref 4), some (.ref 45), none, none, none, some (.int ((aw_u (aw_u I 4 9 v4) 4 10 v3) 45 5)), some (.int (0 : Int32))]) (h1) (Nat.le_of_ble_eq_true rfl) ⟨Or.inr rfl, ⟨Or.inr rfl, ⟨Or.inl rfl, ⟨Or.inl rfl, ⟨Or.inl rfl, ⟨Or.inr rfl, ⟨Or.inr rfl, trivial⟩⟩⟩⟩⟩⟩⟩))
  · exact (s_Mc_launchAnswered_5.go [some (.ref 4), some (.ref 50), none, some (.int v3), some (.int v4), some (.int ((aw_u (aw_u I 4 9 v4) 4 10 v3) 50 5)), some (.int (0 : Int32))] [] (aw_s (aw_u (aw_u I 4 9 v4) 4 10 v3) L D) rfl (aw_Z.weak (ls' := [some (.ref 4), some (.ref 50), none, none, none, some (.int ((aw_u (aw_u I 4 9 v4) 4 10 v3) 50 5)), some (.int (0 : Int32))]) (h1) (Nat.le_of_ble_eq_true rfl) ⟨Or.inr rfl, ⟨Or.inr rfl, ⟨Or.inl rfl, ⟨Or.inl rfl, ⟨Or.inl rfl, ⟨Or.inr rfl, ⟨Or.inr rfl, trivial⟩⟩⟩⟩⟩⟩⟩))
  · exact (s_Mc_launchAnswered_5.go [some (.ref 4), some (.ref 55), none, some (.int v3), some (.int v4), some (.int ((aw_u (aw_u I 4 9 v4) 4 10 v3) 55 5)), some (.int (0 : Int32))] [] (aw_s (aw_u (aw_u I 4 9 v4) 4 10 v3) L D) rfl (aw_Z.weak (ls' := [some (.ref 4), some (.ref 55), none, none, none, some (.int ((aw_u (aw_u I 4 9 v4) 4 10 v3) 55 5)), some (.int (0 : Int32))]) (h1) (Nat.le_of_ble_eq_true rfl) ⟨Or.inr rfl, ⟨Or.inr rfl, ⟨Or.inl rfl, ⟨Or.inl rfl, ⟨Or.inl rfl, ⟨Or.inr rfl, ⟨Or.inr rfl, trivial⟩⟩⟩⟩⟩⟩⟩))
theorem d_Mc_launchAnswered_25 : decode y_Mc_launchAnswered.2.1 25 = .ok (.iload 6, 2) := by decide +kernel
theorem d_Mc_launchAnswered_27 : decode y_Mc_launchAnswered.2.1 27 = .ok (.ldc 55, 2) := by decide +kernel
theorem s_Mc_launchAnswered_25 : aw_VS y_Mc_launchAnswered 25 [o_ild 6, o_c (.int (1000000 : Int32))] 29 := .cons (v_iload (i := 6) d_Mc_launchAnswered_25) (.cons (v_ldc d_Mc_launchAnswered_27 w_796) .nil)
theorem d_Mc_launchAnswered_29 : decode y_Mc_launchAnswered.2.1 29 = .ok (.if_icmp .ge (43), 3) := by decide +kernel
theorem d_Mc_launchAnswered_72 : decode y_Mc_launchAnswered.2.1 72 = .ok (.aload_n 0, 1) := by decide +kernel
theorem d_Mc_launchAnswered_73 : decode y_Mc_launchAnswered.2.1 73 = .ok (.getfield 56, 3) := by decide +kernel
theorem s_Mc_launchAnswered_72 : aw_VS y_Mc_launchAnswered 72 [o_ald 0, o_getI 3 15] 76 := .cons (v_aload_n (i := 0) d_Mc_launchAnswered_72 rfl) (.cons (v_getI (k := 15) k_Mc (by decide) (Or.inl rfl) (Or.inl w_141) d_Mc_launchAnswered_73) .nil)
theorem d_Mc_launchAnswered_76 : decode y_Mc_launchAnswered.2.1 76 = .ok (.ireturn, 1) := by decide +kernel
theorem d_Mc_launchAnswered_32 : decode y_Mc_launchAnswered.2.1 32 = .ok (.aload_n 0, 1) := by decide +kernel
theorem d_Mc_launchAnswered_33 : decode y_Mc_launchAnswered.2.1 33 = .ok (.getfield 56, 3) := by decide +kernel
theorem d_Mc_launchAnswered_36 : decode y_Mc_launchAnswered.2.1 36 = .ok (.iconst (-1), 1) := by decide +kernel
theorem s_Mc_launchAnswered_32 : aw_VS y_Mc_launchAnswered 32 [o_ald 0, o_getI 3 15, o_c (.int (-1 : Int32))] 37 := .cons (v_aload_n (i := 0) d_Mc_launchAnswered_32 rfl) (.cons (v_getI (k := 15) k_Mc (by decide) (Or.inl rfl) (Or.inl w_141) d_Mc_launchAnswered_33) (.cons (v_iconst (v := (-1 : Int32)) d_Mc_launchAnswered_36 (by decide +kernel)) .nil))
theorem d_Mc_launchAnswered_37 : decode y_Mc_launchAnswered.2.1 37 = .ok (.if_icmp .ne (35), 3) := by decide +kernel
theorem d_Mc_launchAnswered_40 : decode y_Mc_launchAnswered.2.1 40 = .ok (.aload_n 0, 1) := by decide +kernel
theorem d_Mc_launchAnswered_41 : decode y_Mc_launchAnswered.2.1 41 = .ok (.aload_n 1, 1) := by decide +kernel
theorem d_Mc_launchAnswered_42 : decode y_Mc_launchAnswered.2.1 42 = .ok (.iload 5, 2) := by decide +kernel
theorem s_Mc_launchAnswered_40 : aw_VS y_Mc_launchAnswered 40 [o_ald 0, o_ald 1, o_ild 5] 44 := .cons (v_aload_n (i := 0) d_Mc_launchAnswered_40 rfl) (.cons (v_aload_n (i := 1) d_Mc_launchAnswered_41 rfl) (.cons (v_iload (i := 5) d_Mc_launchAnswered_42) .nil))
theorem d_Mc_launchAnswered_44 : decode y_Mc_launchAnswered.2.1 44 = .ok (.invokevirtual 59, 3) := by decide +kernel
theorem b_Mc_launchAnswered_25 {X : aw_X} {d : Nat} {Q : Option Value → aw_H → Prop} {I : Nat → Nat → Int32} {L : Nat → Nat → Int64} {D : Nat → Nat} {c1 : Nat} {v5 : Int32} {v6 : Int32}
    (h1 : (1000000 : Int32) ≤ v6 → Q (some (.int (I 4 15))) (aw_s I L D))
    (h2 : ¬ (1000000 : Int32) ≤ v6 → ¬ (I 4 15) = (-1 : Int32) → Q (some (.int (I 4 15))) (aw_s I L D))
    (h3 : ¬ (1000000 : Int32) ≤ v6 → (I 4 15) = (-1 : Int32) → aw_m X d y_Mc_workOut [.ref 4, .ref c1, .int v5] (aw_s I L D) (fun r A => aw_z X (d + 1) y_Mc_launchAnswered Q 47 [some (.ref 4), some (.ref c1), none, none, none, none, some (.int v6)] (r.toList ++ []) A)) :
    aw_z X (d + 1) y_Mc_launchAnswered Q 25 [some (.ref 4), some (.ref c1), none, none, none, some (.int v5), some (.int v6)] [] (aw_s I L D) :=
  (s_Mc_launchAnswered_25.go [some (.ref 4), some (.ref c1), none, none, none, some (.int v5), some (.int v6)] [.int (1000000 : Int32), .int v6] (aw_s I L D) rfl (z_icmp_ge (tgt := 72) d_Mc_launchAnswered_29 rfl (fun q1 => (s_Mc_launchAnswered_72.go [some (.ref 4), some (.ref c1), none, none, none, some (.int v5), some (.int v6)] [.int (I 4 15)] (aw_s I L D) rfl (z_iret d_Mc_launchAnswered_76 rfl rfl (h1 q1)))) (fun q2 => (s_Mc_launchAnswered_32.go [some (.ref 4), some (.ref c1), none, none, none, some (.int v5), some (.int v6)] [.int (-1 : Int32), .int (I 4 15)] (aw_s I L D) rfl (z_icmp_ne (tgt := 72) d_Mc_launchAnswered_37 rfl (fun q3 => (s_Mc_launchAnswered_72.go [some (.ref 4), some (.ref c1), none, none, none, some (.int v5), some (.int v6)] [.int (I 4 15)] (aw_s I L D) rfl (z_iret d_Mc_launchAnswered_76 rfl rfl (h2 q2 q3)))) (fun q4 => (s_Mc_launchAnswered_40.go [some (.ref 4), some (.ref c1), none, none, none, some (.int v5), some (.int v6)] [.int v5, .ref c1, .ref 4] (aw_s I L D) rfl (z_callV (av := [.ref c1, .int v5]) (st := []) ok_Mc_workOut (Or.inl w_797) w_799 w_28 k_Mc d_Mc_launchAnswered_44 rfl (aw_lt (o := 4) rfl) rfl rfl (Nat.le_of_ble_eq_true rfl) (Nat.le_refl _) (Nat.le_refl _) (aw_C.mono (h3 q2 q4) (fun _ _ zz => aw_Z.weak (ls' := [some (.ref 4), some (.ref c1), none, none, none, none, some (.int v6)]) zz (Nat.le_of_ble_eq_true rfl) ⟨Or.inr rfl, ⟨Or.inr rfl, ⟨Or.inl rfl, ⟨Or.inl rfl, ⟨Or.inl rfl, ⟨Or.inl rfl, ⟨Or.inr rfl, trivial⟩⟩⟩⟩⟩⟩⟩))))))))))
theorem d_Mc_launchAnswered_47 : decode y_Mc_launchAnswered.2.1 47 = .ok (.istore 5, 2) := by decide +kernel
theorem d_Mc_launchAnswered_49 : decode y_Mc_launchAnswered.2.1 49 = .ok (.aload_n 0, 1) := by decide +kernel
theorem d_Mc_launchAnswered_50 : decode y_Mc_launchAnswered.2.1 50 = .ok (.getfield 56, 3) := by decide +kernel
theorem d_Mc_launchAnswered_53 : decode y_Mc_launchAnswered.2.1 53 = .ok (.iconst (-1), 1) := by decide +kernel
theorem s_Mc_launchAnswered_47 : aw_VS y_Mc_launchAnswered 47 [o_ist 5, o_ald 0, o_getI 3 15, o_c (.int (-1 : Int32))] 54 := .cons (v_istore d_Mc_launchAnswered_47) (.cons (v_aload_n (i := 0) d_Mc_launchAnswered_49 rfl) (.cons (v_getI (k := 15) k_Mc (by decide) (Or.inl rfl) (Or.inl w_141) d_Mc_launchAnswered_50) (.cons (v_iconst (v := (-1 : Int32)) d_Mc_launchAnswered_53 (by decide +kernel)) .nil)))
theorem d_Mc_launchAnswered_54 : decode y_Mc_launchAnswered.2.1 54 = .ok (.if_icmp .ne (12), 3) := by decide +kernel
theorem d_Mc_launchAnswered_66 : decode y_Mc_launchAnswered.2.1 66 = .ok (.iinc 6 (1), 3) := by decide +kernel
theorem s_Mc_launchAnswered_66 : aw_VS y_Mc_launchAnswered 66 [o_inc 6 (1 : Int32)] 69 := .cons (v_iinc (k0 := (1 : Int32)) d_Mc_launchAnswered_66 (by decide +kernel)) .nil
theorem d_Mc_launchAnswered_69 : decode y_Mc_launchAnswered.2.1 69 = .ok (.goto (-44), 3) := by decide +kernel
theorem d_Mc_launchAnswered_57 : decode y_Mc_launchAnswered.2.1 57 = .ok (.aload_n 0, 1) := by decide +kernel
theorem d_Mc_launchAnswered_58 : decode y_Mc_launchAnswered.2.1 58 = .ok (.aload_n 1, 1) := by decide +kernel
theorem d_Mc_launchAnswered_59 : decode y_Mc_launchAnswered.2.1 59 = .ok (.iload 5, 2) := by decide +kernel
theorem s_Mc_launchAnswered_57 : aw_VS y_Mc_launchAnswered 57 [o_ald 0, o_ald 1, o_ild 5] 61 := .cons (v_aload_n (i := 0) d_Mc_launchAnswered_57 rfl) (.cons (v_aload_n (i := 1) d_Mc_launchAnswered_58 rfl) (.cons (v_iload (i := 5) d_Mc_launchAnswered_59) .nil))
theorem d_Mc_launchAnswered_61 : decode y_Mc_launchAnswered.2.1 61 = .ok (.invokevirtual 63, 3) := by decide +kernel
theorem b_Mc_launchAnswered_47 {X : aw_X} {d : Nat} {Q : Option Value → aw_H → Prop} {I : Nat → Nat → Int32} {L : Nat → Nat → Int64} {D : Nat → Nat} {c1 : Nat} {v6 : Int32} {s0 : Int32}
    (h1 : ¬ (I 4 15) = (-1 : Int32) → aw_z X (d + 1) y_Mc_launchAnswered Q 25 [some (.ref 4), some (.ref c1), none, none, none, some (.int s0), some (.int (v6 + (1 : Int32)))] [] (aw_s I L D))
    (h2 : (I 4 15) = (-1 : Int32) → aw_m X d y_Mc_act [.ref 4, .ref c1, .int s0] (aw_s I L D) (fun r A => aw_z X (d + 1) y_Mc_launchAnswered Q 64 [some (.ref 4), some (.ref c1), none, none, none, none, some (.int v6)] (r.toList ++ []) A)) :
    aw_z X (d + 1) y_Mc_launchAnswered Q 47 [some (.ref 4), some (.ref c1), none, none, none, none, some (.int v6)] [.int s0] (aw_s I L D) :=
  (s_Mc_launchAnswered_47.go [some (.ref 4), some (.ref c1), none, none, none, some (.int s0), some (.int v6)] [.int (-1 : Int32), .int (I 4 15)] (aw_s I L D) rfl (z_icmp_ne (tgt := 66) d_Mc_launchAnswered_54 rfl (fun q1 => (s_Mc_launchAnswered_66.go [some (.ref 4), some (.ref c1), none, none, none, some (.int s0), some (.int (v6 + (1 : Int32)))] [] (aw_s I L D) rfl (z_goto (tgt := 25) d_Mc_launchAnswered_69 rfl (h1 q1)))) (fun q2 => (s_Mc_launchAnswered_57.go [some (.ref 4), some (.ref c1), none, none, none, some (.int s0), some (.int v6)] [.int s0, .ref c1, .ref 4] (aw_s I L D) rfl (z_callV (av := [.ref c1, .int s0]) (st := []) ok_Mc_act (Or.inl w_838) w_840 w_34 k_Mc d_Mc_launchAnswered_61 rfl (aw_lt (o := 4) rfl) rfl rfl (Nat.le_of_ble_eq_true rfl) (Nat.le_refl _) (Nat.le_refl _) (aw_C.mono (h2 q2) (fun _ _ zz => aw_Z.weak (ls' := [some (.ref 4), some (.ref c1), none, none, none, none, some (.int v6)]) zz (Nat.le_of_ble_eq_true rfl) ⟨Or.inr rfl, ⟨Or.inr rfl, ⟨Or.inl rfl, ⟨Or.inl rfl, ⟨Or.inl rfl, ⟨Or.inl rfl, ⟨Or.inr rfl, trivial⟩⟩⟩⟩⟩⟩⟩)))))))
theorem d_Mc_launchAnswered_64 : decode y_Mc_launchAnswered.2.1 64 = .ok (.istore 5, 2) := by decide +kernel
theorem s_Mc_launchAnswered_64 : aw_VS y_Mc_launchAnswered 64 [o_ist 5] 66 := .cons (v_istore d_Mc_launchAnswered_64) .nil
theorem b_Mc_launchAnswered_64 {X : aw_X} {d : Nat} {Q : Option Value → aw_H → Prop} {I : Nat → Nat → Int32} {L : Nat → Nat → Int64} {D : Nat → Nat} {c1 : Nat} {v6 : Int32} {s0 : Int32}
    (h1 : aw_z X (d + 1) y_Mc_launchAnswered Q 25 [some (.ref 4), some (.ref c1), none, none, none, some (.int s0), some (.int (v6 + (1 : Int32)))] [] (aw_s I L D)) :
    aw_z X (d + 1) y_Mc_launchAnswered Q 64 [some (.ref 4), some (.ref c1), none, none, none, none, some (.int v6)] [.int s0] (aw_s I L D) :=
  (s_Mc_launchAnswered_64.go [some (.ref 4), some (.ref c1), none, none, none, some (.int s0), some (.int v6)] [] (aw_s I L D) rfl (s_Mc_launchAnswered_66.go [some (.ref 4), some (.ref c1), none, none, none, some (.int s0), some (.int (v6 + (1 : Int32)))] [] (aw_s I L D) rfl (z_goto (tgt := 25) d_Mc_launchAnswered_69 rfl (h1))))
/-! Mc_layRow -/
theorem d_Mc_layRow_0 : decode y_Mc_layRow.2.1 0 = .ok (.aload_n 0, 1) := by decide +kernel
theorem d_Mc_layRow_1 : decode y_Mc_layRow.2.1 1 = .ok (.aload_n 0, 1) := by decide +kernel
theorem d_Mc_layRow_2 : decode y_Mc_layRow.2.1 2 = .ok (.getfield 31, 3) := by decide +kernel
theorem s_Mc_layRow_0 : aw_VS y_Mc_layRow 0 [o_ald 0, o_ald 0, o_getA 3 0] 5 := .cons (v_aload_n (i := 0) d_Mc_layRow_0 rfl) (.cons (v_aload_n (i := 0) d_Mc_layRow_1 rfl) (.cons (v_getA (k := 0) k_Mc (by decide) rfl (Or.inl w_121) d_Mc_layRow_2) .nil))
theorem d_Mc_layRow_5 : decode y_Mc_layRow.2.1 5 = .ok (.invokevirtual 89, 3) := by decide +kernel
theorem b_Mc_layRow_0 {X : aw_X} {d : Nat} {Q : Option Value → aw_H → Prop} {I : Nat → Nat → Int32} {L : Nat → Nat → Int64} {D : Nat → Nat} {v1 : Int32}
    (h1 : aw_m X d y_Sz_greatest [.ref 1] (aw_s I L D) (fun r A => aw_z X (d + 1) y_Mc_layRow Q 8 [some (.ref 4), some (.int v1), none] (r.toList ++ [.ref 4]) A)) :
    aw_z X (d + 1) y_Mc_layRow Q 0 [some (.ref 4), some (.int v1), none] [] (aw_s I L D) :=
  (s_Mc_layRow_0.go [some (.ref 4), some (.int v1), none] [.ref 1, .ref 4] (aw_s I L D) rfl (z_callV (av := []) (st := [.ref 4]) ok_Sz_greatest (Or.inl w_792) w_793 w_794 k_Sz d_Mc_layRow_5 rfl (aw_lt (o := 1) rfl) rfl rfl (Nat.le_of_ble_eq_true rfl) (Nat.le_refl _) (Nat.le_refl _) (h1)))
theorem d_Mc_layRow_8 : decode y_Mc_layRow.2.1 8 = .ok (.putfield 94, 3) := by decide +kernel
theorem d_Mc_layRow_11 : decode y_Mc_layRow.2.1 11 = .ok (.aload_n 0, 1) := by decide +kernel
theorem d_Mc_layRow_12 : decode y_Mc_layRow.2.1 12 = .ok (.iload_n 1, 1) := by decide +kernel
theorem d_Mc_layRow_13 : decode y_Mc_layRow.2.1 13 = .ok (.putfield 96, 3) := by decide +kernel
theorem d_Mc_layRow_16 : decode y_Mc_layRow.2.1 16 = .ok (.iconst 0, 1) := by decide +kernel
theorem d_Mc_layRow_17 : decode y_Mc_layRow.2.1 17 = .ok (.istore_n 2, 1) := by decide +kernel
theorem s_Mc_layRow_8 : aw_VS y_Mc_layRow 8 [o_putI 3 7, o_ald 0, o_ild 1, o_putI 3 8, o_c (.int (0 : Int32)), o_ist 2] 18 := .cons (v_putI (k := 7) k_Mc (by decide) rfl (Or.inl ⟨rfl, Or.inl w_130⟩) d_Mc_layRow_8) (.cons (v_aload_n (i := 0) d_Mc_layRow_11 rfl) (.cons (v_iload_n (i := 1) d_Mc_layRow_12 rfl) (.cons (v_putI (k := 8) k_Mc (by decide) rfl (Or.inl ⟨rfl, Or.inl w_131⟩) d_Mc_layRow_13) (.cons (v_iconst (v := (0 : Int32)) d_Mc_layRow_16 (by decide +kernel)) (.cons (v_istore_n d_Mc_layRow_17) .nil)))))
theorem b_Mc_layRow_8 {X : aw_X} {d : Nat} {Q : Option Value → aw_H → Prop} {I : Nat → Nat → Int32} {L : Nat → Nat → Int64} {D : Nat → Nat} {v1 : Int32} {s1 : Int32}
    (h1 : aw_z X (d + 1) y_Mc_layRow Q 18 [some (.ref 4), none, some (.int (0 : Int32))] [] (aw_s (aw_u (aw_u I 4 7 s1) 4 8 v1) L D)) :
    aw_z X (d + 1) y_Mc_layRow Q 8 [some (.ref 4), some (.int v1), none] [.int s1, .ref 4] (aw_s I L D) :=
  (s_Mc_layRow_8.go [some (.ref 4), some (.int v1), some (.int (0 : Int32))] [] (aw_s (aw_u (aw_u I 4 7 s1) 4 8 v1) L D) rfl (aw_Z.weak (ls' := [some (.ref 4), none, some (.int (0 : Int32))]) (h1) (Nat.le_of_ble_eq_true rfl) ⟨Or.inr rfl, ⟨Or.inl rfl, ⟨Or.inr rfl, trivial⟩⟩⟩))
theorem d_Mc_layRow_18 : decode y_Mc_layRow.2.1 18 = .ok (.iload_n 2, 1) := by decide +kernel
theorem d_Mc_layRow_19 : decode y_Mc_layRow.2.1 19 = .ok (.aload_n 0, 1) := by decide +kernel
theorem d_Mc_layRow_20 : decode y_Mc_layRow.2.1 20 = .ok (.getfield 9, 3) := by decide +kernel
theorem d_Mc_layRow_23 : decode y_Mc_layRow.2.1 23 = .ok (.arraylength, 1) := by decide +kernel
theorem s_Mc_layRow_18 : aw_VS y_Mc_layRow 18 [o_ild 2, o_ald 0, o_getA 3 1, o_alen] 24 := .cons (v_iload_n (i := 2) d_Mc_layRow_18 rfl) (.cons (v_aload_n (i := 0) d_Mc_layRow_19 rfl) (.cons (v_getA (k := 1) k_Mc (by decide) rfl (Or.inl w_122) d_Mc_layRow_20) (.cons (v_alen d_Mc_layRow_23) .nil)))
theorem d_Mc_layRow_24 : decode y_Mc_layRow.2.1 24 = .ok (.if_icmp .ge (58), 3) := by decide +kernel
theorem d_Mc_layRow_82 : decode y_Mc_layRow.2.1 82 = .ok (.iconst 0, 1) := by decide +kernel
theorem d_Mc_layRow_83 : decode y_Mc_layRow.2.1 83 = .ok (.istore_n 2, 1) := by decide +kernel
theorem s_Mc_layRow_82 : aw_VS y_Mc_layRow 82 [o_c (.int (0 : Int32)), o_ist 2] 84 := .cons (v_iconst (v := (0 : Int32)) d_Mc_layRow_82 (by decide +kernel)) (.cons (v_istore_n d_Mc_layRow_83) .nil)
theorem d_Mc_layRow_27 : decode y_Mc_layRow.2.1 27 = .ok (.aload_n 0, 1) := by decide +kernel
theorem d_Mc_layRow_28 : decode y_Mc_layRow.2.1 28 = .ok (.getfield 9, 3) := by decide +kernel
theorem d_Mc_layRow_31 : decode y_Mc_layRow.2.1 31 = .ok (.iload_n 2, 1) := by decide +kernel
theorem d_Mc_layRow_32 : decode y_Mc_layRow.2.1 32 = .ok (.iconst 0, 1) := by decide +kernel
theorem s_Mc_layRow_27 : aw_VS y_Mc_layRow 27 [o_ald 0, o_getA 3 1, o_ild 2, o_c (.int (0 : Int32))] 33 := .cons (v_aload_n (i := 0) d_Mc_layRow_27 rfl) (.cons (v_getA (k := 1) k_Mc (by decide) rfl (Or.inl w_122) d_Mc_layRow_28) (.cons (v_iload_n (i := 2) d_Mc_layRow_31 rfl) (.cons (v_iconst (v := (0 : Int32)) d_Mc_layRow_32 (by decide +kernel)) .nil)))
theorem d_Mc_layRow_33 : decode y_Mc_layRow.2.1 33 = .ok (.iastore, 1) := by decide +kernel
theorem d_Mc_layRow_34 : decode y_Mc_layRow.2.1 34 = .ok (.iload_n 2, 1) := by decide +kernel
theorem d_Mc_layRow_35 : decode y_Mc_layRow.2.1 35 = .ok (.aload_n 0, 1) := by decide +kernel
theorem d_Mc_layRow_36 : decode y_Mc_layRow.2.1 36 = .ok (.getfield 31, 3) := by decide +kernel
theorem d_Mc_layRow_39 : decode y_Mc_layRow.2.1 39 = .ok (.getfield 99, 3) := by decide +kernel
theorem s_Mc_layRow_34 : aw_VS y_Mc_layRow 34 [o_ild 2, o_ald 0, o_getA 3 0, o_getI 1 1] 42 := .cons (v_iload_n (i := 2) d_Mc_layRow_34 rfl) (.cons (v_aload_n (i := 0) d_Mc_layRow_35 rfl) (.cons (v_getA (k := 0) k_Mc (by decide) rfl (Or.inl w_121) d_Mc_layRow_36) (.cons (v_getI (k := 1) k_Sz (by decide) (Or.inl rfl) (Or.inr ⟨"AllWays", w_90⟩) d_Mc_layRow_39) .nil)))
theorem d_Mc_layRow_42 : decode y_Mc_layRow.2.1 42 = .ok (.if_icmp .ge (34), 3) := by decide +kernel
theorem d_Mc_layRow_76 : decode y_Mc_layRow.2.1 76 = .ok (.iinc 2 (1), 3) := by decide +kernel
theorem s_Mc_layRow_76 : aw_VS y_Mc_layRow 76 [o_inc 2 (1 : Int32)] 79 := .cons (v_iinc (k0 := (1 : Int32)) d_Mc_layRow_76 (by decide +kernel)) .nil
theorem d_Mc_layRow_79 : decode y_Mc_layRow.2.1 79 = .ok (.goto (-61), 3) := by decide +kernel
theorem d_Mc_layRow_45 : decode y_Mc_layRow.2.1 45 = .ok (.aload_n 0, 1) := by decide +kernel
theorem d_Mc_layRow_46 : decode y_Mc_layRow.2.1 46 = .ok (.getfield 9, 3) := by decide +kernel
theorem d_Mc_layRow_49 : decode y_Mc_layRow.2.1 49 = .ok (.iload_n 2, 1) := by decide +kernel
theorem d_Mc_layRow_50 : decode y_Mc_layRow.2.1 50 = .ok (.aload_n 0, 1) := by decide +kernel
theorem d_Mc_layRow_51 : decode y_Mc_layRow.2.1 51 = .ok (.getfield 96, 3) := by decide +kernel
theorem d_Mc_layRow_54 : decode y_Mc_layRow.2.1 54 = .ok (.aload_n 0, 1) := by decide +kernel
theorem d_Mc_layRow_55 : decode y_Mc_layRow.2.1 55 = .ok (.getfield 94, 3) := by decide +kernel
theorem d_Mc_layRow_58 : decode y_Mc_layRow.2.1 58 = .ok (.iand, 1) := by decide +kernel
theorem s_Mc_layRow_45 : aw_VS y_Mc_layRow 45 [o_ald 0, o_getA 3 1, o_ild 2, o_ald 0, o_getI 3 8, o_ald 0, o_getI 3 7, o_i2 (fun x z => x &&& z)] 59 := .cons (v_aload_n (i := 0) d_Mc_layRow_45 rfl) (.cons (v_getA (k := 1) k_Mc (by decide) rfl (Or.inl w_122) d_Mc_layRow_46) (.cons (v_iload_n (i := 2) d_Mc_layRow_49 rfl) (.cons (v_aload_n (i := 0) d_Mc_layRow_50 rfl) (.cons (v_getI (k := 8) k_Mc (by decide) (Or.inl rfl) (Or.inl w_131) d_Mc_layRow_51) (.cons (v_aload_n (i := 0) d_Mc_layRow_54 rfl) (.cons (v_getI (k := 7) k_Mc (by decide) (Or.inl rfl) (Or.inl w_130) d_Mc_layRow_55) (.cons (v_iand d_Mc_layRow_58) .nil)))))))
theorem d_Mc_layRow_59 : decode y_Mc_layRow.2.1 59 = .ok (.iastore, 1) := by decide +kernel
theorem d_Mc_layRow_60 : decode y_Mc_layRow.2.1 60 = .ok (.aload_n 0, 1) := by decide +kernel
theorem d_Mc_layRow_61 : decode y_Mc_layRow.2.1 61 = .ok (.dup, 1) := by decide +kernel
theorem d_Mc_layRow_62 : decode y_Mc_layRow.2.1 62 = .ok (.getfield 96, 3) := by decide +kernel
theorem d_Mc_layRow_65 : decode y_Mc_layRow.2.1 65 = .ok (.aload_n 0, 1) := by decide +kernel
theorem d_Mc_layRow_66 : decode y_Mc_layRow.2.1 66 = .ok (.getfield 31, 3) := by decide +kernel
theorem d_Mc_layRow_69 : decode y_Mc_layRow.2.1 69 = .ok (.getfield 102, 3) := by decide +kernel
theorem d_Mc_layRow_72 : decode y_Mc_layRow.2.1 72 = .ok (.iushr, 1) := by decide +kernel
theorem d_Mc_layRow_73 : decode y_Mc_layRow.2.1 73 = .ok (.putfield 96, 3) := by decide +kernel
theorem s_Mc_layRow_60 : aw_VS y_Mc_layRow 60 [o_ald 0, o_dup, o_getI 3 8, o_ald 0, o_getA 3 0, o_getI 1 0, o_i2 (fun x z => (x.toUInt32 >>> (z.toUInt32 &&& Int32.toUInt32 31)).toInt32), o_putI 3 8] 76 := .cons (v_aload_n (i := 0) d_Mc_layRow_60 rfl) (.cons (v_dup d_Mc_layRow_61) (.cons (v_getI (k := 8) k_Mc (by decide) (Or.inl rfl) (Or.inl w_131) d_Mc_layRow_62) (.cons (v_aload_n (i := 0) d_Mc_layRow_65 rfl) (.cons (v_getA (k := 0) k_Mc (by decide) rfl (Or.inl w_121) d_Mc_layRow_66) (.cons (v_getI (k := 0) k_Sz (by decide) (Or.inl rfl) (Or.inr ⟨"AllWays", w_88⟩) d_Mc_layRow_69) (.cons (v_iushr d_Mc_layRow_72) (.cons (v_putI (k := 8) k_Mc (by decide) rfl (Or.inl ⟨rfl, Or.inl w_131⟩) d_Mc_layRow_73) .nil)))))))
theorem b_Mc_layRow_18 {X : aw_X} {d : Nat} {Q : Option Value → aw_H → Prop} {I : Nat → Nat → Int32} {L : Nat → Nat → Int64} {D : Nat → Nat} {v2 : Int32}
    (h1 : (8 : Int32) ≤ v2 → aw_z X (d + 1) y_Mc_layRow Q 84 [some (.ref 4), none, some (.int (0 : Int32))] [] (aw_s I L D))
    (h2 : ¬ (8 : Int32) ≤ v2 → vp_in v2 8)
    (h3 : ¬ (8 : Int32) ≤ v2 → (I 1 1) ≤ v2 → aw_z X (d + 1) y_Mc_layRow Q 18 [some (.ref 4), none, some (.int (v2 + (1 : Int32)))] [] (aw_s (aw_u I 5 v2.toNatClampNeg (0 : Int32)) L D))
    (h4 : ¬ (8 : Int32) ≤ v2 → ¬ (I 1 1) ≤ v2 → vp_in v2 8)
    (h5 : ¬ (8 : Int32) ≤ v2 → ¬ (I 1 1) ≤ v2 → aw_z X (d + 1) y_Mc_layRow Q 18 [some (.ref 4), none, some (.int (v2 + (1 : Int32)))] [] (aw_s (aw_u (aw_u (aw_u I 5 v2.toNatClampNeg (0 : Int32)) 5 v2.toNatClampNeg ((I 4 8) &&& (I 4 7))) 4 8 (((I 4 8).toUInt32 >>> ((I 1 0).toUInt32 &&& Int32.toUInt32 31)).toInt32)) L D)) :
    aw_z X (d + 1) y_Mc_layRow Q 18 [some (.ref 4), none, some (.int v2)] [] (aw_s I L D) :=
  (s_Mc_layRow_18.go [some (.ref 4), none, some (.int v2)] [.int (8 : Int32), .int v2] (aw_s I L D) rfl (z_icmp_ge (tgt := 82) d_Mc_layRow_24 rfl (fun q1 => (s_Mc_layRow_82.go [some (.ref 4), none, some (.int (0 : Int32))] [] (aw_s I L D) rfl (h1 q1))) (fun q2 => (s_Mc_layRow_27.go [some (.ref 4), none, some (.int v2)] [.int (0 : Int32), .int v2, .ref 5] (aw_s I L D) rfl (z_iast (n := 8) rfl (aw_lt (o := 5) rfl) (h2 q2) d_Mc_layRow_33 (s_Mc_layRow_34.go [some (.ref 4), none, some (.int v2)] [.int (I 1 1), .int v2] (aw_s (aw_u I 5 v2.toNatClampNeg (0 : Int32)) L D) rfl (z_icmp_ge (tgt := 76) d_Mc_layRow_42 rfl (fun q3 => (s_Mc_layRow_76.go [some (.ref 4), none, some (.int (v2 + (1 : Int32)))] [] (aw_s (aw_u I 5 v2.toNatClampNeg (0 : Int32)) L D) rfl (z_goto (tgt := 18) d_Mc_layRow_79 rfl (h3 q2 q3)))) (fun q4 => (s_Mc_layRow_45.go [some (.ref 4), none, some (.int v2)] [.int ((I 4 8) &&& (I 4 7)), .int v2, .ref 5] (aw_s (aw_u I 5 v2.toNatClampNeg (0 : Int32)) L D) rfl (z_iast (n := 8) rfl (aw_lt (o := 5) rfl) (h4 q2 q4) d_Mc_layRow_59 (s_Mc_layRow_60.go [some (.ref 4), none, some (.int v2)] [] (aw_s (aw_u (aw_u (aw_u I 5 v2.toNatClampNeg (0 : Int32)) 5 v2.toNatClampNeg ((I 4 8) &&& (I 4 7))) 4 8 (((I 4 8).toUInt32 >>> ((I 1 0).toUInt32 &&& Int32.toUInt32 31)).toInt32)) L D) rfl (s_Mc_layRow_76.go [some (.ref 4), none, some (.int (v2 + (1 : Int32)))] [] (aw_s (aw_u (aw_u (aw_u I 5 v2.toNatClampNeg (0 : Int32)) 5 v2.toNatClampNeg ((I 4 8) &&& (I 4 7))) 4 8 (((I 4 8).toUInt32 >>> ((I 1 0).toUInt32 &&& Int32.toUInt32 31)).toInt32)) L D) rfl (z_goto (tgt := 18) d_Mc_layRow_79 rfl (h5 q2 q4))))))))))))))
theorem d_Mc_layRow_84 : decode y_Mc_layRow.2.1 84 = .ok (.iload_n 2, 1) := by decide +kernel
theorem d_Mc_layRow_85 : decode y_Mc_layRow.2.1 85 = .ok (.aload_n 0, 1) := by decide +kernel
theorem d_Mc_layRow_86 : decode y_Mc_layRow.2.1 86 = .ok (.getfield 15, 3) := by decide +kernel
theorem d_Mc_layRow_89 : decode y_Mc_layRow.2.1 89 = .ok (.arraylength, 1) := by decide +kernel
theorem s_Mc_layRow_84 : aw_VS y_Mc_layRow 84 [o_ild 2, o_ald 0, o_getA 3 2, o_alen] 90 := .cons (v_iload_n (i := 2) d_Mc_layRow_84 rfl) (.cons (v_aload_n (i := 0) d_Mc_layRow_85 rfl) (.cons (v_getA (k := 2) k_Mc (by decide) rfl (Or.inl w_124) d_Mc_layRow_86) (.cons (v_alen d_Mc_layRow_89) .nil)))
theorem d_Mc_layRow_90 : decode y_Mc_layRow.2.1 90 = .ok (.if_icmp .ge (16), 3) := by decide +kernel
theorem d_Mc_layRow_106 : decode y_Mc_layRow.2.1 106 = .ok (.aload_n 0, 1) := by decide +kernel
theorem d_Mc_layRow_107 : decode y_Mc_layRow.2.1 107 = .ok (.iconst 0, 1) := by decide +kernel
theorem d_Mc_layRow_108 : decode y_Mc_layRow.2.1 108 = .ok (.putfield 105, 3) := by decide +kernel
theorem d_Mc_layRow_111 : decode y_Mc_layRow.2.1 111 = .ok (.aload_n 0, 1) := by decide +kernel
theorem d_Mc_layRow_112 : decode y_Mc_layRow.2.1 112 = .ok (.iconst 0, 1) := by decide +kernel
theorem d_Mc_layRow_113 : decode y_Mc_layRow.2.1 113 = .ok (.putfield 108, 3) := by decide +kernel
theorem d_Mc_layRow_116 : decode y_Mc_layRow.2.1 116 = .ok (.aload_n 0, 1) := by decide +kernel
theorem d_Mc_layRow_117 : decode y_Mc_layRow.2.1 117 = .ok (.iconst (-1), 1) := by decide +kernel
theorem d_Mc_layRow_118 : decode y_Mc_layRow.2.1 118 = .ok (.putfield 111, 3) := by decide +kernel
theorem d_Mc_layRow_121 : decode y_Mc_layRow.2.1 121 = .ok (.aload_n 0, 1) := by decide +kernel
theorem d_Mc_layRow_122 : decode y_Mc_layRow.2.1 122 = .ok (.iconst 0, 1) := by decide +kernel
theorem d_Mc_layRow_123 : decode y_Mc_layRow.2.1 123 = .ok (.putfield 114, 3) := by decide +kernel
theorem d_Mc_layRow_126 : decode y_Mc_layRow.2.1 126 = .ok (.aload_n 0, 1) := by decide +kernel
theorem d_Mc_layRow_127 : decode y_Mc_layRow.2.1 127 = .ok (.iconst 0, 1) := by decide +kernel
theorem d_Mc_layRow_128 : decode y_Mc_layRow.2.1 128 = .ok (.putfield 117, 3) := by decide +kernel
theorem d_Mc_layRow_131 : decode y_Mc_layRow.2.1 131 = .ok (.aload_n 0, 1) := by decide +kernel
theorem d_Mc_layRow_132 : decode y_Mc_layRow.2.1 132 = .ok (.lconst 0, 1) := by decide +kernel
theorem d_Mc_layRow_133 : decode y_Mc_layRow.2.1 133 = .ok (.putfield 120, 3) := by decide +kernel
theorem d_Mc_layRow_136 : decode y_Mc_layRow.2.1 136 = .ok (.aload_n 0, 1) := by decide +kernel
theorem d_Mc_layRow_137 : decode y_Mc_layRow.2.1 137 = .ok (.iconst (-1), 1) := by decide +kernel
theorem d_Mc_layRow_138 : decode y_Mc_layRow.2.1 138 = .ok (.putfield 56, 3) := by decide +kernel
theorem d_Mc_layRow_141 : decode y_Mc_layRow.2.1 141 = .ok (.aload_n 0, 1) := by decide +kernel
theorem d_Mc_layRow_142 : decode y_Mc_layRow.2.1 142 = .ok (.iconst (-1), 1) := by decide +kernel
theorem d_Mc_layRow_143 : decode y_Mc_layRow.2.1 143 = .ok (.putfield 124, 3) := by decide +kernel
theorem s_Mc_layRow_106 : aw_VS y_Mc_layRow 106 [o_ald 0, o_c (.int (0 : Int32)), o_putI 3 4, o_ald 0, o_c (.int (0 : Int32)), o_putI 3 6, o_ald 0, o_c (.int (-1 : Int32)), o_putI 3 11, o_ald 0, o_c (.int (0 : Int32)), o_putI 3 12, o_ald 0, o_c (.int (0 : Int32)), o_putI 3 13, o_ald 0, o_c (.long (0 : Int64)), o_putJ 3 14, o_ald 0, o_c (.int (-1 : Int32)), o_putI 3 15, o_ald 0, o_c (.int (-1 : Int32)), o_putI 3 16] 146 := .cons (v_aload_n (i := 0) d_Mc_layRow_106 rfl) (.cons (v_iconst (v := (0 : Int32)) d_Mc_layRow_107 (by decide +kernel)) (.cons (v_putI (k := 4) k_Mc (by decide) rfl (Or.inl ⟨rfl, Or.inl w_127⟩) d_Mc_layRow_108) (.cons (v_aload_n (i := 0) d_Mc_layRow_111 rfl) (.cons (v_iconst (v := (0 : Int32)) d_Mc_layRow_112 (by decide +kernel)) (.cons (v_putI (k := 6) k_Mc (by decide) rfl (Or.inl ⟨rfl, Or.inl w_129⟩) d_Mc_layRow_113) (.cons (v_aload_n (i := 0) d_Mc_layRow_116 rfl) (.cons (v_iconst (v := (-1 : Int32)) d_Mc_layRow_117 (by decide +kernel)) (.cons (v_putI (k := 11) k_Mc (by decide) rfl (Or.inl ⟨rfl, Or.inl w_134⟩) d_Mc_layRow_118) (.cons (v_aload_n (i := 0) d_Mc_layRow_121 rfl) (.cons (v_iconst (v := (0 : Int32)) d_Mc_layRow_122 (by decide +kernel)) (.cons (v_putI (k := 12) k_Mc (by decide) rfl (Or.inl ⟨rfl, Or.inl w_136⟩) d_Mc_layRow_123) (.cons (v_aload_n (i := 0) d_Mc_layRow_126 rfl) (.cons (v_iconst (v := (0 : Int32)) d_Mc_layRow_127 (by decide +kernel)) (.cons (v_putI (k := 13) k_Mc (by decide) rfl (Or.inl ⟨rfl, Or.inl w_138⟩) d_Mc_layRow_128) (.cons (v_aload_n (i := 0) d_Mc_layRow_131 rfl) (.cons (v_lconst (v := (0 : Int64)) d_Mc_layRow_132 (by decide +kernel)) (.cons (v_putJ (k := 14) k_Mc (by decide) rfl (Or.inl ⟨rfl, Or.inl w_140⟩) d_Mc_layRow_133) (.cons (v_aload_n (i := 0) d_Mc_layRow_136 rfl) (.cons (v_iconst (v := (-1 : Int32)) d_Mc_layRow_137 (by decide +kernel)) (.cons (v_putI (k := 15) k_Mc (by decide) rfl (Or.inl ⟨rfl, Or.inl w_141⟩) d_Mc_layRow_138) (.cons (v_aload_n (i := 0) d_Mc_layRow_141 rfl) (.cons (v_iconst (v := (-1 : Int32)) d_Mc_layRow_142 (by decide +kernel)) (.cons (v_putI (k := 16) k_Mc (by decide) rfl (Or.inl ⟨rfl, Or.inl w_145⟩) d_Mc_layRow_143) .nil)))))))))))))))))))))))
theorem d_Mc_layRow_146 : decode y_Mc_layRow.2.1 146 = .ok (.return_, 1) := by decide +kernel
theorem d_Mc_layRow_93 : decode y_Mc_layRow.2.1 93 = .ok (.aload_n 0, 1) := by decide +kernel
theorem d_Mc_layRow_94 : decode y_Mc_layRow.2.1 94 = .ok (.getfield 15, 3) := by decide +kernel
theorem d_Mc_layRow_97 : decode y_Mc_layRow.2.1 97 = .ok (.iload_n 2, 1) := by decide +kernel
theorem d_Mc_layRow_98 : decode y_Mc_layRow.2.1 98 = .ok (.iconst 0, 1) := by decide +kernel
theorem s_Mc_layRow_93 : aw_VS y_Mc_layRow 93 [o_ald 0, o_getA 3 2, o_ild 2, o_c (.int (0 : Int32))] 99 := .cons (v_aload_n (i := 0) d_Mc_layRow_93 rfl) (.cons (v_getA (k := 2) k_Mc (by decide) rfl (Or.inl w_124) d_Mc_layRow_94) (.cons (v_iload_n (i := 2) d_Mc_layRow_97 rfl) (.cons (v_iconst (v := (0 : Int32)) d_Mc_layRow_98 (by decide +kernel)) .nil)))
theorem d_Mc_layRow_99 : decode y_Mc_layRow.2.1 99 = .ok (.iastore, 1) := by decide +kernel
theorem d_Mc_layRow_100 : decode y_Mc_layRow.2.1 100 = .ok (.iinc 2 (1), 3) := by decide +kernel
theorem s_Mc_layRow_100 : aw_VS y_Mc_layRow 100 [o_inc 2 (1 : Int32)] 103 := .cons (v_iinc (k0 := (1 : Int32)) d_Mc_layRow_100 (by decide +kernel)) .nil
theorem d_Mc_layRow_103 : decode y_Mc_layRow.2.1 103 = .ok (.goto (-19), 3) := by decide +kernel
theorem b_Mc_layRow_84 {X : aw_X} {d : Nat} {Q : Option Value → aw_H → Prop} {I : Nat → Nat → Int32} {L : Nat → Nat → Int64} {D : Nat → Nat} {v2 : Int32}
    (h1 : (8 : Int32) ≤ v2 → Q none (aw_s (aw_u (aw_u (aw_u (aw_u (aw_u (aw_u (aw_u I 4 4 (0 : Int32)) 4 6 (0 : Int32)) 4 11 (-1 : Int32)) 4 12 (0 : Int32)) 4 13 (0 : Int32)) 4 15 (-1 : Int32)) 4 16 (-1 : Int32)) (aw_u L 4 14 (0 : Int64)) D))
    (h2 : ¬ (8 : Int32) ≤ v2 → vp_in v2 8)
    (h3 : ¬ (8 : Int32) ≤ v2 → aw_z X (d + 1) y_Mc_layRow Q 84 [some (.ref 4), none, some (.int (v2 + (1 : Int32)))] [] (aw_s (aw_u I 6 v2.toNatClampNeg (0 : Int32)) L D)) :
    aw_z X (d + 1) y_Mc_layRow Q 84 [some (.ref 4), none, some (.int v2)] [] (aw_s I L D) :=
  (s_Mc_layRow_84.go [some (.ref 4), none, some (.int v2)] [.int (8 : Int32), .int v2] (aw_s I L D) rfl (z_icmp_ge (tgt := 106) d_Mc_layRow_90 rfl (fun q1 => (s_Mc_layRow_106.go [some (.ref 4), none, some (.int v2)] [] (aw_s (aw_u (aw_u (aw_u (aw_u (aw_u (aw_u (aw_u I 4 4 (0 : Int32)) 4 6 (0 : Int32)) 4 11 (-1 : Int32)) 4 12 (0 : Int32)) 4 13 (0 : Int32)) 4 15 (-1 : Int32)) 4 16 (-1 : Int32)) (aw_u L 4 14 (0 : Int64)) D) rfl (z_vret d_Mc_layRow_146 rfl (h1 q1)))) (fun q2 => (s_Mc_layRow_93.go [some (.ref 4), none, some (.int v2)] [.int (0 : Int32), .int v2, .ref 6] (aw_s I L D) rfl (z_iast (n := 8) rfl (aw_lt (o := 6) rfl) (h2 q2) d_Mc_layRow_99 (s_Mc_layRow_100.go [some (.ref 4), none, some (.int (v2 + (1 : Int32)))] [] (aw_s (aw_u I 6 v2.toNatClampNeg (0 : Int32)) L D) rfl (z_goto (tgt := 84) d_Mc_layRow_103 rfl (h3 q2))))))))
/-! Mc_workOut -/
theorem d_Mc_workOut_0 : decode y_Mc_workOut.2.1 0 = .ok (.iload_n 2, 1) := by decide +kernel
theorem d_Mc_workOut_1 : decode y_Mc_workOut.2.1 1 = .ok (.istore_n 3, 1) := by decide +kernel
theorem s_Mc_workOut_0 : aw_VS y_Mc_workOut 0 [o_ild 2, o_ist 3] 2 := .cons (v_iload_n (i := 2) d_Mc_workOut_0 rfl) (.cons (v_istore_n d_Mc_workOut_1) .nil)
theorem b_Mc_workOut_0 {X : aw_X} {d : Nat} {Q : Option Value → aw_H → Prop} {I : Nat → Nat → Int32} {L : Nat → Nat → Int64} {D : Nat → Nat} {c1 : Nat} {v2 : Int32}
    (h1 : aw_z X (d + 1) y_Mc_workOut Q 2 [some (.ref 4), some (.ref c1), none, some (.int v2), none] [] (aw_s I L D)) :
    aw_z X (d + 1) y_Mc_workOut Q 0 [some (.ref 4), some (.ref c1), some (.int v2), none, none] [] (aw_s I L D) :=
  (s_Mc_workOut_0.go [some (.ref 4), some (.ref c1), some (.int v2), some (.int v2), none] [] (aw_s I L D) rfl (aw_Z.weak (ls' := [some (.ref 4), some (.ref c1), none, some (.int v2), none]) (h1) (Nat.le_of_ble_eq_true rfl) ⟨Or.inr rfl, ⟨Or.inr rfl, ⟨Or.inl rfl, ⟨Or.inr rfl, ⟨Or.inl rfl, trivial⟩⟩⟩⟩⟩))
theorem d_Mc_workOut_2 : decode y_Mc_workOut.2.1 2 = .ok (.iload_n 3, 1) := by decide +kernel
theorem d_Mc_workOut_3 : decode y_Mc_workOut.2.1 3 = .ok (.aload_n 1, 1) := by decide +kernel
theorem d_Mc_workOut_4 : decode y_Mc_workOut.2.1 4 = .ok (.getfield 127, 3) := by decide +kernel
theorem s_Mc_workOut_2 : aw_VS y_Mc_workOut 2 [o_ild 3, o_ald 1, o_getI 6 4] 7 := .cons (v_iload_n (i := 3) d_Mc_workOut_2 rfl) (.cons (v_aload_n (i := 1) d_Mc_workOut_3 rfl) (.cons (v_getI (k := 4) k_Cd (by decide) (Or.inl rfl) (Or.inr ⟨"AllWays", w_298⟩) d_Mc_workOut_4) .nil))
theorem d_Mc_workOut_7 : decode y_Mc_workOut.2.1 7 = .ok (.if_icmp .ge (102), 3) := by decide +kernel
theorem d_Mc_workOut_109 : decode y_Mc_workOut.2.1 109 = .ok (.aload_n 1, 1) := by decide +kernel
theorem d_Mc_workOut_110 : decode y_Mc_workOut.2.1 110 = .ok (.getfield 127, 3) := by decide +kernel
theorem s_Mc_workOut_109 : aw_VS y_Mc_workOut 109 [o_ald 1, o_getI 6 4] 113 := .cons (v_aload_n (i := 1) d_Mc_workOut_109 rfl) (.cons (v_getI (k := 4) k_Cd (by decide) (Or.inl rfl) (Or.inr ⟨"AllWays", w_298⟩) d_Mc_workOut_110) .nil)
theorem d_Mc_workOut_113 : decode y_Mc_workOut.2.1 113 = .ok (.ireturn, 1) := by decide +kernel
theorem d_Mc_workOut_10 : decode y_Mc_workOut.2.1 10 = .ok (.aload_n 1, 1) := by decide +kernel
theorem d_Mc_workOut_11 : decode y_Mc_workOut.2.1 11 = .ok (.iload_n 3, 1) := by decide +kernel
theorem s_Mc_workOut_10 : aw_VS y_Mc_workOut 10 [o_ald 1, o_ild 3] 12 := .cons (v_aload_n (i := 1) d_Mc_workOut_10 rfl) (.cons (v_iload_n (i := 3) d_Mc_workOut_11 rfl) .nil)
theorem d_Mc_workOut_12 : decode y_Mc_workOut.2.1 12 = .ok (.invokevirtual 130, 3) := by decide +kernel
theorem b_Mc_workOut_2 {X : aw_X} {d : Nat} {Q : Option Value → aw_H → Prop} {I : Nat → Nat → Int32} {L : Nat → Nat → Int64} {D : Nat → Nat} {c1 : Nat} {v3 : Int32} (hc1 : c1 ∈ aw_codes)
    (h1 : (I c1 4) ≤ v3 → Q (some (.int (I c1 4))) (aw_s I L D))
    (h2 : ¬ (I c1 4) ≤ v3 → aw_m X d y_Cd_opAt [.ref c1, .int v3] (aw_s I L D) (fun r A => aw_z X (d + 1) y_Mc_workOut Q 15 [some (.ref 4), some (.ref c1), none, some (.int v3), none] (r.toList ++ []) A)) :
    aw_z X (d + 1) y_Mc_workOut Q 2 [some (.ref 4), some (.ref c1), none, some (.int v3), none] [] (aw_s I L D) := by
  simp only [aw_codes, List.mem_cons, List.not_mem_nil, or_false] at hc1
  rcases hc1 with rfl | rfl | rfl | rfl | rfl | rfl
  · exact (s_Mc_workOut_2.go [some (.ref 4), some (.ref 30), none, some (.int v3), none] [.int (I 30 4), .int v3] (aw_s I L D) rfl (z_icmp_ge (tgt := 109) d_Mc_workOut_7 rfl (fun q1 => (s_Mc_workOut_109.go [some (.ref 4), some (.ref 30), none, some (.int v3), none] [.int (I 30 4)] (aw_s I L D) rfl (z_iret d_Mc_workOut_113 rfl rfl (h1 q1)))) (fun q2 => (s_Mc_workOut_10.go [some (.ref 4), some (.ref 30), none, some (.int v3), none] [.int v3, .ref 30] (aw_s I L D) rfl (z_callV (av := [.int v3]) (st := []) ok_Cd_opAt (Or.inl w_801) w_802 w_803 k_Cd d_Mc_workOut_12 rfl (aw_lt (o := 30) rfl) rfl rfl (Nat.le_of_ble_eq_true rfl) (Nat.le_refl _) (Nat.le_refl _) (h2 q2))))))
  · exact (s_Mc_workOut_2.go [some (.ref 4), some (.ref 35), none, some (.int v3), none] [.int (I 35 4), .int v3] (aw_s I L D) rfl (z_icmp_ge (tgt := 109) d_Mc_workOut_7 rfl (fun q1 => (s_Mc_workOut_109.go [some (.ref 4), some (.ref 35), none, some (.int v3), none] [.int (I 35 4)] (aw_s I L D) rfl (z_iret d_Mc_workOut_113 rfl rfl (h1 q1)))) (fun q2 => (s_Mc_workOut_10.go [some (.ref 4), some (.ref 35), none, some (.int v3), none] [.int v3, .ref 35] (aw_s I L D) rfl (z_callV (av := [.int v3]) (st := []) ok_Cd_opAt (Or.inl w_801) w_802 w_803 k_Cd d_Mc_workOut_12 rfl (aw_lt (o := 35) rfl) rfl rfl (Nat.le_of_ble_eq_true rfl) (Nat.le_refl _) (Nat.le_refl _) (h2 q2))))))
  · exact (s_Mc_workOut_2.go [some (.ref 4), some (.ref 40), none, some (.int v3), none] [.int (I 40 4), .int v3] (aw_s I L D) rfl (z_icmp_ge (tgt := 109) d_Mc_workOut_7 rfl (fun q1 => (s_Mc_workOut_109.go [some (.ref 4), some (.ref 40), none, some (.int v3), none] [.int (I 40 4)] (aw_s I L D) rfl (z_iret d_Mc_workOut_113 rfl rfl (h1 q1)))) (fun q2 => (s_Mc_workOut_10.go [some (.ref 4), some (.ref 40), none, some (.int v3), none] [.int v3, .ref 40] (aw_s I L D) rfl (z_callV (av := [.int v3]) (st := []) ok_Cd_opAt (Or.inl w_801) w_802 w_803 k_Cd d_Mc_workOut_12 rfl (aw_lt (o := 40) rfl) rfl rfl (Nat.le_of_ble_eq_true rfl) (Nat.le_refl _) (Nat.le_refl _) (h2 q2))))))
  · exact (s_Mc_workOut_2.go [some (.ref 4), some (.ref 45), none, some (.int v3), none] [.int (I 45 4), .int v3] (aw_s I L D) rfl (z_icmp_ge (tgt := 109) d_Mc_workOut_7 rfl (fun q1 => (s_Mc_workOut_109.go [some (.ref 4), some (.ref 45), none, some (.int v3), none] [.int (I 45 4)] (aw_s I L D) rfl (z_iret d_Mc_workOut_113 rfl rfl (h1 q1)))) (fun q2 => (s_Mc_workOut_10.go [some (.ref 4), some (.ref 45), none, some (.int v3), none] [.int v3, .ref 45] (aw_s I L D) rfl (z_callV (av := [.int v3]) (st := []) ok_Cd_opAt (Or.inl w_801) w_802 w_803 k_Cd d_Mc_workOut_12 rfl (aw_lt (o := 45) rfl) rfl rfl (Nat.le_of_ble_eq_true rfl) (Nat.le_refl _) (Nat.le_refl _) (h2 q2))))))
  · exact (s_Mc_workOut_2.go [some (.ref 4), some (.ref 50), none, some (.int v3), none] [.int (I 50 4), .int v3] (aw_s I L D) rfl (z_icmp_ge (tgt := 109) d_Mc_workOut_7 rfl (fun q1 => (s_Mc_workOut_109.go [some (.ref 4), some (.ref 50), none, some (.int v3), none] [.int (I 50 4)] (aw_s I L D) rfl (z_iret d_Mc_workOut_113 rfl rfl (h1 q1)))) (fun q2 => (s_Mc_workOut_10.go [some (.ref 4), some (.ref 50), none, some (.int v3), none] [.int v3, .ref 50] (aw_s I L D) rfl (z_callV (av := [.int v3]) (st := []) ok_Cd_opAt (Or.inl w_801) w_802 w_803 k_Cd d_Mc_workOut_12 rfl (aw_lt (o := 50) rfl) rfl rfl (Nat.le_of_ble_eq_true rfl) (Nat.le_refl _) (Nat.le_refl _) (h2 q2))))))
  · exact (s_Mc_workOut_2.go [some (.ref 4), some (.ref 55), none, some (.int v3), none] [.int (I 55 4), .int v3] (aw_s I L D) rfl (z_icmp_ge (tgt := 109) d_Mc_workOut_7 rfl (fun q1 => (s_Mc_workOut_109.go [some (.ref 4), some (.ref 55), none, some (.int v3), none] [.int (I 55 4)] (aw_s I L D) rfl (z_iret d_Mc_workOut_113 rfl rfl (h1 q1)))) (fun q2 => (s_Mc_workOut_10.go [some (.ref 4), some (.ref 55), none, some (.int v3), none] [.int v3, .ref 55] (aw_s I L D) rfl (z_callV (av := [.int v3]) (st := []) ok_Cd_opAt (Or.inl w_801) w_802 w_803 k_Cd d_Mc_workOut_12 rfl (aw_lt (o := 55) rfl) rfl rfl (Nat.le_of_ble_eq_true rfl) (Nat.le_refl _) (Nat.le_refl _) (h2 q2))))))
theorem d_Mc_workOut_15 : decode y_Mc_workOut.2.1 15 = .ok (.istore 4, 2) := by decide +kernel
theorem d_Mc_workOut_17 : decode y_Mc_workOut.2.1 17 = .ok (.iload 4, 2) := by decide +kernel
theorem d_Mc_workOut_19 : decode y_Mc_workOut.2.1 19 = .ok (.bipush 13, 2) := by decide +kernel
theorem s_Mc_workOut_15 : aw_VS y_Mc_workOut 15 [o_ist 4, o_ild 4, o_c (.int (13 : Int32))] 21 := .cons (v_istore d_Mc_workOut_15) (.cons (v_iload (i := 4) d_Mc_workOut_17) (.cons (v_bipush (v := (13 : Int32)) d_Mc_workOut_19 (by decide +kernel)) .nil))
theorem d_Mc_workOut_21 : decode y_Mc_workOut.2.1 21 = .ok (.if_icmp .le (5), 3) := by decide +kernel
theorem d_Mc_workOut_26 : decode y_Mc_workOut.2.1 26 = .ok (.iload 4, 2) := by decide +kernel
theorem d_Mc_workOut_28 : decode y_Mc_workOut.2.1 28 = .ok (.iconst 1, 1) := by decide +kernel
theorem s_Mc_workOut_26 : aw_VS y_Mc_workOut 26 [o_ild 4, o_c (.int (1 : Int32))] 29 := .cons (v_iload (i := 4) d_Mc_workOut_26) (.cons (v_iconst (v := (1 : Int32)) d_Mc_workOut_28 (by decide +kernel)) .nil)
theorem d_Mc_workOut_29 : decode y_Mc_workOut.2.1 29 = .ok (.if_icmp .ne (20), 3) := by decide +kernel
theorem d_Mc_workOut_49 : decode y_Mc_workOut.2.1 49 = .ok (.iload 4, 2) := by decide +kernel
theorem d_Mc_workOut_51 : decode y_Mc_workOut.2.1 51 = .ok (.iconst 2, 1) := by decide +kernel
theorem s_Mc_workOut_49 : aw_VS y_Mc_workOut 49 [o_ild 4, o_c (.int (2 : Int32))] 52 := .cons (v_iload (i := 4) d_Mc_workOut_49) (.cons (v_iconst (v := (2 : Int32)) d_Mc_workOut_51 (by decide +kernel)) .nil)
theorem d_Mc_workOut_52 : decode y_Mc_workOut.2.1 52 = .ok (.if_icmp .ne (22), 3) := by decide +kernel
theorem d_Mc_workOut_74 : decode y_Mc_workOut.2.1 74 = .ok (.iload 4, 2) := by decide +kernel
theorem d_Mc_workOut_76 : decode y_Mc_workOut.2.1 76 = .ok (.iconst 3, 1) := by decide +kernel
theorem s_Mc_workOut_74 : aw_VS y_Mc_workOut 74 [o_ild 4, o_c (.int (3 : Int32))] 77 := .cons (v_iload (i := 4) d_Mc_workOut_74) (.cons (v_iconst (v := (3 : Int32)) d_Mc_workOut_76 (by decide +kernel)) .nil)
theorem d_Mc_workOut_77 : decode y_Mc_workOut.2.1 77 = .ok (.if_icmp .ne (10), 3) := by decide +kernel
theorem d_Mc_workOut_87 : decode y_Mc_workOut.2.1 87 = .ok (.aload_n 0, 1) := by decide +kernel
theorem d_Mc_workOut_88 : decode y_Mc_workOut.2.1 88 = .ok (.iload 4, 2) := by decide +kernel
theorem s_Mc_workOut_87 : aw_VS y_Mc_workOut 87 [o_ald 0, o_ild 4] 90 := .cons (v_aload_n (i := 0) d_Mc_workOut_87 rfl) (.cons (v_iload (i := 4) d_Mc_workOut_88) .nil)
theorem d_Mc_workOut_90 : decode y_Mc_workOut.2.1 90 = .ok (.invokevirtual 142, 3) := by decide +kernel
theorem d_Mc_workOut_80 : decode y_Mc_workOut.2.1 80 = .ok (.aload_n 0, 1) := by decide +kernel
theorem s_Mc_workOut_80 : aw_VS y_Mc_workOut 80 [o_ald 0] 81 := .cons (v_aload_n (i := 0) d_Mc_workOut_80 rfl) .nil
theorem d_Mc_workOut_81 : decode y_Mc_workOut.2.1 81 = .ok (.invokevirtual 139, 3) := by decide +kernel
theorem d_Mc_workOut_55 : decode y_Mc_workOut.2.1 55 = .ok (.aload_n 0, 1) := by decide +kernel
theorem d_Mc_workOut_56 : decode y_Mc_workOut.2.1 56 = .ok (.aload_n 0, 1) := by decide +kernel
theorem d_Mc_workOut_57 : decode y_Mc_workOut.2.1 57 = .ok (.getfield 9, 3) := by decide +kernel
theorem d_Mc_workOut_60 : decode y_Mc_workOut.2.1 60 = .ok (.aload_n 1, 1) := by decide +kernel
theorem d_Mc_workOut_61 : decode y_Mc_workOut.2.1 61 = .ok (.iload_n 3, 1) := by decide +kernel
theorem s_Mc_workOut_55 : aw_VS y_Mc_workOut 55 [o_ald 0, o_ald 0, o_getA 3 1, o_ald 1, o_ild 3] 62 := .cons (v_aload_n (i := 0) d_Mc_workOut_55 rfl) (.cons (v_aload_n (i := 0) d_Mc_workOut_56 rfl) (.cons (v_getA (k := 1) k_Mc (by decide) rfl (Or.inl w_122) d_Mc_workOut_57) (.cons (v_aload_n (i := 1) d_Mc_workOut_60 rfl) (.cons (v_iload_n (i := 3) d_Mc_workOut_61 rfl) .nil))))
theorem d_Mc_workOut_62 : decode y_Mc_workOut.2.1 62 = .ok (.invokevirtual 133, 3) := by decide +kernel
theorem d_Mc_workOut_32 : decode y_Mc_workOut.2.1 32 = .ok (.aload_n 0, 1) := by decide +kernel
theorem d_Mc_workOut_33 : decode y_Mc_workOut.2.1 33 = .ok (.aload_n 1, 1) := by decide +kernel
theorem d_Mc_workOut_34 : decode y_Mc_workOut.2.1 34 = .ok (.iload_n 3, 1) := by decide +kernel
theorem s_Mc_workOut_32 : aw_VS y_Mc_workOut 32 [o_ald 0, o_ald 1, o_ild 3] 35 := .cons (v_aload_n (i := 0) d_Mc_workOut_32 rfl) (.cons (v_aload_n (i := 1) d_Mc_workOut_33 rfl) (.cons (v_iload_n (i := 3) d_Mc_workOut_34 rfl) .nil))
theorem d_Mc_workOut_35 : decode y_Mc_workOut.2.1 35 = .ok (.invokevirtual 133, 3) := by decide +kernel
theorem d_Mc_workOut_24 : decode y_Mc_workOut.2.1 24 = .ok (.iload_n 3, 1) := by decide +kernel
theorem s_Mc_workOut_24 : aw_VS y_Mc_workOut 24 [o_ild 3] 25 := .cons (v_iload_n (i := 3) d_Mc_workOut_24 rfl) .nil
theorem d_Mc_workOut_25 : decode y_Mc_workOut.2.1 25 = .ok (.ireturn, 1) := by decide +kernel
theorem b_Mc_workOut_15 {X : aw_X} {d : Nat} {Q : Option Value → aw_H → Prop} {I : Nat → Nat → Int32} {L : Nat → Nat → Int64} {D : Nat → Nat} {c1 : Nat} {v3 : Int32} {s0 : Int32} (hc1 : c1 ∈ aw_codes)
    (h1 : s0 ≤ (13 : Int32) → ¬ s0 = (1 : Int32) → ¬ s0 = (2 : Int32) → ¬ s0 = (3 : Int32) → aw_m X d y_Mc_operate [.ref 4, .int s0] (aw_s I L D) (fun r A => aw_z X (d + 1) y_Mc_workOut Q 93 [some (.ref 4), some (.ref c1), none, some (.int v3), none] (r.toList ++ []) A))
    (h2 : s0 ≤ (13 : Int32) → ¬ s0 = (1 : Int32) → ¬ s0 = (2 : Int32) → s0 = (3 : Int32) → aw_m X d y_Mc_readCell [.ref 4] (aw_s I L D) (fun r A => aw_z X (d + 1) y_Mc_workOut Q 84 [some (.ref 4), some (.ref c1), none, some (.int v3), none] (r.toList ++ []) A))
    (h3 : s0 ≤ (13 : Int32) → ¬ s0 = (1 : Int32) → s0 = (2 : Int32) → aw_m X d y_Cd_argAt [.ref c1, .int v3] (aw_s I L D) (fun r A => aw_z X (d + 1) y_Mc_workOut Q 65 [some (.ref 4), some (.ref c1), none, some (.int v3), none] (r.toList ++ [.ref 5, .ref 4]) A))
    (h4 : s0 ≤ (13 : Int32) → s0 = (1 : Int32) → aw_m X d y_Cd_argAt [.ref c1, .int v3] (aw_s I L D) (fun r A => aw_z X (d + 1) y_Mc_workOut Q 38 [some (.ref 4), some (.ref c1), none, some (.int v3), none] (r.toList ++ [.ref 4]) A))
    (h5 : ¬ s0 ≤ (13 : Int32) → Q (some (.int v3)) (aw_s I L D)) :
    aw_z X (d + 1) y_Mc_workOut Q 15 [some (.ref 4), some (.ref c1), none, some (.int v3), none] [.int s0] (aw_s I L D) := by
  simp only [aw_codes, List.mem_cons, List.not_mem_nil, or_false] at hc1
  rcases hc1 with rfl | rfl | rfl | rfl | rfl | rfl
  · exact (s_Mc_workOut_15.go [some (.ref 4), some (.ref 30), none, some (.int v3), some (.int s0)] [.int (13 : Int32), .int s0] (aw_s I L D) rfl (z_icmp_le (tgt := 26) d_Mc_workOut_21 rfl (fun q1 => (s_Mc_workOut_26.go [some (.ref 4), some (.ref 30), none, some (.int v3), some (.int s0)] [.int (1 : Int32), .int s0] (aw_s I L D) rfl (z_icmp_ne (tgt := 49) d_Mc_workOut_29 rfl (fun q3 => (s_Mc_workOut_49.go [some (.ref 4), some (.ref 30), none, some (.int v3), some (.int s0)] [.int (2 : Int32), .int s0] (aw_s I L D) rfl (z_icmp_ne (tgt := 74) d_Mc_workOut_52 rfl (fun q5 => (s_Mc_workOut_74.go [some (.ref 4), some (.ref 30), none, some (.int v3), some (.int s0)] [.int (3 : Int32), .int s0] (aw_s I L D) rfl (z_icmp_ne (tgt := 87) d_Mc_workOut_77 rfl (fun q7 => (s_Mc_workOut_87.go [some (.ref 4), some (.ref 30), none, some (.int v3), some (.int s0)] [.int s0, .ref 4] (aw_s I L D) rfl (z_callV (av := [.int s0]) (st := []) ok_Mc_operate (Or.inl w_828) w_830 w_33 k_Mc d_Mc_workOut_90 rfl (aw_lt (o := 4) rfl) rfl rfl (Nat.le_of_ble_eq_true rfl) (Nat.le_refl _) (Nat.le_refl _) (aw_C.mono (h1 q1 q3 q5 q7) (fun _ _ zz => aw_Z.weak (ls' := [some (.ref 4), some (.ref 30), none, some (.int v3), none]) zz (Nat.le_of_ble_eq_true rfl) ⟨Or.inr rfl, ⟨Or.inr rfl, ⟨Or.inl rfl, ⟨Or.inr rfl, ⟨Or.inl rfl, trivial⟩⟩⟩⟩⟩))))) (fun q8 => (s_Mc_workOut_80.go [some (.ref 4), some (.ref 30), none, some (.int v3), some (.int s0)] [.ref 4] (aw_s I L D) rfl (z_callV (av := []) (st := []) ok_Mc_readCell (Or.inl w_816) w_818 w_30 k_Mc d_Mc_workOut_81 rfl (aw_lt (o := 4) rfl) rfl rfl (Nat.le_of_ble_eq_true rfl) (Nat.le_refl _) (Nat.le_refl _) (aw_C.mono (h2 q1 q3 q5 q8) (fun _ _ zz => aw_Z.weak (ls' := [some (.ref 4), some (.ref 30), none, some (.int v3), none]) zz (Nat.le_of_ble_eq_true rfl) ⟨Or.inr rfl, ⟨Or.inr rfl, ⟨Or.inl rfl, ⟨Or.inr rfl, ⟨Or.inl rfl, trivial⟩⟩⟩⟩⟩)))))))) (fun q6 => (s_Mc_workOut_55.go [some (.ref 4), some (.ref 30), none, some (.int v3), some (.int s0)] [.int v3, .ref 30, .ref 5, .ref 4] (aw_s I L D) rfl (z_callV (av := [.int v3]) (st := [.ref 5, .ref 4]) ok_Cd_argAt (Or.inl w_805) w_806 w_807 k_Cd d_Mc_workOut_62 rfl (aw_lt (o := 30) rfl) rfl rfl (Nat.le_of_ble_eq_true rfl) (Nat.le_refl _) (Nat.le_refl _) (aw_C.mono (h3 q1 q3 q6) (fun _ _ zz => aw_Z.weak (ls' := [some (.ref 4), some (.ref 30), none, some (.int v3), none]) zz (Nat.le_of_ble_eq_true rfl) ⟨Or.inr rfl, ⟨Or.inr rfl, ⟨Or.inl rfl, ⟨Or.inr rfl, ⟨Or.inl rfl, trivial⟩⟩⟩⟩⟩)))))))) (fun q4 => (s_Mc_workOut_32.go [some (.ref 4), some (.ref 30), none, some (.int v3), some (.int s0)] [.int v3, .ref 30, .ref 4] (aw_s I L D) rfl (z_callV (av := [.int v3]) (st := [.ref 4]) ok_Cd_argAt (Or.inl w_805) w_806 w_807 k_Cd d_Mc_workOut_35 rfl (aw_lt (o := 30) rfl) rfl rfl (Nat.le_of_ble_eq_true rfl) (Nat.le_refl _) (Nat.le_refl _) (aw_C.mono (h4 q1 q4) (fun _ _ zz => aw_Z.weak (ls' := [some (.ref 4), some (.ref 30), none, some (.int v3), none]) zz (Nat.le_of_ble_eq_true rfl) ⟨Or.inr rfl, ⟨Or.inr rfl, ⟨Or.inl rfl, ⟨Or.inr rfl, ⟨Or.inl rfl, trivial⟩⟩⟩⟩⟩)))))))) (fun q2 => (s_Mc_workOut_24.go [some (.ref 4), some (.ref 30), none, some (.int v3), some (.int s0)] [.int v3] (aw_s I L D) rfl (z_iret d_Mc_workOut_25 rfl rfl (h5 q2))))))
  · exact (s_Mc_workOut_15.go [some (.ref 4), some (.ref 35), none, some (.int v3), some (.int s0)] [.int (13 : Int32), .int s0] (aw_s I L D) rfl (z_icmp_le (tgt := 26) d_Mc_workOut_21 rfl (fun q1 => (s_Mc_workOut_26.go [some (.ref 4), some (.ref 35), none, some (.int v3), some (.int s0)] [.int (1 : Int32), .int s0] (aw_s I L D) rfl (z_icmp_ne (tgt := 49) d_Mc_workOut_29 rfl (fun q3 => (s_Mc_workOut_49.go [some (.ref 4), some (.ref 35), none, some (.int v3), some (.int s0)] [.int (2 : Int32), .int s0] (aw_s I L D) rfl (z_icmp_ne (tgt := 74) d_Mc_workOut_52 rfl (fun q5 => (s_Mc_workOut_74.go [some (.ref 4), some (.ref 35), none, some (.int v3), some (.int s0)] [.int (3 : Int32), .int s0] (aw_s I L D) rfl (z_icmp_ne (tgt := 87) d_Mc_workOut_77 rfl (fun q7 => (s_Mc_workOut_87.go [some (.ref 4), some (.ref 35), none, some (.int v3), some (.int s0)] [.int s0, .ref 4] (aw_s I L D) rfl (z_callV (av := [.int s0]) (st := []) ok_Mc_operate (Or.inl w_828) w_830 w_33 k_Mc d_Mc_workOut_90 rfl (aw_lt (o := 4) rfl) rfl rfl (Nat.le_of_ble_eq_true rfl) (Nat.le_refl _) (Nat.le_refl _) (aw_C.mono (h1 q1 q3 q5 q7) (fun _ _ zz => aw_Z.weak (ls' := [some (.ref 4), some (.ref 35), none, some (.int v3), none]) zz (Nat.le_of_ble_eq_true rfl) ⟨Or.inr rfl, ⟨Or.inr rfl, ⟨Or.inl rfl, ⟨Or.inr rfl, ⟨Or.inl rfl, trivial⟩⟩⟩⟩⟩))))) (fun q8 => (s_Mc_workOut_80.go [some (.ref 4), some (.ref 35), none, some (.int v3), some (.int s0)] [.ref 4] (aw_s I L D) rfl (z_callV (av := []) (st := []) ok_Mc_readCell (Or.inl w_816) w_818 w_30 k_Mc d_Mc_workOut_81 rfl (aw_lt (o := 4) rfl) rfl rfl (Nat.le_of_ble_eq_true rfl) (Nat.le_refl _) (Nat.le_refl _) (aw_C.mono (h2 q1 q3 q5 q8) (fun _ _ zz => aw_Z.weak (ls' := [some (.ref 4), some (.ref 35), none, some (.int v3), none]) zz (Nat.le_of_ble_eq_true rfl) ⟨Or.inr rfl, ⟨Or.inr rfl, ⟨Or.inl rfl, ⟨Or.inr rfl, ⟨Or.inl rfl, trivial⟩⟩⟩⟩⟩)))))))) (fun q6 => (s_Mc_workOut_55.go [some (.ref 4), some (.ref 35), none, some (.int v3), some (.int s0)] [.int v3, .ref 35, .ref 5, .ref 4] (aw_s I L D) rfl (z_callV (av := [.int v3]) (st := [.ref 5, .ref 4]) ok_Cd_argAt (Or.inl w_805) w_806 w_807 k_Cd d_Mc_workOut_62 rfl (aw_lt (o := 35) rfl) rfl rfl (Nat.le_of_ble_eq_true rfl) (Nat.le_refl _) (Nat.le_refl _) (aw_C.mono (h3 q1 q3 q6) (fun _ _ zz => aw_Z.weak (ls' := [some (.ref 4), some (.ref 35), none, some (.int v3), none]) zz (Nat.le_of_ble_eq_true rfl) ⟨Or.inr rfl, ⟨Or.inr rfl, ⟨Or.inl rfl, ⟨Or.inr rfl, ⟨Or.inl rfl, trivial⟩⟩⟩⟩⟩)))))))) (fun q4 => (s_Mc_workOut_32.go [some (.ref 4), some (.ref 35), none, some (.int v3), some (.int s0)] [.int v3, .ref 35, .ref 4] (aw_s I L D) rfl (z_callV (av := [.int v3]) (st := [.ref 4]) ok_Cd_argAt (Or.inl w_805) w_806 w_807 k_Cd d_Mc_workOut_35 rfl (aw_lt (o := 35) rfl) rfl rfl (Nat.le_of_ble_eq_true rfl) (Nat.le_refl _) (Nat.le_refl _) (aw_C.mono (h4 q1 q4) (fun _ _ zz => aw_Z.weak (ls' := [some (.ref 4), some (.ref 35), none, some (.int v3), none]) zz (Nat.le_of_ble_eq_true rfl) ⟨Or.inr rfl, ⟨Or.inr rfl, ⟨Or.inl rfl, ⟨Or.inr rfl, ⟨Or.inl rfl, trivial⟩⟩⟩⟩⟩)))))))) (fun q2 => (s_Mc_workOut_24.go [some (.ref 4), some (.ref 35), none, some (.int v3), some (.int s0)] [.int v3] (aw_s I L D) rfl (z_iret d_Mc_workOut_25 rfl rfl (h5 q2))))))
  · exact (s_Mc_workOut_15.go [some (.ref 4), some (.ref 40), none, some (.int v3), some (.int s0)] [.int (13 : Int32), .int s0] (aw_s I L D) rfl (z_icmp_le (tgt := 26) d_Mc_workOut_21 rfl (fun q1 => (s_Mc_workOut_26.go [some (.ref 4), some (.ref 40), none, some (.int v3), some (.int s0)] [.int (1 : Int32), .int s0] (aw_s I L D) rfl (z_icmp_ne (tgt := 49) d_Mc_workOut_29 rfl (fun q3 => (s_Mc_workOut_49.go [some (.ref 4), some (.ref 40), none, some (.int v3), some (.int s0)] [.int (2 : Int32), .int s0] (aw_s I L D) rfl (z_icmp_ne (tgt := 74) d_Mc_workOut_52 rfl (fun q5 => (s_Mc_workOut_74.go [some (.ref 4), some (.ref 40), none, some (.int v3), some (.int s0)] [.int (3 : Int32), .int s0] (aw_s I L D) rfl (z_icmp_ne (tgt := 87) d_Mc_workOut_77 rfl (fun q7 => (s_Mc_workOut_87.go [some (.ref 4), some (.ref 40), none, some (.int v3), some (.int s0)] [.int s0, .ref 4] (aw_s I L D) rfl (z_callV (av := [.int s0]) (st := []) ok_Mc_operate (Or.inl w_828) w_830 w_33 k_Mc d_Mc_workOut_90 rfl (aw_lt (o := 4) rfl) rfl rfl (Nat.le_of_ble_eq_true rfl) (Nat.le_refl _) (Nat.le_refl _) (aw_C.mono (h1 q1 q3 q5 q7) (fun _ _ zz => aw_Z.weak (ls' := [some (.ref 4), some (.ref 40), none, some (.int v3), none]) zz (Nat.le_of_ble_eq_true rfl) ⟨Or.inr rfl, ⟨Or.inr rfl, ⟨Or.inl rfl, ⟨Or.inr rfl, ⟨Or.inl rfl, trivial⟩⟩⟩⟩⟩))))) (fun q8 => (s_Mc_workOut_80.go [some (.ref 4), some (.ref 40), none, some (.int v3), some (.int s0)] [.ref 4] (aw_s I L D) rfl (z_callV (av := []) (st := []) ok_Mc_readCell (Or.inl w_816) w_818 w_30 k_Mc d_Mc_workOut_81 rfl (aw_lt (o := 4) rfl) rfl rfl (Nat.le_of_ble_eq_true rfl) (Nat.le_refl _) (Nat.le_refl _) (aw_C.mono (h2 q1 q3 q5 q8) (fun _ _ zz => aw_Z.weak (ls' := [some (.ref 4), some (.ref 40), none, some (.int v3), none]) zz (Nat.le_of_ble_eq_true rfl) ⟨Or.inr rfl, ⟨Or.inr rfl, ⟨Or.inl rfl, ⟨Or.inr rfl, ⟨Or.inl rfl, trivial⟩⟩⟩⟩⟩)))))))) (fun q6 => (s_Mc_workOut_55.go [some (.ref 4), some (.ref 40), none, some (.int v3), some (.int s0)] [.int v3, .ref 40, .ref 5, .ref 4] (aw_s I L D) rfl (z_callV (av := [.int v3]) (st := [.ref 5, .ref 4]) ok_Cd_argAt (Or.inl w_805) w_806 w_807 k_Cd d_Mc_workOut_62 rfl (aw_lt (o := 40) rfl) rfl rfl (Nat.le_of_ble_eq_true rfl) (Nat.le_refl _) (Nat.le_refl _) (aw_C.mono (h3 q1 q3 q6) (fun _ _ zz => aw_Z.weak (ls' := [some (.ref 4), some (.ref 40), none, some (.int v3), none]) zz (Nat.le_of_ble_eq_true rfl) ⟨Or.inr rfl, ⟨Or.inr rfl, ⟨Or.inl rfl, ⟨Or.inr rfl, ⟨Or.inl rfl, trivial⟩⟩⟩⟩⟩)))))))) (fun q4 => (s_Mc_workOut_32.go [some (.ref 4), some (.ref 40), none, some (.int v3), some (.int s0)] [.int v3, .ref 40, .ref 4] (aw_s I L D) rfl (z_callV (av := [.int v3]) (st := [.ref 4]) ok_Cd_argAt (Or.inl w_805) w_806 w_807 k_Cd d_Mc_workOut_35 rfl (aw_lt (o := 40) rfl) rfl rfl (Nat.le_of_ble_eq_true rfl) (Nat.le_refl _) (Nat.le_refl _) (aw_C.mono (h4 q1 q4) (fun _ _ zz => aw_Z.weak (ls' := [some (.ref 4), some (.ref 40), none, some (.int v3), none]) zz (Nat.le_of_ble_eq_true rfl) ⟨Or.inr rfl, ⟨Or.inr rfl, ⟨Or.inl rfl, ⟨Or.inr rfl, ⟨Or.inl rfl, trivial⟩⟩⟩⟩⟩)))))))) (fun q2 => (s_Mc_workOut_24.go [some (.ref 4), some (.ref 40), none, some (.int v3), some (.int s0)] [.int v3] (aw_s I L D) rfl (z_iret d_Mc_workOut_25 rfl rfl (h5 q2))))))
  · exact (s_Mc_workOut_15.go [some (.ref 4), some (.ref 45), none, some (.int v3), some (.int s0)] [.int (13 : Int32), .int s0] (aw_s I L D) rfl (z_icmp_le (tgt := 26) d_Mc_workOut_21 rfl (fun q1 => (s_Mc_workOut_26.go [some (.ref 4), some (.ref 45), none, some (.int v3), some (.int s0)] [.int (1 : Int32), .int s0] (aw_s I L D) rfl (z_icmp_ne (tgt := 49) d_Mc_workOut_29 rfl (fun q3 => (s_Mc_workOut_49.go [some (.ref 4), some (.ref 45), none, some (.int v3), some (.int s0)] [.int (2 : Int32), .int s0] (aw_s I L D) rfl (z_icmp_ne (tgt := 74) d_Mc_workOut_52 rfl (fun q5 => (s_Mc_workOut_74.go [some (.ref 4), some (.ref 45), none, some (.int v3), some (.int s0)] [.int (3 : Int32), .int s0] (aw_s I L D) rfl (z_icmp_ne (tgt := 87) d_Mc_workOut_77 rfl (fun q7 => (s_Mc_workOut_87.go [some (.ref 4), some (.ref 45), none, some (.int v3), some (.int s0)] [.int s0, .ref 4] (aw_s I L D) rfl (z_callV (av := [.int s0]) (st := []) ok_Mc_operate (Or.inl w_828) w_830 w_33 k_Mc d_Mc_workOut_90 rfl (aw_lt (o := 4) rfl) rfl rfl (Nat.le_of_ble_eq_true rfl) (Nat.le_refl _) (Nat.le_refl _) (aw_C.mono (h1 q1 q3 q5 q7) (fun _ _ zz => aw_Z.weak (ls' := [some (.ref 4), some (.ref 45), none, some (.int v3), none]) zz (Nat.le_of_ble_eq_true rfl) ⟨Or.inr rfl, ⟨Or.inr rfl, ⟨Or.inl rfl, ⟨Or.inr rfl, ⟨Or.inl rfl, trivial⟩⟩⟩⟩⟩))))) (fun q8 => (s_Mc_workOut_80.go [some (.ref 4), some (.ref 45), none, some (.int v3), some (.int s0)] [.ref 4] (aw_s I L D) rfl (z_callV (av := []) (st := []) ok_Mc_readCell (Or.inl w_816) w_818 w_30 k_Mc d_Mc_workOut_81 rfl (aw_lt (o := 4) rfl) rfl rfl (Nat.le_of_ble_eq_true rfl) (Nat.le_refl _) (Nat.le_refl _) (aw_C.mono (h2 q1 q3 q5 q8) (fun _ _ zz => aw_Z.weak (ls' := [some (.ref 4), some (.ref 45), none, some (.int v3), none]) zz (Nat.le_of_ble_eq_true rfl) ⟨Or.inr rfl, ⟨Or.inr rfl, ⟨Or.inl rfl, ⟨Or.inr rfl, ⟨Or.inl rfl, trivial⟩⟩⟩⟩⟩)))))))) (fun q6 => (s_Mc_workOut_55.go [some (.ref 4), some (.ref 45), none, some (.int v3), some (.int s0)] [.int v3, .ref 45, .ref 5, .ref 4] (aw_s I L D) rfl (z_callV (av := [.int v3]) (st := [.ref 5, .ref 4]) ok_Cd_argAt (Or.inl w_805) w_806 w_807 k_Cd d_Mc_workOut_62 rfl (aw_lt (o := 45) rfl) rfl rfl (Nat.le_of_ble_eq_true rfl) (Nat.le_refl _) (Nat.le_refl _) (aw_C.mono (h3 q1 q3 q6) (fun _ _ zz => aw_Z.weak (ls' := [some (.ref 4), some (.ref 45), none, some (.int v3), none]) zz (Nat.le_of_ble_eq_true rfl) ⟨Or.inr rfl, ⟨Or.inr rfl, ⟨Or.inl rfl, ⟨Or.inr rfl, ⟨Or.inl rfl, trivial⟩⟩⟩⟩⟩)))))))) (fun q4 => (s_Mc_workOut_32.go [some (.ref 4), some (.ref 45), none, some (.int v3), some (.int s0)] [.int v3, .ref 45, .ref 4] (aw_s I L D) rfl (z_callV (av := [.int v3]) (st := [.ref 4]) ok_Cd_argAt (Or.inl w_805) w_806 w_807 k_Cd d_Mc_workOut_35 rfl (aw_lt (o := 45) rfl) rfl rfl (Nat.le_of_ble_eq_true rfl) (Nat.le_refl _) (Nat.le_refl _) (aw_C.mono (h4 q1 q4) (fun _ _ zz => aw_Z.weak (ls' := [some (.ref 4), some (.ref 45), none, some (.int v3), none]) zz (Nat.le_of_ble_eq_true rfl) ⟨Or.inr rfl, ⟨Or.inr rfl, ⟨Or.inl rfl, ⟨Or.inr rfl, ⟨Or.inl rfl, trivial⟩⟩⟩⟩⟩)))))))) (fun q2 => (s_Mc_workOut_24.go [some (.ref 4), some (.ref 45), none, some (.int v3), some (.int s0)] [.int v3] (aw_s I L D) rfl (z_iret d_Mc_workOut_25 rfl rfl (h5 q2))))))
  · exact (s_Mc_workOut_15.go [some (.ref 4), some (.ref 50), none, some (.int v3), some (.int s0)] [.int (13 : Int32), .int s0] (aw_s I L D) rfl (z_icmp_le (tgt := 26) d_Mc_workOut_21 rfl (fun q1 => (s_Mc_workOut_26.go [some (.ref 4), some (.ref 50), none, some (.int v3), some (.int s0)] [.int (1 : Int32), .int s0] (aw_s I L D) rfl (z_icmp_ne (tgt := 49) d_Mc_workOut_29 rfl (fun q3 => (s_Mc_workOut_49.go [some (.ref 4), some (.ref 50), none, some (.int v3), some (.int s0)] [.int (2 : Int32), .int s0] (aw_s I L D) rfl (z_icmp_ne (tgt := 74) d_Mc_workOut_52 rfl (fun q5 => (s_Mc_workOut_74.go [some (.ref 4), some (.ref 50), none, some (.int v3), some (.int s0)] [.int (3 : Int32), .int s0] (aw_s I L D) rfl (z_icmp_ne (tgt := 87) d_Mc_workOut_77 rfl (fun q7 => (s_Mc_workOut_87.go [some (.ref 4), some (.ref 50), none, some (.int v3), some (.int s0)] [.int s0, .ref 4] (aw_s I L D) rfl (z_callV (av := [.int s0]) (st := []) ok_Mc_operate (Or.inl w_828) w_830 w_33 k_Mc d_Mc_workOut_90 rfl (aw_lt (o := 4) rfl) rfl rfl (Nat.le_of_ble_eq_true rfl) (Nat.le_refl _) (Nat.le_refl _) (aw_C.mono (h1 q1 q3 q5 q7) (fun _ _ zz => aw_Z.weak (ls' := [some (.ref 4), some (.ref 50), none, some (.int v3), none]) zz (Nat.le_of_ble_eq_true rfl) ⟨Or.inr rfl, ⟨Or.inr rfl, ⟨Or.inl rfl, ⟨Or.inr rfl, ⟨Or.inl rfl, trivial⟩⟩⟩⟩⟩))))) (fun q8 => (s_Mc_workOut_80.go [some (.ref 4), some (.ref 50), none, some (.int v3), some (.int s0)] [.ref 4] (aw_s I L D) rfl (z_callV (av := []) (st := []) ok_Mc_readCell (Or.inl w_816) w_818 w_30 k_Mc d_Mc_workOut_81 rfl (aw_lt (o := 4) rfl) rfl rfl (Nat.le_of_ble_eq_true rfl) (Nat.le_refl _) (Nat.le_refl _) (aw_C.mono (h2 q1 q3 q5 q8) (fun _ _ zz => aw_Z.weak (ls' := [some (.ref 4), some (.ref 50), none, some (.int v3), none]) zz (Nat.le_of_ble_eq_true rfl) ⟨Or.inr rfl, ⟨Or.inr rfl, ⟨Or.inl rfl, ⟨Or.inr rfl, ⟨Or.inl rfl, trivial⟩⟩⟩⟩⟩)))))))) (fun q6 => (s_Mc_workOut_55.go [some (.ref 4), some (.ref 50), none, some (.int v3), some (.int s0)] [.int v3, .ref 50, .ref 5, .ref 4] (aw_s I L D) rfl (z_callV (av := [.int v3]) (st := [.ref 5, .ref 4]) ok_Cd_argAt (Or.inl w_805) w_806 w_807 k_Cd d_Mc_workOut_62 rfl (aw_lt (o := 50) rfl) rfl rfl (Nat.le_of_ble_eq_true rfl) (Nat.le_refl _) (Nat.le_refl _) (aw_C.mono (h3 q1 q3 q6) (fun _ _ zz => aw_Z.weak (ls' := [some (.ref 4), some (.ref 50), none, some (.int v3), none]) zz (Nat.le_of_ble_eq_true rfl) ⟨Or.inr rfl, ⟨Or.inr rfl, ⟨Or.inl rfl, ⟨Or.inr rfl, ⟨Or.inl rfl, trivial⟩⟩⟩⟩⟩)))))))) (fun q4 => (s_Mc_workOut_32.go [some (.ref 4), some (.ref 50), none, some (.int v3), some (.int s0)] [.int v3, .ref 50, .ref 4] (aw_s I L D) rfl (z_callV (av := [.int v3]) (st := [.ref 4]) ok_Cd_argAt (Or.inl w_805) w_806 w_807 k_Cd d_Mc_workOut_35 rfl (aw_lt (o := 50) rfl) rfl rfl (Nat.le_of_ble_eq_true rfl) (Nat.le_refl _) (Nat.le_refl _) (aw_C.mono (h4 q1 q4) (fun _ _ zz => aw_Z.weak (ls' := [some (.ref 4), some (.ref 50), none, some (.int v3), none]) zz (Nat.le_of_ble_eq_true rfl) ⟨Or.inr rfl, ⟨Or.inr rfl, ⟨Or.inl rfl, ⟨Or.inr rfl, ⟨Or.inl rfl, trivial⟩⟩⟩⟩⟩)))))))) (fun q2 => (s_Mc_workOut_24.go [some (.ref 4), some (.ref 50), none, some (.int v3), some (.int s0)] [.int v3] (aw_s I L D) rfl (z_iret d_Mc_workOut_25 rfl rfl (h5 q2))))))
  · exact (s_Mc_workOut_15.go [some (.ref 4), some (.ref 55), none, some (.int v3), some (.int s0)] [.int (13 : Int32), .int s0] (aw_s I L D) rfl (z_icmp_le (tgt := 26) d_Mc_workOut_21 rfl (fun q1 => (s_Mc_workOut_26.go [some (.ref 4), some (.ref 55), none, some (.int v3), some (.int s0)] [.int (1 : Int32), .int s0] (aw_s I L D) rfl (z_icmp_ne (tgt := 49) d_Mc_workOut_29 rfl (fun q3 => (s_Mc_workOut_49.go [some (.ref 4), some (.ref 55), none, some (.int v3), some (.int s0)] [.int (2 : Int32), .int s0] (aw_s I L D) rfl (z_icmp_ne (tgt := 74) d_Mc_workOut_52 rfl (fun q5 => (s_Mc_workOut_74.go [some (.ref 4), some (.ref 55), none, some (.int v3), some (.int s0)] [.int (3 : Int32), .int s0] (aw_s I L D) rfl (z_icmp_ne (tgt := 87) d_Mc_workOut_77 rfl (fun q7 => (s_Mc_workOut_87.go [some (.ref 4), some (.ref 55), none, some (.int v3), some (.int s0)] [.int s0, .ref 4] (aw_s I L D) rfl (z_callV (av := [.int s0]) (st := []) ok_Mc_operate (Or.inl w_828) w_830 w_33 k_Mc d_Mc_workOut_90 rfl (aw_lt (o := 4) rfl) rfl rfl (Nat.le_of_ble_eq_true rfl) (Nat.le_refl _) (Nat.le_refl _) (aw_C.mono (h1 q1 q3 q5 q7) (fun _ _ zz => aw_Z.weak (ls' := [some (.ref 4), some (.ref 55), none, some (.int v3), none]) zz (Nat.le_of_ble_eq_true rfl) ⟨Or.inr rfl, ⟨Or.inr rfl, ⟨Or.inl rfl, ⟨Or.inr rfl, ⟨Or.inl rfl, trivial⟩⟩⟩⟩⟩))))) (fun q8 => (s_Mc_workOut_80.go [some (.ref 4), some (.ref 55), none, some (.int v3), some (.int s0)] [.ref 4] (aw_s I L D) rfl (z_callV (av := []) (st := []) ok_Mc_readCell (Or.inl w_816) w_818 w_30 k_Mc d_Mc_workOut_81 rfl (aw_lt (o := 4) rfl) rfl rfl (Nat.le_of_ble_eq_true rfl) (Nat.le_refl _) (Nat.le_refl _) (aw_C.mono (h2 q1 q3 q5 q8) (fun _ _ zz => aw_Z.weak (ls' := [some (.ref 4), some (.ref 55), none, some (.int v3), none]) zz (Nat.le_of_ble_eq_true rfl) ⟨Or.inr rfl, ⟨Or.inr rfl, ⟨Or.inl rfl, ⟨Or.inr rfl, ⟨Or.inl rfl, trivial⟩⟩⟩⟩⟩)))))))) (fun q6 => (s_Mc_workOut_55.go [some (.ref 4), some (.ref 55), none, some (.int v3), some (.int s0)] [.int v3, .ref 55, .ref 5, .ref 4] (aw_s I L D) rfl (z_callV (av := [.int v3]) (st := [.ref 5, .ref 4]) ok_Cd_argAt (Or.inl w_805) w_806 w_807 k_Cd d_Mc_workOut_62 rfl (aw_lt (o := 55) rfl) rfl rfl (Nat.le_of_ble_eq_true rfl) (Nat.le_refl _) (Nat.le_refl _) (aw_C.mono (h3 q1 q3 q6) (fun _ _ zz => aw_Z.weak (ls' := [some (.ref 4), some (.ref 55), none, some (.int v3), none]) zz (Nat.le_of_ble_eq_true rfl) ⟨Or.inr rfl, ⟨Or.inr rfl, ⟨Or.inl rfl, ⟨Or.inr rfl, ⟨Or.inl rfl, trivial⟩⟩⟩⟩⟩)))))))) (fun q4 => (s_Mc_workOut_32.go [some (.ref 4), some (.ref 55), none, some (.int v3), some (.int s0)] [.int v3, .ref 55, .ref 4] (aw_s I L D) rfl (z_callV (av := [.int v3]) (st := [.ref 4]) ok_Cd_argAt (Or.inl w_805) w_806 w_807 k_Cd d_Mc_workOut_35 rfl (aw_lt (o := 55) rfl) rfl rfl (Nat.le_of_ble_eq_true rfl) (Nat.le_refl _) (Nat.le_refl _) (aw_C.mono (h4 q1 q4) (fun _ _ zz => aw_Z.weak (ls' := [some (.ref 4), some (.ref 55), none, some (.int v3), none]) zz (Nat.le_of_ble_eq_true rfl) ⟨Or.inr rfl, ⟨Or.inr rfl, ⟨Or.inl rfl, ⟨Or.inr rfl, ⟨Or.inl rfl, trivial⟩⟩⟩⟩⟩)))))))) (fun q2 => (s_Mc_workOut_24.go [some (.ref 4), some (.ref 55), none, some (.int v3), some (.int s0)] [.int v3] (aw_s I L D) rfl (z_iret d_Mc_workOut_25 rfl rfl (h5 q2))))))
theorem d_Mc_workOut_93 : decode y_Mc_workOut.2.1 93 = .ok (.aload_n 0, 1) := by decide +kernel
theorem d_Mc_workOut_94 : decode y_Mc_workOut.2.1 94 = .ok (.getfield 56, 3) := by decide +kernel
theorem d_Mc_workOut_97 : decode y_Mc_workOut.2.1 97 = .ok (.iconst (-1), 1) := by decide +kernel
theorem s_Mc_workOut_93 : aw_VS y_Mc_workOut 93 [o_ald 0, o_getI 3 15, o_c (.int (-1 : Int32))] 98 := .cons (v_aload_n (i := 0) d_Mc_workOut_93 rfl) (.cons (v_getI (k := 15) k_Mc (by decide) (Or.inl rfl) (Or.inl w_141) d_Mc_workOut_94) (.cons (v_iconst (v := (-1 : Int32)) d_Mc_workOut_97 (by decide +kernel)) .nil))
theorem d_Mc_workOut_98 : decode y_Mc_workOut.2.1 98 = .ok (.if_icmp .eq (5), 3) := by decide +kernel
theorem d_Mc_workOut_103 : decode y_Mc_workOut.2.1 103 = .ok (.iinc 3 (1), 3) := by decide +kernel
theorem s_Mc_workOut_103 : aw_VS y_Mc_workOut 103 [o_inc 3 (1 : Int32)] 106 := .cons (v_iinc (k0 := (1 : Int32)) d_Mc_workOut_103 (by decide +kernel)) .nil
theorem d_Mc_workOut_106 : decode y_Mc_workOut.2.1 106 = .ok (.goto (-104), 3) := by decide +kernel
theorem d_Mc_workOut_101 : decode y_Mc_workOut.2.1 101 = .ok (.iload_n 3, 1) := by decide +kernel
theorem s_Mc_workOut_101 : aw_VS y_Mc_workOut 101 [o_ild 3] 102 := .cons (v_iload_n (i := 3) d_Mc_workOut_101 rfl) .nil
theorem d_Mc_workOut_102 : decode y_Mc_workOut.2.1 102 = .ok (.ireturn, 1) := by decide +kernel
theorem b_Mc_workOut_93 {X : aw_X} {d : Nat} {Q : Option Value → aw_H → Prop} {I : Nat → Nat → Int32} {L : Nat → Nat → Int64} {D : Nat → Nat} {c1 : Nat} {v3 : Int32}
    (h1 : (I 4 15) = (-1 : Int32) → aw_z X (d + 1) y_Mc_workOut Q 2 [some (.ref 4), some (.ref c1), none, some (.int (v3 + (1 : Int32))), none] [] (aw_s I L D))
    (h2 : ¬ (I 4 15) = (-1 : Int32) → Q (some (.int v3)) (aw_s I L D)) :
    aw_z X (d + 1) y_Mc_workOut Q 93 [some (.ref 4), some (.ref c1), none, some (.int v3), none] [] (aw_s I L D) :=
  (s_Mc_workOut_93.go [some (.ref 4), some (.ref c1), none, some (.int v3), none] [.int (-1 : Int32), .int (I 4 15)] (aw_s I L D) rfl (z_icmp_eq (tgt := 103) d_Mc_workOut_98 rfl (fun q1 => (s_Mc_workOut_103.go [some (.ref 4), some (.ref c1), none, some (.int (v3 + (1 : Int32))), none] [] (aw_s I L D) rfl (z_goto (tgt := 2) d_Mc_workOut_106 rfl (h1 q1)))) (fun q2 => (s_Mc_workOut_101.go [some (.ref 4), some (.ref c1), none, some (.int v3), none] [.int v3] (aw_s I L D) rfl (z_iret d_Mc_workOut_102 rfl rfl (h2 q2))))))
theorem d_Mc_workOut_84 : decode y_Mc_workOut.2.1 84 = .ok (.goto (9), 3) := by decide +kernel
theorem b_Mc_workOut_84 {X : aw_X} {d : Nat} {Q : Option Value → aw_H → Prop} {I : Nat → Nat → Int32} {L : Nat → Nat → Int64} {D : Nat → Nat} {c1 : Nat} {v3 : Int32}
    (h1 : aw_z X (d + 1) y_Mc_workOut Q 93 [some (.ref 4), some (.ref c1), none, some (.int v3), none] [] (aw_s I L D)) :
    aw_z X (d + 1) y_Mc_workOut Q 84 [some (.ref 4), some (.ref c1), none, some (.int v3), none] [] (aw_s I L D) :=
  (z_goto (tgt := 93) d_Mc_workOut_84 rfl (h1))
theorem d_Mc_workOut_65 : decode y_Mc_workOut.2.1 65 = .ok (.invokestatic 74, 3) := by decide +kernel
theorem b_Mc_workOut_65 {X : aw_X} {d : Nat} {Q : Option Value → aw_H → Prop} {I : Nat → Nat → Int32} {L : Nat → Nat → Int64} {D : Nat → Nat} {c1 : Nat} {v3 : Int32} {s2 : Int32}
    (h1 : aw_m X d y_AW_valueAt_aII [.ref 5, .int s2] (aw_s I L D) (fun r A => aw_z X (d + 1) y_Mc_workOut Q 68 [some (.ref 4), some (.ref c1), none, some (.int v3), none] (r.toList ++ [.ref 4]) A)) :
    aw_z X (d + 1) y_Mc_workOut Q 65 [some (.ref 4), some (.ref c1), none, some (.int v3), none] [.int s2, .ref 5, .ref 4] (aw_s I L D) :=
  (z_callS (av := [.ref 5, .int s2]) (st := [.ref 4]) ok_AW_valueAt_aII (Or.inr ⟨"AllWays", w_813⟩) w_814 d_Mc_workOut_65 rfl rfl (Nat.le_of_ble_eq_true rfl) (Nat.le_refl _) (Nat.le_refl _) (h1))
theorem d_Mc_workOut_38 : decode y_Mc_workOut.2.1 38 = .ok (.aload_n 0, 1) := by decide +kernel
theorem d_Mc_workOut_39 : decode y_Mc_workOut.2.1 39 = .ok (.getfield 94, 3) := by decide +kernel
theorem d_Mc_workOut_42 : decode y_Mc_workOut.2.1 42 = .ok (.iand, 1) := by decide +kernel
theorem s_Mc_workOut_38 : aw_VS y_Mc_workOut 38 [o_ald 0, o_getI 3 7, o_i2 (fun x z => x &&& z)] 43 := .cons (v_aload_n (i := 0) d_Mc_workOut_38 rfl) (.cons (v_getI (k := 7) k_Mc (by decide) (Or.inl rfl) (Or.inl w_130) d_Mc_workOut_39) (.cons (v_iand d_Mc_workOut_42) .nil))
theorem d_Mc_workOut_43 : decode y_Mc_workOut.2.1 43 = .ok (.invokevirtual 136, 3) := by decide +kernel
theorem b_Mc_workOut_38 {X : aw_X} {d : Nat} {Q : Option Value → aw_H → Prop} {I : Nat → Nat → Int32} {L : Nat → Nat → Int64} {D : Nat → Nat} {c1 : Nat} {v3 : Int32} {s1 : Int32}
    (h1 : aw_m X d y_Mc_push [.ref 4, .int (s1 &&& (I 4 7))] (aw_s I L D) (fun r A => aw_z X (d + 1) y_Mc_workOut Q 46 [some (.ref 4), some (.ref c1), none, some (.int v3), none] (r.toList ++ []) A)) :
    aw_z X (d + 1) y_Mc_workOut Q 38 [some (.ref 4), some (.ref c1), none, some (.int v3), none] [.int s1, .ref 4] (aw_s I L D) :=
  (s_Mc_workOut_38.go [some (.ref 4), some (.ref c1), none, some (.int v3), none] [.int (s1 &&& (I 4 7)), .ref 4] (aw_s I L D) rfl (z_callV (av := [.int (s1 &&& (I 4 7))]) (st := []) ok_Mc_push (Or.inl w_809) w_811 w_29 k_Mc d_Mc_workOut_43 rfl (aw_lt (o := 4) rfl) rfl rfl (Nat.le_of_ble_eq_true rfl) (Nat.le_refl _) (Nat.le_refl _) (h1)))
theorem d_Mc_workOut_68 : decode y_Mc_workOut.2.1 68 = .ok (.invokevirtual 136, 3) := by decide +kernel
theorem b_Mc_workOut_68 {X : aw_X} {d : Nat} {Q : Option Value → aw_H → Prop} {I : Nat → Nat → Int32} {L : Nat → Nat → Int64} {D : Nat → Nat} {c1 : Nat} {v3 : Int32} {s1 : Int32}
    (h1 : aw_m X d y_Mc_push [.ref 4, .int s1] (aw_s I L D) (fun r A => aw_z X (d + 1) y_Mc_workOut Q 71 [some (.ref 4), some (.ref c1), none, some (.int v3), none] (r.toList ++ []) A)) :
    aw_z X (d + 1) y_Mc_workOut Q 68 [some (.ref 4), some (.ref c1), none, some (.int v3), none] [.int s1, .ref 4] (aw_s I L D) :=
  (z_callV (av := [.int s1]) (st := []) ok_Mc_push (Or.inl w_809) w_811 w_29 k_Mc d_Mc_workOut_68 rfl (aw_lt (o := 4) rfl) rfl rfl (Nat.le_of_ble_eq_true rfl) (Nat.le_refl _) (Nat.le_refl _) (h1))
theorem d_Mc_workOut_46 : decode y_Mc_workOut.2.1 46 = .ok (.goto (47), 3) := by decide +kernel
theorem b_Mc_workOut_46 {X : aw_X} {d : Nat} {Q : Option Value → aw_H → Prop} {I : Nat → Nat → Int32} {L : Nat → Nat → Int64} {D : Nat → Nat} {c1 : Nat} {v3 : Int32}
    (h1 : aw_z X (d + 1) y_Mc_workOut Q 93 [some (.ref 4), some (.ref c1), none, some (.int v3), none] [] (aw_s I L D)) :
    aw_z X (d + 1) y_Mc_workOut Q 46 [some (.ref 4), some (.ref c1), none, some (.int v3), none] [] (aw_s I L D) :=
  (z_goto (tgt := 93) d_Mc_workOut_46 rfl (h1))
theorem d_Mc_workOut_71 : decode y_Mc_workOut.2.1 71 = .ok (.goto (22), 3) := by decide +kernel
theorem b_Mc_workOut_71 {X : aw_X} {d : Nat} {Q : Option Value → aw_H → Prop} {I : Nat → Nat → Int32} {L : Nat → Nat → Int64} {D : Nat → Nat} {c1 : Nat} {v3 : Int32}
    (h1 : aw_z X (d + 1) y_Mc_workOut Q 93 [some (.ref 4), some (.ref c1), none, some (.int v3), none] [] (aw_s I L D)) :
    aw_z X (d + 1) y_Mc_workOut Q 71 [some (.ref 4), some (.ref c1), none, some (.int v3), none] [] (aw_s I L D) :=
  (z_goto (tgt := 93) d_Mc_workOut_71 rfl (h1))
/-! Mc_push -/
theorem d_Mc_push_0 : decode y_Mc_push.2.1 0 = .ok (.aload_n 0, 1) := by decide +kernel
theorem d_Mc_push_1 : decode y_Mc_push.2.1 1 = .ok (.getfield 105, 3) := by decide +kernel
theorem s_Mc_push_0 : aw_VS y_Mc_push 0 [o_ald 0, o_getI 3 4] 4 := .cons (v_aload_n (i := 0) d_Mc_push_0 rfl) (.cons (v_getI (k := 4) k_Mc (by decide) (Or.inl rfl) (Or.inl w_127) d_Mc_push_1) .nil)
theorem d_Mc_push_4 : decode y_Mc_push.2.1 4 = .ok (.ifCond .lt (35), 3) := by decide +kernel
theorem d_Mc_push_39 : decode y_Mc_push.2.1 39 = .ok (.return_, 1) := by decide +kernel
theorem d_Mc_push_7 : decode y_Mc_push.2.1 7 = .ok (.aload_n 0, 1) := by decide +kernel
theorem d_Mc_push_8 : decode y_Mc_push.2.1 8 = .ok (.getfield 105, 3) := by decide +kernel
theorem d_Mc_push_11 : decode y_Mc_push.2.1 11 = .ok (.aload_n 0, 1) := by decide +kernel
theorem d_Mc_push_12 : decode y_Mc_push.2.1 12 = .ok (.getfield 18, 3) := by decide +kernel
theorem d_Mc_push_15 : decode y_Mc_push.2.1 15 = .ok (.arraylength, 1) := by decide +kernel
theorem s_Mc_push_7 : aw_VS y_Mc_push 7 [o_ald 0, o_getI 3 4, o_ald 0, o_getA 3 3, o_alen] 16 := .cons (v_aload_n (i := 0) d_Mc_push_7 rfl) (.cons (v_getI (k := 4) k_Mc (by decide) (Or.inl rfl) (Or.inl w_127) d_Mc_push_8) (.cons (v_aload_n (i := 0) d_Mc_push_11 rfl) (.cons (v_getA (k := 3) k_Mc (by decide) rfl (Or.inl w_126) d_Mc_push_12) (.cons (v_alen d_Mc_push_15) .nil))))
theorem d_Mc_push_16 : decode y_Mc_push.2.1 16 = .ok (.if_icmp .ge (23), 3) := by decide +kernel
theorem d_Mc_push_19 : decode y_Mc_push.2.1 19 = .ok (.aload_n 0, 1) := by decide +kernel
theorem d_Mc_push_20 : decode y_Mc_push.2.1 20 = .ok (.getfield 18, 3) := by decide +kernel
theorem d_Mc_push_23 : decode y_Mc_push.2.1 23 = .ok (.aload_n 0, 1) := by decide +kernel
theorem d_Mc_push_24 : decode y_Mc_push.2.1 24 = .ok (.getfield 105, 3) := by decide +kernel
theorem d_Mc_push_27 : decode y_Mc_push.2.1 27 = .ok (.iload_n 1, 1) := by decide +kernel
theorem s_Mc_push_19 : aw_VS y_Mc_push 19 [o_ald 0, o_getA 3 3, o_ald 0, o_getI 3 4, o_ild 1] 28 := .cons (v_aload_n (i := 0) d_Mc_push_19 rfl) (.cons (v_getA (k := 3) k_Mc (by decide) rfl (Or.inl w_126) d_Mc_push_20) (.cons (v_aload_n (i := 0) d_Mc_push_23 rfl) (.cons (v_getI (k := 4) k_Mc (by decide) (Or.inl rfl) (Or.inl w_127) d_Mc_push_24) (.cons (v_iload_n (i := 1) d_Mc_push_27 rfl) .nil))))
theorem d_Mc_push_28 : decode y_Mc_push.2.1 28 = .ok (.iastore, 1) := by decide +kernel
theorem d_Mc_push_29 : decode y_Mc_push.2.1 29 = .ok (.aload_n 0, 1) := by decide +kernel
theorem d_Mc_push_30 : decode y_Mc_push.2.1 30 = .ok (.dup, 1) := by decide +kernel
theorem d_Mc_push_31 : decode y_Mc_push.2.1 31 = .ok (.getfield 105, 3) := by decide +kernel
theorem d_Mc_push_34 : decode y_Mc_push.2.1 34 = .ok (.iconst 1, 1) := by decide +kernel
theorem d_Mc_push_35 : decode y_Mc_push.2.1 35 = .ok (.iadd, 1) := by decide +kernel
theorem d_Mc_push_36 : decode y_Mc_push.2.1 36 = .ok (.putfield 105, 3) := by decide +kernel
theorem s_Mc_push_29 : aw_VS y_Mc_push 29 [o_ald 0, o_dup, o_getI 3 4, o_c (.int (1 : Int32)), o_i2 (fun x z => x + z), o_putI 3 4] 39 := .cons (v_aload_n (i := 0) d_Mc_push_29 rfl) (.cons (v_dup d_Mc_push_30) (.cons (v_getI (k := 4) k_Mc (by decide) (Or.inl rfl) (Or.inl w_127) d_Mc_push_31) (.cons (v_iconst (v := (1 : Int32)) d_Mc_push_34 (by decide +kernel)) (.cons (v_iadd d_Mc_push_35) (.cons (v_putI (k := 4) k_Mc (by decide) rfl (Or.inl ⟨rfl, Or.inl w_127⟩) d_Mc_push_36) .nil)))))
theorem b_Mc_push_0 {X : aw_X} {d : Nat} {Q : Option Value → aw_H → Prop} {I : Nat → Nat → Int32} {L : Nat → Nat → Int64} {D : Nat → Nat} {v1 : Int32}
    (h1 : (I 4 4) < 0 → Q none (aw_s I L D))
    (h2 : ¬ (I 4 4) < 0 → (64 : Int32) ≤ (I 4 4) → Q none (aw_s I L D))
    (h3 : ¬ (I 4 4) < 0 → ¬ (64 : Int32) ≤ (I 4 4) → vp_in (I 4 4) 64)
    (h4 : ¬ (I 4 4) < 0 → ¬ (64 : Int32) ≤ (I 4 4) → Q none (aw_s (aw_u (aw_u I 7 ((I 4 4).toNatClampNeg) v1) 4 4 ((I 4 4) + (1 : Int32))) L D)) :
    aw_z X d y_Mc_push Q 0 [some (.ref 4), some (.int v1)] [] (aw_s I L D) :=
  (s_Mc_push_0.go [some (.ref 4), some (.int v1)] [.int (I 4 4)] (aw_s I L D) rfl (z_if_lt (tgt := 39) d_Mc_push_4 rfl (fun q1 => (z_vret d_Mc_push_39 rfl (h1 q1))) (fun q2 => (s_Mc_push_7.go [some (.ref 4), some (.int v1)] [.int (64 : Int32), .int (I 4 4)] (aw_s I L D) rfl (z_icmp_ge (tgt := 39) d_Mc_push_16 rfl (fun q3 => (z_vret d_Mc_push_39 rfl (h2 q2 q3))) (fun q4 => (s_Mc_push_19.go [some (.ref 4), some (.int v1)] [.int v1, .int (I 4 4), .ref 7] (aw_s I L D) rfl (z_iast (n := 64) rfl (aw_lt (o := 7) rfl) (h3 q2 q4) d_Mc_push_28 (s_Mc_push_29.go [some (.ref 4), some (.int v1)] [] (aw_s (aw_u (aw_u I 7 ((I 4 4).toNatClampNeg) v1) 4 4 ((I 4 4) + (1 : Int32))) L D) rfl (z_vret d_Mc_push_39 rfl (h4 q2 q4)))))))))))
/-! Mc_readCell -/
theorem d_Mc_readCell_0 : decode y_Mc_readCell.2.1 0 = .ok (.aload_n 0, 1) := by decide +kernel
theorem s_Mc_readCell_0 : aw_VS y_Mc_readCell 0 [o_ald 0] 1 := .cons (v_aload_n (i := 0) d_Mc_readCell_0 rfl) .nil
theorem d_Mc_readCell_1 : decode y_Mc_readCell.2.1 1 = .ok (.invokevirtual 85, 3) := by decide +kernel
theorem b_Mc_readCell_0 {X : aw_X} {d : Nat} {Q : Option Value → aw_H → Prop} {I : Nat → Nat → Int32} {L : Nat → Nat → Int64} {D : Nat → Nat} 
    (h1 : aw_m X d y_Mc_pop [.ref 4] (aw_s I L D) (fun r A => aw_z X (d + 1) y_Mc_readCell Q 4 [some (.ref 4), none] (r.toList ++ []) A)) :
    aw_z X (d + 1) y_Mc_readCell Q 0 [some (.ref 4), none] [] (aw_s I L D) :=
  (s_Mc_readCell_0.go [some (.ref 4), none] [.ref 4] (aw_s I L D) rfl (z_callV (av := []) (st := []) ok_Mc_pop (Or.inl w_820) w_822 w_31 k_Mc d_Mc_readCell_1 rfl (aw_lt (o := 4) rfl) rfl rfl (Nat.le_of_ble_eq_true rfl) (Nat.le_refl _) (Nat.le_refl _) (h1)))
theorem d_Mc_readCell_4 : decode y_Mc_readCell.2.1 4 = .ok (.istore_n 1, 1) := by decide +kernel
theorem d_Mc_readCell_5 : decode y_Mc_readCell.2.1 5 = .ok (.iload_n 1, 1) := by decide +kernel
theorem s_Mc_readCell_4 : aw_VS y_Mc_readCell 4 [o_ist 1, o_ild 1] 6 := .cons (v_istore_n d_Mc_readCell_4) (.cons (v_iload_n (i := 1) d_Mc_readCell_5 rfl) .nil)
theorem d_Mc_readCell_6 : decode y_Mc_readCell.2.1 6 = .ok (.ifCond .lt (12), 3) := by decide +kernel
theorem d_Mc_readCell_9 : decode y_Mc_readCell.2.1 9 = .ok (.iload_n 1, 1) := by decide +kernel
theorem d_Mc_readCell_10 : decode y_Mc_readCell.2.1 10 = .ok (.aload_n 0, 1) := by decide +kernel
theorem d_Mc_readCell_11 : decode y_Mc_readCell.2.1 11 = .ok (.getfield 15, 3) := by decide +kernel
theorem d_Mc_readCell_14 : decode y_Mc_readCell.2.1 14 = .ok (.arraylength, 1) := by decide +kernel
theorem s_Mc_readCell_9 : aw_VS y_Mc_readCell 9 [o_ild 1, o_ald 0, o_getA 3 2, o_alen] 15 := .cons (v_iload_n (i := 1) d_Mc_readCell_9 rfl) (.cons (v_aload_n (i := 0) d_Mc_readCell_10 rfl) (.cons (v_getA (k := 2) k_Mc (by decide) rfl (Or.inl w_124) d_Mc_readCell_11) (.cons (v_alen d_Mc_readCell_14) .nil)))
theorem d_Mc_readCell_15 : decode y_Mc_readCell.2.1 15 = .ok (.if_icmp .lt (15), 3) := by decide +kernel
theorem d_Mc_readCell_30 : decode y_Mc_readCell.2.1 30 = .ok (.aload_n 0, 1) := by decide +kernel
theorem d_Mc_readCell_31 : decode y_Mc_readCell.2.1 31 = .ok (.aload_n 0, 1) := by decide +kernel
theorem d_Mc_readCell_32 : decode y_Mc_readCell.2.1 32 = .ok (.getfield 15, 3) := by decide +kernel
theorem d_Mc_readCell_35 : decode y_Mc_readCell.2.1 35 = .ok (.iload_n 1, 1) := by decide +kernel
theorem s_Mc_readCell_30 : aw_VS y_Mc_readCell 30 [o_ald 0, o_ald 0, o_getA 3 2, o_ild 1] 36 := .cons (v_aload_n (i := 0) d_Mc_readCell_30 rfl) (.cons (v_aload_n (i := 0) d_Mc_readCell_31 rfl) (.cons (v_getA (k := 2) k_Mc (by decide) rfl (Or.inl w_124) d_Mc_readCell_32) (.cons (v_iload_n (i := 1) d_Mc_readCell_35 rfl) .nil)))
theorem d_Mc_readCell_36 : decode y_Mc_readCell.2.1 36 = .ok (.iaload, 1) := by decide +kernel
theorem d_Mc_readCell_37 : decode y_Mc_readCell.2.1 37 = .ok (.invokevirtual 136, 3) := by decide +kernel
theorem b_Mc_readCell_4 {X : aw_X} {d : Nat} {Q : Option Value → aw_H → Prop} {I : Nat → Nat → Int32} {L : Nat → Nat → Int64} {D : Nat → Nat} {s0 : Int32}
    (h1 : s0 < 0 → aw_z X (d + 1) y_Mc_readCell Q 18 [some (.ref 4), none] [] (aw_s I L D))
    (h2 : ¬ s0 < 0 → s0 < (8 : Int32) → vp_in s0 8)
    (h3 : ¬ s0 < 0 → s0 < (8 : Int32) → aw_m X d y_Mc_push [.ref 4, .int (I 6 s0.toNatClampNeg)] (aw_s I L D) (fun r A => aw_z X (d + 1) y_Mc_readCell Q 40 [none, none] (r.toList ++ []) A))
    (h4 : ¬ s0 < 0 → ¬ s0 < (8 : Int32) → aw_z X (d + 1) y_Mc_readCell Q 18 [some (.ref 4), none] [] (aw_s I L D)) :
    aw_z X (d + 1) y_Mc_readCell Q 4 [some (.ref 4), none] [.int s0] (aw_s I L D) :=
  (s_Mc_readCell_4.go [some (.ref 4), some (.int s0)] [.int s0] (aw_s I L D) rfl (z_if_lt (tgt := 18) d_Mc_readCell_6 rfl (fun q1 => (aw_Z.weak (ls' := [some (.ref 4), none]) (h1 q1) (Nat.le_of_ble_eq_true rfl) ⟨Or.inr rfl, ⟨Or.inl rfl, trivial⟩⟩)) (fun q2 => (s_Mc_readCell_9.go [some (.ref 4), some (.int s0)] [.int (8 : Int32), .int s0] (aw_s I L D) rfl (z_icmp_lt (tgt := 30) d_Mc_readCell_15 rfl (fun q3 => (s_Mc_readCell_30.go [some (.ref 4), some (.int s0)] [.int s0, .ref 6, .ref 4] (aw_s I L D) rfl (z_iald (n := 8) rfl (aw_lt (o := 6) rfl) (h2 q2 q3) d_Mc_readCell_36 (z_callV (av := [.int (I 6 s0.toNatClampNeg)]) (st := []) ok_Mc_push (Or.inl w_809) w_811 w_29 k_Mc d_Mc_readCell_37 rfl (aw_lt (o := 4) rfl) rfl rfl (Nat.le_of_ble_eq_true rfl) (Nat.le_refl _) (Nat.le_refl _) (aw_C.mono (h3 q2 q3) (fun _ _ zz => aw_Z.weak (ls' := [none, none]) zz (Nat.le_of_ble_eq_true rfl) ⟨Or.inl rfl, ⟨Or.inl rfl, trivial⟩⟩)))))) (fun q4 => (aw_Z.weak (ls' := [some (.ref 4), none]) (h4 q2 q4) (Nat.le_of_ble_eq_true rfl) ⟨Or.inr rfl, ⟨Or.inl rfl, trivial⟩⟩)))))))
theorem d_Mc_readCell_18 : decode y_Mc_readCell.2.1 18 = .ok (.aload_n 0, 1) := by decide +kernel
theorem d_Mc_readCell_19 : decode y_Mc_readCell.2.1 19 = .ok (.iconst 3, 1) := by decide +kernel
theorem d_Mc_readCell_20 : decode y_Mc_readCell.2.1 20 = .ok (.aload_n 0, 1) := by decide +kernel
theorem d_Mc_readCell_21 : decode y_Mc_readCell.2.1 21 = .ok (.getfield 111, 3) := by decide +kernel
theorem s_Mc_readCell_18 : aw_VS y_Mc_readCell 18 [o_ald 0, o_c (.int (3 : Int32)), o_ald 0, o_getI 3 11] 24 := .cons (v_aload_n (i := 0) d_Mc_readCell_18 rfl) (.cons (v_iconst (v := (3 : Int32)) d_Mc_readCell_19 (by decide +kernel)) (.cons (v_aload_n (i := 0) d_Mc_readCell_20 rfl) (.cons (v_getI (k := 11) k_Mc (by decide) (Or.inl rfl) (Or.inl w_134) d_Mc_readCell_21) .nil)))
theorem d_Mc_readCell_24 : decode y_Mc_readCell.2.1 24 = .ok (.invokevirtual 145, 3) := by decide +kernel
theorem b_Mc_readCell_18 {X : aw_X} {d : Nat} {Q : Option Value → aw_H → Prop} {I : Nat → Nat → Int32} {L : Nat → Nat → Int64} {D : Nat → Nat} 
    (h1 : aw_m X d y_Mc_finish [.ref 4, .int (3 : Int32), .int (I 4 11)] (aw_s I L D) (fun r A => aw_z X (d + 1) y_Mc_readCell Q 27 [none, none] (r.toList ++ []) A)) :
    aw_z X (d + 1) y_Mc_readCell Q 18 [some (.ref 4), none] [] (aw_s I L D) :=
  (s_Mc_readCell_18.go [some (.ref 4), none] [.int (I 4 11), .int (3 : Int32), .ref 4] (aw_s I L D) rfl (z_callV (av := [.int (3 : Int32), .int (I 4 11)]) (st := []) ok_Mc_finish (Or.inl w_824) w_826 w_32 k_Mc d_Mc_readCell_24 rfl (aw_lt (o := 4) rfl) rfl rfl (Nat.le_of_ble_eq_true rfl) (Nat.le_refl _) (Nat.le_refl _) (aw_C.mono (h1) (fun _ _ zz => aw_Z.weak (ls' := [none, none]) zz (Nat.le_of_ble_eq_true rfl) ⟨Or.inl rfl, ⟨Or.inl rfl, trivial⟩⟩))))
theorem d_Mc_readCell_40 : decode y_Mc_readCell.2.1 40 = .ok (.return_, 1) := by decide +kernel
theorem b_Mc_readCell_40 {X : aw_X} {d : Nat} {Q : Option Value → aw_H → Prop} {I : Nat → Nat → Int32} {L : Nat → Nat → Int64} {D : Nat → Nat} 
    (h1 : Q none (aw_s I L D)) :
    aw_z X (d + 1) y_Mc_readCell Q 40 [none, none] [] (aw_s I L D) :=
  (z_vret d_Mc_readCell_40 rfl (h1))
theorem d_Mc_readCell_27 : decode y_Mc_readCell.2.1 27 = .ok (.goto (13), 3) := by decide +kernel
theorem b_Mc_readCell_27 {X : aw_X} {d : Nat} {Q : Option Value → aw_H → Prop} {I : Nat → Nat → Int32} {L : Nat → Nat → Int64} {D : Nat → Nat} 
    (h1 : aw_z X (d + 1) y_Mc_readCell Q 40 [none, none] [] (aw_s I L D)) :
    aw_z X (d + 1) y_Mc_readCell Q 27 [none, none] [] (aw_s I L D) :=
  (z_goto (tgt := 40) d_Mc_readCell_27 rfl (h1))
/-! Mc_pop -/
theorem d_Mc_pop_0 : decode y_Mc_pop.2.1 0 = .ok (.aload_n 0, 1) := by decide +kernel
theorem d_Mc_pop_1 : decode y_Mc_pop.2.1 1 = .ok (.getfield 105, 3) := by decide +kernel
theorem s_Mc_pop_0 : aw_VS y_Mc_pop 0 [o_ald 0, o_getI 3 4] 4 := .cons (v_aload_n (i := 0) d_Mc_pop_0 rfl) (.cons (v_getI (k := 4) k_Mc (by decide) (Or.inl rfl) (Or.inl w_127) d_Mc_pop_1) .nil)
theorem d_Mc_pop_4 : decode y_Mc_pop.2.1 4 = .ok (.ifCond .le (15), 3) := by decide +kernel
theorem d_Mc_pop_19 : decode y_Mc_pop.2.1 19 = .ok (.iconst 0, 1) := by decide +kernel
theorem s_Mc_pop_19 : aw_VS y_Mc_pop 19 [o_c (.int (0 : Int32))] 20 := .cons (v_iconst (v := (0 : Int32)) d_Mc_pop_19 (by decide +kernel)) .nil
theorem d_Mc_pop_20 : decode y_Mc_pop.2.1 20 = .ok (.ireturn, 1) := by decide +kernel
theorem d_Mc_pop_7 : decode y_Mc_pop.2.1 7 = .ok (.aload_n 0, 1) := by decide +kernel
theorem d_Mc_pop_8 : decode y_Mc_pop.2.1 8 = .ok (.getfield 105, 3) := by decide +kernel
theorem d_Mc_pop_11 : decode y_Mc_pop.2.1 11 = .ok (.aload_n 0, 1) := by decide +kernel
theorem d_Mc_pop_12 : decode y_Mc_pop.2.1 12 = .ok (.getfield 18, 3) := by decide +kernel
theorem d_Mc_pop_15 : decode y_Mc_pop.2.1 15 = .ok (.arraylength, 1) := by decide +kernel
theorem s_Mc_pop_7 : aw_VS y_Mc_pop 7 [o_ald 0, o_getI 3 4, o_ald 0, o_getA 3 3, o_alen] 16 := .cons (v_aload_n (i := 0) d_Mc_pop_7 rfl) (.cons (v_getI (k := 4) k_Mc (by decide) (Or.inl rfl) (Or.inl w_127) d_Mc_pop_8) (.cons (v_aload_n (i := 0) d_Mc_pop_11 rfl) (.cons (v_getA (k := 3) k_Mc (by decide) rfl (Or.inl w_126) d_Mc_pop_12) (.cons (v_alen d_Mc_pop_15) .nil))))
theorem d_Mc_pop_16 : decode y_Mc_pop.2.1 16 = .ok (.if_icmp .le (5), 3) := by decide +kernel
theorem d_Mc_pop_21 : decode y_Mc_pop.2.1 21 = .ok (.aload_n 0, 1) := by decide +kernel
theorem d_Mc_pop_22 : decode y_Mc_pop.2.1 22 = .ok (.dup, 1) := by decide +kernel
theorem d_Mc_pop_23 : decode y_Mc_pop.2.1 23 = .ok (.getfield 105, 3) := by decide +kernel
theorem d_Mc_pop_26 : decode y_Mc_pop.2.1 26 = .ok (.iconst 1, 1) := by decide +kernel
theorem d_Mc_pop_27 : decode y_Mc_pop.2.1 27 = .ok (.isub, 1) := by decide +kernel
theorem d_Mc_pop_28 : decode y_Mc_pop.2.1 28 = .ok (.putfield 105, 3) := by decide +kernel
theorem d_Mc_pop_31 : decode y_Mc_pop.2.1 31 = .ok (.aload_n 0, 1) := by decide +kernel
theorem d_Mc_pop_32 : decode y_Mc_pop.2.1 32 = .ok (.getfield 18, 3) := by decide +kernel
theorem d_Mc_pop_35 : decode y_Mc_pop.2.1 35 = .ok (.aload_n 0, 1) := by decide +kernel
theorem d_Mc_pop_36 : decode y_Mc_pop.2.1 36 = .ok (.getfield 105, 3) := by decide +kernel
theorem s_Mc_pop_21 : aw_VS y_Mc_pop 21 [o_ald 0, o_dup, o_getI 3 4, o_c (.int (1 : Int32)), o_i2 (fun x z => x - z), o_putI 3 4, o_ald 0, o_getA 3 3, o_ald 0, o_getI 3 4] 39 := .cons (v_aload_n (i := 0) d_Mc_pop_21 rfl) (.cons (v_dup d_Mc_pop_22) (.cons (v_getI (k := 4) k_Mc (by decide) (Or.inl rfl) (Or.inl w_127) d_Mc_pop_23) (.cons (v_iconst (v := (1 : Int32)) d_Mc_pop_26 (by decide +kernel)) (.cons (v_isub d_Mc_pop_27) (.cons (v_putI (k := 4) k_Mc (by decide) rfl (Or.inl ⟨rfl, Or.inl w_127⟩) d_Mc_pop_28) (.cons (v_aload_n (i := 0) d_Mc_pop_31 rfl) (.cons (v_getA (k := 3) k_Mc (by decide) rfl (Or.inl w_126) d_Mc_pop_32) (.cons (v_aload_n (i := 0) d_Mc_pop_35 rfl) (.cons (v_getI (k := 4) k_Mc (by decide) (Or.inl rfl) (Or.inl w_127) d_Mc_pop_36) .nil)))))))))
theorem d_Mc_pop_39 : decode y_Mc_pop.2.1 39 = .ok (.iaload, 1) := by decide +kernel
theorem d_Mc_pop_40 : decode y_Mc_pop.2.1 40 = .ok (.ireturn, 1) := by decide +kernel
theorem b_Mc_pop_0 {X : aw_X} {d : Nat} {Q : Option Value → aw_H → Prop} {I : Nat → Nat → Int32} {L : Nat → Nat → Int64} {D : Nat → Nat} 
    (h1 : (I 4 4) ≤ 0 → Q (some (.int (0 : Int32))) (aw_s I L D))
    (h2 : ¬ (I 4 4) ≤ 0 → (I 4 4) ≤ (64 : Int32) → vp_in ((I 4 4) - (1 : Int32)) 64)
    (h3 : ¬ (I 4 4) ≤ 0 → (I 4 4) ≤ (64 : Int32) → Q (some (.int (I 7 (((I 4 4) - (1 : Int32)).toNatClampNeg)))) (aw_s (aw_u I 4 4 ((I 4 4) - (1 : Int32))) L D))
    (h4 : ¬ (I 4 4) ≤ 0 → ¬ (I 4 4) ≤ (64 : Int32) → Q (some (.int (0 : Int32))) (aw_s I L D)) :
    aw_z X d y_Mc_pop Q 0 [some (.ref 4)] [] (aw_s I L D) :=
  (s_Mc_pop_0.go [some (.ref 4)] [.int (I 4 4)] (aw_s I L D) rfl (z_if_le (tgt := 19) d_Mc_pop_4 rfl (fun q1 => (s_Mc_pop_19.go [some (.ref 4)] [.int (0 : Int32)] (aw_s I L D) rfl (z_iret d_Mc_pop_20 rfl rfl (h1 q1)))) (fun q2 => (s_Mc_pop_7.go [some (.ref 4)] [.int (64 : Int32), .int (I 4 4)] (aw_s I L D) rfl (z_icmp_le (tgt := 21) d_Mc_pop_16 rfl (fun q3 => (s_Mc_pop_21.go [some (.ref 4)] [.int ((I 4 4) - (1 : Int32)), .ref 7] (aw_s (aw_u I 4 4 ((I 4 4) - (1 : Int32))) L D) rfl (z_iald (n := 64) rfl (aw_lt (o := 7) rfl) (h2 q2 q3) d_Mc_pop_39 (z_iret d_Mc_pop_40 rfl rfl (h3 q2 q3))))) (fun q4 => (s_Mc_pop_19.go [some (.ref 4)] [.int (0 : Int32)] (aw_s I L D) rfl (z_iret d_Mc_pop_20 rfl rfl (h4 q2 q4)))))))))
/-! Mc_finish -/
theorem d_Mc_finish_0 : decode y_Mc_finish.2.1 0 = .ok (.aload_n 0, 1) := by decide +kernel
theorem d_Mc_finish_1 : decode y_Mc_finish.2.1 1 = .ok (.iload_n 1, 1) := by decide +kernel
theorem d_Mc_finish_2 : decode y_Mc_finish.2.1 2 = .ok (.putfield 56, 3) := by decide +kernel
theorem d_Mc_finish_5 : decode y_Mc_finish.2.1 5 = .ok (.aload_n 0, 1) := by decide +kernel
theorem d_Mc_finish_6 : decode y_Mc_finish.2.1 6 = .ok (.iload_n 2, 1) := by decide +kernel
theorem d_Mc_finish_7 : decode y_Mc_finish.2.1 7 = .ok (.putfield 124, 3) := by decide +kernel
theorem s_Mc_finish_0 : aw_VS y_Mc_finish 0 [o_ald 0, o_ild 1, o_putI 3 15, o_ald 0, o_ild 2, o_putI 3 16] 10 := .cons (v_aload_n (i := 0) d_Mc_finish_0 rfl) (.cons (v_iload_n (i := 1) d_Mc_finish_1 rfl) (.cons (v_putI (k := 15) k_Mc (by decide) rfl (Or.inl ⟨rfl, Or.inl w_141⟩) d_Mc_finish_2) (.cons (v_aload_n (i := 0) d_Mc_finish_5 rfl) (.cons (v_iload_n (i := 2) d_Mc_finish_6 rfl) (.cons (v_putI (k := 16) k_Mc (by decide) rfl (Or.inl ⟨rfl, Or.inl w_145⟩) d_Mc_finish_7) .nil)))))
theorem d_Mc_finish_10 : decode y_Mc_finish.2.1 10 = .ok (.return_, 1) := by decide +kernel
theorem b_Mc_finish_0 {X : aw_X} {d : Nat} {Q : Option Value → aw_H → Prop} {I : Nat → Nat → Int32} {L : Nat → Nat → Int64} {D : Nat → Nat} {v1 : Int32} {v2 : Int32}
    (h1 : Q none (aw_s (aw_u (aw_u I 4 15 v1) 4 16 v2) L D)) :
    aw_z X d y_Mc_finish Q 0 [some (.ref 4), some (.int v1), some (.int v2)] [] (aw_s I L D) :=
  (s_Mc_finish_0.go [some (.ref 4), some (.int v1), some (.int v2)] [] (aw_s (aw_u (aw_u I 4 15 v1) 4 16 v2) L D) rfl (z_vret d_Mc_finish_10 rfl (h1)))
/-! Mc_operate -/
theorem d_Mc_operate_0 : decode y_Mc_operate.2.1 0 = .ok (.aload_n 0, 1) := by decide +kernel
theorem s_Mc_operate_0 : aw_VS y_Mc_operate 0 [o_ald 0] 1 := .cons (v_aload_n (i := 0) d_Mc_operate_0 rfl) .nil
theorem d_Mc_operate_1 : decode y_Mc_operate.2.1 1 = .ok (.invokevirtual 85, 3) := by decide +kernel
theorem b_Mc_operate_0 {X : aw_X} {d : Nat} {Q : Option Value → aw_H → Prop} {I : Nat → Nat → Int32} {L : Nat → Nat → Int64} {D : Nat → Nat} {v1 : Int32}
    (h1 : aw_m X d y_Mc_pop [.ref 4] (aw_s I L D) (fun r A => aw_z X (d + 1) y_Mc_operate Q 4 [some (.ref 4), some (.int v1), none, none] (r.toList ++ []) A)) :
    aw_z X (d + 1) y_Mc_operate Q 0 [some (.ref 4), some (.int v1), none, none] [] (aw_s I L D) :=
  (s_Mc_operate_0.go [some (.ref 4), some (.int v1), none, none] [.ref 4] (aw_s I L D) rfl (z_callV (av := []) (st := []) ok_Mc_pop (Or.inl w_820) w_822 w_31 k_Mc d_Mc_operate_1 rfl (aw_lt (o := 4) rfl) rfl rfl (Nat.le_of_ble_eq_true rfl) (Nat.le_refl _) (Nat.le_refl _) (h1)))
theorem d_Mc_operate_4 : decode y_Mc_operate.2.1 4 = .ok (.istore_n 2, 1) := by decide +kernel
theorem d_Mc_operate_5 : decode y_Mc_operate.2.1 5 = .ok (.aload_n 0, 1) := by decide +kernel
theorem s_Mc_operate_4 : aw_VS y_Mc_operate 4 [o_ist 2, o_ald 0] 6 := .cons (v_istore_n d_Mc_operate_4) (.cons (v_aload_n (i := 0) d_Mc_operate_5 rfl) .nil)
theorem d_Mc_operate_6 : decode y_Mc_operate.2.1 6 = .ok (.invokevirtual 85, 3) := by decide +kernel
theorem b_Mc_operate_4 {X : aw_X} {d : Nat} {Q : Option Value → aw_H → Prop} {I : Nat → Nat → Int32} {L : Nat → Nat → Int64} {D : Nat → Nat} {v1 : Int32} {s0 : Int32}
    (h1 : aw_m X d y_Mc_pop [.ref 4] (aw_s I L D) (fun r A => aw_z X (d + 1) y_Mc_operate Q 9 [some (.ref 4), some (.int v1), some (.int s0), none] (r.toList ++ []) A)) :
    aw_z X (d + 1) y_Mc_operate Q 4 [some (.ref 4), some (.int v1), none, none] [.int s0] (aw_s I L D) :=
  (s_Mc_operate_4.go [some (.ref 4), some (.int v1), some (.int s0), none] [.ref 4] (aw_s I L D) rfl (z_callV (av := []) (st := []) ok_Mc_pop (Or.inl w_820) w_822 w_31 k_Mc d_Mc_operate_6 rfl (aw_lt (o := 4) rfl) rfl rfl (Nat.le_of_ble_eq_true rfl) (Nat.le_refl _) (Nat.le_refl _) (h1)))
theorem d_Mc_operate_9 : decode y_Mc_operate.2.1 9 = .ok (.istore_n 3, 1) := by decide +kernel
theorem d_Mc_operate_10 : decode y_Mc_operate.2.1 10 = .ok (.iload_n 1, 1) := by decide +kernel
theorem d_Mc_operate_11 : decode y_Mc_operate.2.1 11 = .ok (.bipush 7, 2) := by decide +kernel
theorem s_Mc_operate_9 : aw_VS y_Mc_operate 9 [o_ist 3, o_ild 1, o_c (.int (7 : Int32))] 13 := .cons (v_istore_n d_Mc_operate_9) (.cons (v_iload_n (i := 1) d_Mc_operate_10 rfl) (.cons (v_bipush (v := (7 : Int32)) d_Mc_operate_11 (by decide +kernel)) .nil))
theorem d_Mc_operate_13 : decode y_Mc_operate.2.1 13 = .ok (.if_icmp .ne (29), 3) := by decide +kernel
theorem d_Mc_operate_42 : decode y_Mc_operate.2.1 42 = .ok (.iload_n 1, 1) := by decide +kernel
theorem d_Mc_operate_43 : decode y_Mc_operate.2.1 43 = .ok (.bipush 6, 2) := by decide +kernel
theorem s_Mc_operate_42 : aw_VS y_Mc_operate 42 [o_ild 1, o_c (.int (6 : Int32))] 45 := .cons (v_iload_n (i := 1) d_Mc_operate_42 rfl) (.cons (v_bipush (v := (6 : Int32)) d_Mc_operate_43 (by decide +kernel)) .nil)
theorem d_Mc_operate_45 : decode y_Mc_operate.2.1 45 = .ok (.if_icmp .gt (21), 3) := by decide +kernel
theorem d_Mc_operate_66 : decode y_Mc_operate.2.1 66 = .ok (.aload_n 0, 1) := by decide +kernel
theorem d_Mc_operate_67 : decode y_Mc_operate.2.1 67 = .ok (.iload_n 1, 1) := by decide +kernel
theorem d_Mc_operate_68 : decode y_Mc_operate.2.1 68 = .ok (.iload_n 3, 1) := by decide +kernel
theorem d_Mc_operate_69 : decode y_Mc_operate.2.1 69 = .ok (.iload_n 2, 1) := by decide +kernel
theorem s_Mc_operate_66 : aw_VS y_Mc_operate 66 [o_ald 0, o_ild 1, o_ild 3, o_ild 2] 70 := .cons (v_aload_n (i := 0) d_Mc_operate_66 rfl) (.cons (v_iload_n (i := 1) d_Mc_operate_67 rfl) (.cons (v_iload_n (i := 3) d_Mc_operate_68 rfl) (.cons (v_iload_n (i := 2) d_Mc_operate_69 rfl) .nil)))
theorem d_Mc_operate_70 : decode y_Mc_operate.2.1 70 = .ok (.invokestatic 153, 3) := by decide +kernel
theorem d_Mc_operate_48 : decode y_Mc_operate.2.1 48 = .ok (.aload_n 0, 1) := by decide +kernel
theorem d_Mc_operate_49 : decode y_Mc_operate.2.1 49 = .ok (.iload_n 1, 1) := by decide +kernel
theorem d_Mc_operate_50 : decode y_Mc_operate.2.1 50 = .ok (.iload_n 3, 1) := by decide +kernel
theorem d_Mc_operate_51 : decode y_Mc_operate.2.1 51 = .ok (.iload_n 2, 1) := by decide +kernel
theorem s_Mc_operate_48 : aw_VS y_Mc_operate 48 [o_ald 0, o_ild 1, o_ild 3, o_ild 2] 52 := .cons (v_aload_n (i := 0) d_Mc_operate_48 rfl) (.cons (v_iload_n (i := 1) d_Mc_operate_49 rfl) (.cons (v_iload_n (i := 3) d_Mc_operate_50 rfl) (.cons (v_iload_n (i := 2) d_Mc_operate_51 rfl) .nil)))
theorem d_Mc_operate_52 : decode y_Mc_operate.2.1 52 = .ok (.invokestatic 149, 3) := by decide +kernel
theorem d_Mc_operate_16 : decode y_Mc_operate.2.1 16 = .ok (.iload_n 2, 1) := by decide +kernel
theorem s_Mc_operate_16 : aw_VS y_Mc_operate 16 [o_ild 2] 17 := .cons (v_iload_n (i := 2) d_Mc_operate_16 rfl) .nil
theorem d_Mc_operate_17 : decode y_Mc_operate.2.1 17 = .ok (.ifCond .ne (15), 3) := by decide +kernel
theorem d_Mc_operate_32 : decode y_Mc_operate.2.1 32 = .ok (.aload_n 0, 1) := by decide +kernel
theorem d_Mc_operate_33 : decode y_Mc_operate.2.1 33 = .ok (.iload_n 3, 1) := by decide +kernel
theorem d_Mc_operate_34 : decode y_Mc_operate.2.1 34 = .ok (.iload_n 2, 1) := by decide +kernel
theorem s_Mc_operate_32 : aw_VS y_Mc_operate 32 [o_ald 0, o_ild 3, o_ild 2] 35 := .cons (v_aload_n (i := 0) d_Mc_operate_32 rfl) (.cons (v_iload_n (i := 3) d_Mc_operate_33 rfl) (.cons (v_iload_n (i := 2) d_Mc_operate_34 rfl) .nil))
theorem d_Mc_operate_35 : decode y_Mc_operate.2.1 35 = .ok (.idiv, 1) := by decide +kernel
theorem d_Mc_operate_36 : decode y_Mc_operate.2.1 36 = .ok (.invokevirtual 136, 3) := by decide +kernel
theorem d_Mc_operate_20 : decode y_Mc_operate.2.1 20 = .ok (.aload_n 0, 1) := by decide +kernel
theorem d_Mc_operate_21 : decode y_Mc_operate.2.1 21 = .ok (.iconst 2, 1) := by decide +kernel
theorem d_Mc_operate_22 : decode y_Mc_operate.2.1 22 = .ok (.aload_n 0, 1) := by decide +kernel
theorem d_Mc_operate_23 : decode y_Mc_operate.2.1 23 = .ok (.getfield 111, 3) := by decide +kernel
theorem s_Mc_operate_20 : aw_VS y_Mc_operate 20 [o_ald 0, o_c (.int (2 : Int32)), o_ald 0, o_getI 3 11] 26 := .cons (v_aload_n (i := 0) d_Mc_operate_20 rfl) (.cons (v_iconst (v := (2 : Int32)) d_Mc_operate_21 (by decide +kernel)) (.cons (v_aload_n (i := 0) d_Mc_operate_22 rfl) (.cons (v_getI (k := 11) k_Mc (by decide) (Or.inl rfl) (Or.inl w_134) d_Mc_operate_23) .nil)))
theorem d_Mc_operate_26 : decode y_Mc_operate.2.1 26 = .ok (.invokevirtual 145, 3) := by decide +kernel
theorem b_Mc_operate_9 {X : aw_X} {d : Nat} {Q : Option Value → aw_H → Prop} {I : Nat → Nat → Int32} {L : Nat → Nat → Int64} {D : Nat → Nat} {v1 : Int32} {v2 : Int32} {s0 : Int32}
    (h1 : ¬ v1 = (7 : Int32) → (6 : Int32) < v1 → aw_m X d y_Mc_isTrue [.int v1, .int s0, .int v2] (aw_s I L D) (fun r A => aw_z X (d + 1) y_Mc_operate Q 73 [none, none, none, none] (r.toList ++ [.ref 4]) A))
    (h2 : ¬ v1 = (7 : Int32) → ¬ (6 : Int32) < v1 → aw_m X d y_Mc_calculated [.int v1, .int s0, .int v2] (aw_s I L D) (fun r A => aw_z X (d + 1) y_Mc_operate Q 55 [some (.ref 4), none, none, none] (r.toList ++ [.ref 4]) A))
    (h3 : v1 = (7 : Int32) → ¬ v2 = 0 → ¬ v2 = 0)
    (h4 : v1 = (7 : Int32) → ¬ v2 = 0 → aw_m X d y_Mc_push [.ref 4, .int (s0 / v2)] (aw_s I L D) (fun r A => aw_z X (d + 1) y_Mc_operate Q 39 [none, none, none, none] (r.toList ++ []) A))
    (h5 : v1 = (7 : Int32) → v2 = 0 → aw_m X d y_Mc_finish [.ref 4, .int (2 : Int32), .int (I 4 11)] (aw_s I L D) (fun r A => aw_z X (d + 1) y_Mc_operate Q 29 [none, none, none, none] (r.toList ++ []) A)) :
    aw_z X (d + 1) y_Mc_operate Q 9 [some (.ref 4), some (.int v1), some (.int v2), none] [.int s0] (aw_s I L D) :=
  (s_Mc_operate_9.go [some (.ref 4), some (.int v1), some (.int v2), some (.int s0)] [.int (7 : Int32), .int v1] (aw_s I L D) rfl (z_icmp_ne (tgt := 42) d_Mc_operate_13 rfl (fun q1 => (s_Mc_operate_42.go [some (.ref 4), some (.int v1), some (.int v2), some (.int s0)] [.int (6 : Int32), .int v1] (aw_s I L D) rfl (z_icmp_gt (tgt := 66) d_Mc_operate_45 rfl (fun q3 => (s_Mc_operate_66.go [some (.ref 4), some (.int v1), some (.int v2), some (.int s0)] [.int v2, .int s0, .int v1, .ref 4] (aw_s I L D) rfl (z_callS (av := [.int v1, .int s0, .int v2]) (st := [.ref 4]) ok_Mc_isTrue (Or.inl w_835) w_836 d_Mc_operate_70 rfl rfl (Nat.le_of_ble_eq_true rfl) (Nat.le_refl _) (Nat.le_refl _) (aw_C.mono (h1 q1 q3) (fun _ _ zz => aw_Z.weak (ls' := [none, none, none, none]) zz (Nat.le_of_ble_eq_true rfl) ⟨Or.inl rfl, ⟨Or.inl rfl, ⟨Or.inl rfl, ⟨Or.inl rfl, trivial⟩⟩⟩⟩))))) (fun q4 => (s_Mc_operate_48.go [some (.ref 4), some (.int v1), some (.int v2), some (.int s0)] [.int v2, .int s0, .int v1, .ref 4] (aw_s I L D) rfl (z_callS (av := [.int v1, .int s0, .int v2]) (st := [.ref 4]) ok_Mc_calculated (Or.inl w_832) w_833 d_Mc_operate_52 rfl rfl (Nat.le_of_ble_eq_true rfl) (Nat.le_refl _) (Nat.le_refl _) (aw_C.mono (h2 q1 q4) (fun _ _ zz => aw_Z.weak (ls' := [some (.ref 4), none, none, none]) zz (Nat.le_of_ble_eq_true rfl) ⟨Or.inr rfl, ⟨Or.inl rfl, ⟨Or.inl rfl, ⟨Or.inl rfl, trivial⟩⟩⟩⟩)))))))) (fun q2 => (s_Mc_operate_16.go [some (.ref 4), some (.int v1), some (.int v2), some (.int s0)] [.int v2] (aw_s I L D) rfl (z_if_ne (tgt := 32) d_Mc_operate_17 rfl (fun q5 => (s_Mc_operate_32.go [some (.ref 4), some (.int v1), some (.int v2), some (.int s0)] [.int v2, .int s0, .ref 4] (aw_s I L D) rfl (z_idiv d_Mc_operate_35 (h3 q2 q5) (z_callV (av := [.int (s0 / v2)]) (st := []) ok_Mc_push (Or.inl w_809) w_811 w_29 k_Mc d_Mc_operate_36 rfl (aw_lt (o := 4) rfl) rfl rfl (Nat.le_of_ble_eq_true rfl) (Nat.le_refl _) (Nat.le_refl _) (aw_C.mono (h4 q2 q5) (fun _ _ zz => aw_Z.weak (ls' := [none, none, none, none]) zz (Nat.le_of_ble_eq_true rfl) ⟨Or.inl rfl, ⟨Or.inl rfl, ⟨Or.inl rfl, ⟨Or.inl rfl, trivial⟩⟩⟩⟩)))))) (fun q6 => (s_Mc_operate_20.go [some (.ref 4), some (.int v1), some (.int v2), some (.int s0)] [.int (I 4 11), .int (2 : Int32), .ref 4] (aw_s I L D) rfl (z_callV (av := [.int (2 : Int32), .int (I 4 11)]) (st := []) ok_Mc_finish (Or.inl w_824) w_826 w_32 k_Mc d_Mc_operate_26 rfl (aw_lt (o := 4) rfl) rfl rfl (Nat.le_of_ble_eq_true rfl) (Nat.le_refl _) (Nat.le_refl _) (aw_C.mono (h5 q2 q6) (fun _ _ zz => aw_Z.weak (ls' := [none, none, none, none]) zz (Nat.le_of_ble_eq_true rfl) ⟨Or.inl rfl, ⟨Or.inl rfl, ⟨Or.inl rfl, ⟨Or.inl rfl, trivial⟩⟩⟩⟩))))))))))
theorem d_Mc_operate_73 : decode y_Mc_operate.2.1 73 = .ok (.ifCond .eq (7), 3) := by decide +kernel
theorem d_Mc_operate_80 : decode y_Mc_operate.2.1 80 = .ok (.iconst 0, 1) := by decide +kernel
theorem s_Mc_operate_80 : aw_VS y_Mc_operate 80 [o_c (.int (0 : Int32))] 81 := .cons (v_iconst (v := (0 : Int32)) d_Mc_operate_80 (by decide +kernel)) .nil
theorem d_Mc_operate_76 : decode y_Mc_operate.2.1 76 = .ok (.iconst 1, 1) := by decide +kernel
theorem s_Mc_operate_76 : aw_VS y_Mc_operate 76 [o_c (.int (1 : Int32))] 77 := .cons (v_iconst (v := (1 : Int32)) d_Mc_operate_76 (by decide +kernel)) .nil
theorem d_Mc_operate_77 : decode y_Mc_operate.2.1 77 = .ok (.goto (4), 3) := by decide +kernel
theorem b_Mc_operate_73 {X : aw_X} {d : Nat} {Q : Option Value → aw_H → Prop} {I : Nat → Nat → Int32} {L : Nat → Nat → Int64} {D : Nat → Nat} {s1 : Int32}
    (h1 : s1 = 0 → aw_z X (d + 1) y_Mc_operate Q 81 [none, none, none, none] [.int (0 : Int32), .ref 4] (aw_s I L D))
    (h2 : ¬ s1 = 0 → aw_z X (d + 1) y_Mc_operate Q 81 [none, none, none, none] [.int (1 : Int32), .ref 4] (aw_s I L D)) :
    aw_z X (d + 1) y_Mc_operate Q 73 [none, none, none, none] [.int s1, .ref 4] (aw_s I L D) :=
  (z_if_eq (tgt := 80) d_Mc_operate_73 rfl (fun q1 => (s_Mc_operate_80.go [none, none, none, none] [.int (0 : Int32), .ref 4] (aw_s I L D) rfl (h1 q1))) (fun q2 => (s_Mc_operate_76.go [none, none, none, none] [.int (1 : Int32), .ref 4] (aw_s I L D) rfl (z_goto (tgt := 81) d_Mc_operate_77 rfl (h2 q2)))))
theorem d_Mc_operate_55 : decode y_Mc_operate.2.1 55 = .ok (.aload_n 0, 1) := by decide +kernel
theorem d_Mc_operate_56 : decode y_Mc_operate.2.1 56 = .ok (.getfield 94, 3) := by decide +kernel
theorem d_Mc_operate_59 : decode y_Mc_operate.2.1 59 = .ok (.iand, 1) := by decide +kernel
theorem s_Mc_operate_55 : aw_VS y_Mc_operate 55 [o_ald 0, o_getI 3 7, o_i2 (fun x z => x &&& z)] 60 := .cons (v_aload_n (i := 0) d_Mc_operate_55 rfl) (.cons (v_getI (k := 7) k_Mc (by decide) (Or.inl rfl) (Or.inl w_130) d_Mc_operate_56) (.cons (v_iand d_Mc_operate_59) .nil))
theorem d_Mc_operate_60 : decode y_Mc_operate.2.1 60 = .ok (.invokevirtual 136, 3) := by decide +kernel
theorem b_Mc_operate_55 {X : aw_X} {d : Nat} {Q : Option Value → aw_H → Prop} {I : Nat → Nat → Int32} {L : Nat → Nat → Int64} {D : Nat → Nat} {s1 : Int32}
    (h1 : aw_m X d y_Mc_push [.ref 4, .int (s1 &&& (I 4 7))] (aw_s I L D) (fun r A => aw_z X (d + 1) y_Mc_operate Q 63 [none, none, none, none] (r.toList ++ []) A)) :
    aw_z X (d + 1) y_Mc_operate Q 55 [some (.ref 4), none, none, none] [.int s1, .ref 4] (aw_s I L D) :=
  (s_Mc_operate_55.go [some (.ref 4), none, none, none] [.int (s1 &&& (I 4 7)), .ref 4] (aw_s I L D) rfl (z_callV (av := [.int (s1 &&& (I 4 7))]) (st := []) ok_Mc_push (Or.inl w_809) w_811 w_29 k_Mc d_Mc_operate_60 rfl (aw_lt (o := 4) rfl) rfl rfl (Nat.le_of_ble_eq_true rfl) (Nat.le_refl _) (Nat.le_refl _) (aw_C.mono (h1) (fun _ _ zz => aw_Z.weak (ls' := [none, none, none, none]) zz (Nat.le_of_ble_eq_true rfl) ⟨Or.inl rfl, ⟨Or.inl rfl, ⟨Or.inl rfl, ⟨Or.inl rfl, trivial⟩⟩⟩⟩))))
theorem d_Mc_operate_39 : decode y_Mc_operate.2.1 39 = .ok (.goto (45), 3) := by decide +kernel
theorem b_Mc_operate_39 {X : aw_X} {d : Nat} {Q : Option Value → aw_H → Prop} {I : Nat → Nat → Int32} {L : Nat → Nat → Int64} {D : Nat → Nat} 
    (h1 : aw_z X (d + 1) y_Mc_operate Q 84 [none, none, none, none] [] (aw_s I L D)) :
    aw_z X (d + 1) y_Mc_operate Q 39 [none, none, none, none] [] (aw_s I L D) :=
  (z_goto (tgt := 84) d_Mc_operate_39 rfl (h1))
theorem d_Mc_operate_29 : decode y_Mc_operate.2.1 29 = .ok (.goto (55), 3) := by decide +kernel
theorem b_Mc_operate_29 {X : aw_X} {d : Nat} {Q : Option Value → aw_H → Prop} {I : Nat → Nat → Int32} {L : Nat → Nat → Int64} {D : Nat → Nat} 
    (h1 : aw_z X (d + 1) y_Mc_operate Q 84 [none, none, none, none] [] (aw_s I L D)) :
    aw_z X (d + 1) y_Mc_operate Q 29 [none, none, none, none] [] (aw_s I L D) :=
  (z_goto (tgt := 84) d_Mc_operate_29 rfl (h1))
theorem d_Mc_operate_81 : decode y_Mc_operate.2.1 81 = .ok (.invokevirtual 136, 3) := by decide +kernel
theorem b_Mc_operate_81 {X : aw_X} {d : Nat} {Q : Option Value → aw_H → Prop} {I : Nat → Nat → Int32} {L : Nat → Nat → Int64} {D : Nat → Nat} {s1 : Int32}
    (h1 : aw_m X d y_Mc_push [.ref 4, .int s1] (aw_s I L D) (fun r A => aw_z X (d + 1) y_Mc_operate Q 84 [none, none, none, none] (r.toList ++ []) A)) :
    aw_z X (d + 1) y_Mc_operate Q 81 [none, none, none, none] [.int s1, .ref 4] (aw_s I L D) :=
  (z_callV (av := [.int s1]) (st := []) ok_Mc_push (Or.inl w_809) w_811 w_29 k_Mc d_Mc_operate_81 rfl (aw_lt (o := 4) rfl) rfl rfl (Nat.le_of_ble_eq_true rfl) (Nat.le_refl _) (Nat.le_refl _) (h1))
theorem d_Mc_operate_63 : decode y_Mc_operate.2.1 63 = .ok (.goto (21), 3) := by decide +kernel
theorem b_Mc_operate_63 {X : aw_X} {d : Nat} {Q : Option Value → aw_H → Prop} {I : Nat → Nat → Int32} {L : Nat → Nat → Int64} {D : Nat → Nat} 
    (h1 : aw_z X (d + 1) y_Mc_operate Q 84 [none, none, none, none] [] (aw_s I L D)) :
    aw_z X (d + 1) y_Mc_operate Q 63 [none, none, none, none] [] (aw_s I L D) :=
  (z_goto (tgt := 84) d_Mc_operate_63 rfl (h1))
theorem d_Mc_operate_84 : decode y_Mc_operate.2.1 84 = .ok (.return_, 1) := by decide +kernel
theorem b_Mc_operate_84 {X : aw_X} {d : Nat} {Q : Option Value → aw_H → Prop} {I : Nat → Nat → Int32} {L : Nat → Nat → Int64} {D : Nat → Nat} 
    (h1 : Q none (aw_s I L D)) :
    aw_z X (d + 1) y_Mc_operate Q 84 [none, none, none, none] [] (aw_s I L D) :=
  (z_vret d_Mc_operate_84 rfl (h1))
/-! Mc_calculated -/
theorem d_Mc_calculated_0 : decode y_Mc_calculated.2.1 0 = .ok (.iload_n 0, 1) := by decide +kernel
theorem s_Mc_calculated_0 : aw_VS y_Mc_calculated 0 [o_ild 0] 1 := .cons (v_iload_n (i := 0) d_Mc_calculated_0 rfl) .nil
theorem d_Mc_calculated_1 : decode y_Mc_calculated.2.1 1 = .ok (.lookupswitch (35) #[(4, 27), (5, 31)], 27) := by decide +kernel
theorem d_Mc_calculated_28 : decode y_Mc_calculated.2.1 28 = .ok (.iload_n 1, 1) := by decide +kernel
theorem d_Mc_calculated_29 : decode y_Mc_calculated.2.1 29 = .ok (.iload_n 2, 1) := by decide +kernel
theorem d_Mc_calculated_30 : decode y_Mc_calculated.2.1 30 = .ok (.iadd, 1) := by decide +kernel
theorem s_Mc_calculated_28 : aw_VS y_Mc_calculated 28 [o_ild 1, o_ild 2, o_i2 (fun x z => x + z)] 31 := .cons (v_iload_n (i := 1) d_Mc_calculated_28 rfl) (.cons (v_iload_n (i := 2) d_Mc_calculated_29 rfl) (.cons (v_iadd d_Mc_calculated_30) .nil))
theorem d_Mc_calculated_31 : decode y_Mc_calculated.2.1 31 = .ok (.ireturn, 1) := by decide +kernel
theorem d_Mc_calculated_32 : decode y_Mc_calculated.2.1 32 = .ok (.iload_n 1, 1) := by decide +kernel
theorem d_Mc_calculated_33 : decode y_Mc_calculated.2.1 33 = .ok (.iload_n 2, 1) := by decide +kernel
theorem d_Mc_calculated_34 : decode y_Mc_calculated.2.1 34 = .ok (.isub, 1) := by decide +kernel
theorem s_Mc_calculated_32 : aw_VS y_Mc_calculated 32 [o_ild 1, o_ild 2, o_i2 (fun x z => x - z)] 35 := .cons (v_iload_n (i := 1) d_Mc_calculated_32 rfl) (.cons (v_iload_n (i := 2) d_Mc_calculated_33 rfl) (.cons (v_isub d_Mc_calculated_34) .nil))
theorem d_Mc_calculated_35 : decode y_Mc_calculated.2.1 35 = .ok (.ireturn, 1) := by decide +kernel
theorem d_Mc_calculated_36 : decode y_Mc_calculated.2.1 36 = .ok (.iload_n 1, 1) := by decide +kernel
theorem d_Mc_calculated_37 : decode y_Mc_calculated.2.1 37 = .ok (.iload_n 2, 1) := by decide +kernel
theorem d_Mc_calculated_38 : decode y_Mc_calculated.2.1 38 = .ok (.imul, 1) := by decide +kernel
theorem s_Mc_calculated_36 : aw_VS y_Mc_calculated 36 [o_ild 1, o_ild 2, o_i2 (fun x z => x * z)] 39 := .cons (v_iload_n (i := 1) d_Mc_calculated_36 rfl) (.cons (v_iload_n (i := 2) d_Mc_calculated_37 rfl) (.cons (v_imul d_Mc_calculated_38) .nil))
theorem d_Mc_calculated_39 : decode y_Mc_calculated.2.1 39 = .ok (.ireturn, 1) := by decide +kernel
theorem b_Mc_calculated_0 {X : aw_X} {d : Nat} {Q : Option Value → aw_H → Prop} {I : Nat → Nat → Int32} {L : Nat → Nat → Int64} {D : Nat → Nat} {v0 : Int32} {v1 : Int32} {v2 : Int32}
    (h1 : v0 = (4 : Int32) → Q (some (.int (v1 + v2))) (aw_s I L D))
    (h2 : ¬ v0 = (4 : Int32) → v0 = (5 : Int32) → Q (some (.int (v1 - v2))) (aw_s I L D))
    (h3 : ¬ v0 = (4 : Int32) → ¬ v0 = (5 : Int32) → Q (some (.int (v1 * v2))) (aw_s I L D)) :
    aw_z X d y_Mc_calculated Q 0 [some (.int v0), some (.int v1), some (.int v2)] [] (aw_s I L D) :=
  (s_Mc_calculated_0.go [some (.int v0), some (.int v1), some (.int v2)] [.int v0] (aw_s I L D) rfl (Decidable.byCases (fun q1 => z_lookup (off := 27) (tgt := 28) d_Mc_calculated_1 (by decide +kernel) (by rw [q1]; decide +kernel) rfl (s_Mc_calculated_28.go [some (.int v0), some (.int v1), some (.int v2)] [.int (v1 + v2)] (aw_s I L D) rfl (z_iret d_Mc_calculated_31 rfl rfl (h1 q1)))) (fun q1n => (Decidable.byCases (fun q2 => z_lookup (off := 31) (tgt := 32) d_Mc_calculated_1 (by decide +kernel) (by rw [q2]; decide +kernel) rfl (s_Mc_calculated_32.go [some (.int v0), some (.int v1), some (.int v2)] [.int (v1 - v2)] (aw_s I L D) rfl (z_iret d_Mc_calculated_35 rfl rfl (h2 q1n q2)))) (fun q2n => z_lookup (off := 35) (tgt := 36) d_Mc_calculated_1 (by decide +kernel) ((lv_osw (a := 4) q1n rfl).trans ((lv_osw (a := 5) q2n rfl).trans rfl)) rfl (s_Mc_calculated_36.go [some (.int v0), some (.int v1), some (.int v2)] [.int (v1 * v2)] (aw_s I L D) rfl (z_iret d_Mc_calculated_39 rfl rfl (h3 q1n q2n))))))))
/-! Mc_isTrue -/
theorem d_Mc_isTrue_0 : decode y_Mc_isTrue.2.1 0 = .ok (.iload_n 0, 1) := by decide +kernel
theorem s_Mc_isTrue_0 : aw_VS y_Mc_isTrue 0 [o_ild 0] 1 := .cons (v_iload_n (i := 0) d_Mc_isTrue_0 rfl) .nil
theorem d_Mc_isTrue_1 : decode y_Mc_isTrue.2.1 1 = .ok (.tableswitch (93) (8) (12) #[35, 46, 57, 68, 79], 35) := by decide +kernel
theorem d_Mc_isTrue_36 : decode y_Mc_isTrue.2.1 36 = .ok (.iload_n 1, 1) := by decide +kernel
theorem d_Mc_isTrue_37 : decode y_Mc_isTrue.2.1 37 = .ok (.iload_n 2, 1) := by decide +kernel
theorem s_Mc_isTrue_36 : aw_VS y_Mc_isTrue 36 [o_ild 1, o_ild 2] 38 := .cons (v_iload_n (i := 1) d_Mc_isTrue_36 rfl) (.cons (v_iload_n (i := 2) d_Mc_isTrue_37 rfl) .nil)
theorem d_Mc_isTrue_38 : decode y_Mc_isTrue.2.1 38 = .ok (.if_icmp .ge (7), 3) := by decide +kernel
theorem d_Mc_isTrue_45 : decode y_Mc_isTrue.2.1 45 = .ok (.iconst 0, 1) := by decide +kernel
theorem s_Mc_isTrue_45 : aw_VS y_Mc_isTrue 45 [o_c (.int (0 : Int32))] 46 := .cons (v_iconst (v := (0 : Int32)) d_Mc_isTrue_45 (by decide +kernel)) .nil
theorem d_Mc_isTrue_46 : decode y_Mc_isTrue.2.1 46 = .ok (.ireturn, 1) := by decide +kernel
theorem d_Mc_isTrue_41 : decode y_Mc_isTrue.2.1 41 = .ok (.iconst 1, 1) := by decide +kernel
theorem s_Mc_isTrue_41 : aw_VS y_Mc_isTrue 41 [o_c (.int (1 : Int32))] 42 := .cons (v_iconst (v := (1 : Int32)) d_Mc_isTrue_41 (by decide +kernel)) .nil
theorem d_Mc_isTrue_42 : decode y_Mc_isTrue.2.1 42 = .ok (.goto (4), 3) := by decide +kernel
theorem d_Mc_isTrue_47 : decode y_Mc_isTrue.2.1 47 = .ok (.iload_n 1, 1) := by decide +kernel
theorem d_Mc_isTrue_48 : decode y_Mc_isTrue.2.1 48 = .ok (.iload_n 2, 1) := by decide +kernel
theorem s_Mc_isTrue_47 : aw_VS y_Mc_isTrue 47 [o_ild 1, o_ild 2] 49 := .cons (v_iload_n (i := 1) d_Mc_isTrue_47 rfl) (.cons (v_iload_n (i := 2) d_Mc_isTrue_48 rfl) .nil)
theorem d_Mc_isTrue_49 : decode y_Mc_isTrue.2.1 49 = .ok (.if_icmp .ne (7), 3) := by decide +kernel
theorem d_Mc_isTrue_56 : decode y_Mc_isTrue.2.1 56 = .ok (.iconst 0, 1) := by decide +kernel
theorem s_Mc_isTrue_56 : aw_VS y_Mc_isTrue 56 [o_c (.int (0 : Int32))] 57 := .cons (v_iconst (v := (0 : Int32)) d_Mc_isTrue_56 (by decide +kernel)) .nil
theorem d_Mc_isTrue_57 : decode y_Mc_isTrue.2.1 57 = .ok (.ireturn, 1) := by decide +kernel
theorem d_Mc_isTrue_52 : decode y_Mc_isTrue.2.1 52 = .ok (.iconst 1, 1) := by decide +kernel
theorem s_Mc_isTrue_52 : aw_VS y_Mc_isTrue 52 [o_c (.int (1 : Int32))] 53 := .cons (v_iconst (v := (1 : Int32)) d_Mc_isTrue_52 (by decide +kernel)) .nil
theorem d_Mc_isTrue_53 : decode y_Mc_isTrue.2.1 53 = .ok (.goto (4), 3) := by decide +kernel
theorem d_Mc_isTrue_58 : decode y_Mc_isTrue.2.1 58 = .ok (.iload_n 1, 1) := by decide +kernel
theorem d_Mc_isTrue_59 : decode y_Mc_isTrue.2.1 59 = .ok (.iload_n 2, 1) := by decide +kernel
theorem s_Mc_isTrue_58 : aw_VS y_Mc_isTrue 58 [o_ild 1, o_ild 2] 60 := .cons (v_iload_n (i := 1) d_Mc_isTrue_58 rfl) (.cons (v_iload_n (i := 2) d_Mc_isTrue_59 rfl) .nil)
theorem d_Mc_isTrue_60 : decode y_Mc_isTrue.2.1 60 = .ok (.if_icmp .le (7), 3) := by decide +kernel
theorem d_Mc_isTrue_67 : decode y_Mc_isTrue.2.1 67 = .ok (.iconst 0, 1) := by decide +kernel
theorem s_Mc_isTrue_67 : aw_VS y_Mc_isTrue 67 [o_c (.int (0 : Int32))] 68 := .cons (v_iconst (v := (0 : Int32)) d_Mc_isTrue_67 (by decide +kernel)) .nil
theorem d_Mc_isTrue_68 : decode y_Mc_isTrue.2.1 68 = .ok (.ireturn, 1) := by decide +kernel
theorem d_Mc_isTrue_63 : decode y_Mc_isTrue.2.1 63 = .ok (.iconst 1, 1) := by decide +kernel
theorem s_Mc_isTrue_63 : aw_VS y_Mc_isTrue 63 [o_c (.int (1 : Int32))] 64 := .cons (v_iconst (v := (1 : Int32)) d_Mc_isTrue_63 (by decide +kernel)) .nil
theorem d_Mc_isTrue_64 : decode y_Mc_isTrue.2.1 64 = .ok (.goto (4), 3) := by decide +kernel
theorem d_Mc_isTrue_69 : decode y_Mc_isTrue.2.1 69 = .ok (.iload_n 1, 1) := by decide +kernel
theorem d_Mc_isTrue_70 : decode y_Mc_isTrue.2.1 70 = .ok (.iload_n 2, 1) := by decide +kernel
theorem s_Mc_isTrue_69 : aw_VS y_Mc_isTrue 69 [o_ild 1, o_ild 2] 71 := .cons (v_iload_n (i := 1) d_Mc_isTrue_69 rfl) (.cons (v_iload_n (i := 2) d_Mc_isTrue_70 rfl) .nil)
theorem d_Mc_isTrue_71 : decode y_Mc_isTrue.2.1 71 = .ok (.if_icmp .eq (7), 3) := by decide +kernel
theorem d_Mc_isTrue_78 : decode y_Mc_isTrue.2.1 78 = .ok (.iconst 0, 1) := by decide +kernel
theorem s_Mc_isTrue_78 : aw_VS y_Mc_isTrue 78 [o_c (.int (0 : Int32))] 79 := .cons (v_iconst (v := (0 : Int32)) d_Mc_isTrue_78 (by decide +kernel)) .nil
theorem d_Mc_isTrue_79 : decode y_Mc_isTrue.2.1 79 = .ok (.ireturn, 1) := by decide +kernel
theorem d_Mc_isTrue_74 : decode y_Mc_isTrue.2.1 74 = .ok (.iconst 1, 1) := by decide +kernel
theorem s_Mc_isTrue_74 : aw_VS y_Mc_isTrue 74 [o_c (.int (1 : Int32))] 75 := .cons (v_iconst (v := (1 : Int32)) d_Mc_isTrue_74 (by decide +kernel)) .nil
theorem d_Mc_isTrue_75 : decode y_Mc_isTrue.2.1 75 = .ok (.goto (4), 3) := by decide +kernel
theorem d_Mc_isTrue_80 : decode y_Mc_isTrue.2.1 80 = .ok (.iload_n 1, 1) := by decide +kernel
theorem s_Mc_isTrue_80 : aw_VS y_Mc_isTrue 80 [o_ild 1] 81 := .cons (v_iload_n (i := 1) d_Mc_isTrue_80 rfl) .nil
theorem d_Mc_isTrue_81 : decode y_Mc_isTrue.2.1 81 = .ok (.ifCond .eq (11), 3) := by decide +kernel
theorem d_Mc_isTrue_92 : decode y_Mc_isTrue.2.1 92 = .ok (.iconst 0, 1) := by decide +kernel
theorem s_Mc_isTrue_92 : aw_VS y_Mc_isTrue 92 [o_c (.int (0 : Int32))] 93 := .cons (v_iconst (v := (0 : Int32)) d_Mc_isTrue_92 (by decide +kernel)) .nil
theorem d_Mc_isTrue_93 : decode y_Mc_isTrue.2.1 93 = .ok (.ireturn, 1) := by decide +kernel
theorem d_Mc_isTrue_84 : decode y_Mc_isTrue.2.1 84 = .ok (.iload_n 2, 1) := by decide +kernel
theorem s_Mc_isTrue_84 : aw_VS y_Mc_isTrue 84 [o_ild 2] 85 := .cons (v_iload_n (i := 2) d_Mc_isTrue_84 rfl) .nil
theorem d_Mc_isTrue_85 : decode y_Mc_isTrue.2.1 85 = .ok (.ifCond .eq (7), 3) := by decide +kernel
theorem d_Mc_isTrue_88 : decode y_Mc_isTrue.2.1 88 = .ok (.iconst 1, 1) := by decide +kernel
theorem s_Mc_isTrue_88 : aw_VS y_Mc_isTrue 88 [o_c (.int (1 : Int32))] 89 := .cons (v_iconst (v := (1 : Int32)) d_Mc_isTrue_88 (by decide +kernel)) .nil
theorem d_Mc_isTrue_89 : decode y_Mc_isTrue.2.1 89 = .ok (.goto (4), 3) := by decide +kernel
theorem d_Mc_isTrue_94 : decode y_Mc_isTrue.2.1 94 = .ok (.iload_n 1, 1) := by decide +kernel
theorem s_Mc_isTrue_94 : aw_VS y_Mc_isTrue 94 [o_ild 1] 95 := .cons (v_iload_n (i := 1) d_Mc_isTrue_94 rfl) .nil
theorem d_Mc_isTrue_95 : decode y_Mc_isTrue.2.1 95 = .ok (.ifCond .ne (7), 3) := by decide +kernel
theorem d_Mc_isTrue_102 : decode y_Mc_isTrue.2.1 102 = .ok (.iconst 1, 1) := by decide +kernel
theorem s_Mc_isTrue_102 : aw_VS y_Mc_isTrue 102 [o_c (.int (1 : Int32))] 103 := .cons (v_iconst (v := (1 : Int32)) d_Mc_isTrue_102 (by decide +kernel)) .nil
theorem d_Mc_isTrue_103 : decode y_Mc_isTrue.2.1 103 = .ok (.goto (4), 3) := by decide +kernel
theorem d_Mc_isTrue_107 : decode y_Mc_isTrue.2.1 107 = .ok (.ireturn, 1) := by decide +kernel
theorem d_Mc_isTrue_98 : decode y_Mc_isTrue.2.1 98 = .ok (.iload_n 2, 1) := by decide +kernel
theorem s_Mc_isTrue_98 : aw_VS y_Mc_isTrue 98 [o_ild 2] 99 := .cons (v_iload_n (i := 2) d_Mc_isTrue_98 rfl) .nil
theorem d_Mc_isTrue_99 : decode y_Mc_isTrue.2.1 99 = .ok (.ifCond .eq (7), 3) := by decide +kernel
theorem d_Mc_isTrue_106 : decode y_Mc_isTrue.2.1 106 = .ok (.iconst 0, 1) := by decide +kernel
theorem s_Mc_isTrue_106 : aw_VS y_Mc_isTrue 106 [o_c (.int (0 : Int32))] 107 := .cons (v_iconst (v := (0 : Int32)) d_Mc_isTrue_106 (by decide +kernel)) .nil
theorem b_Mc_isTrue_0 {X : aw_X} {d : Nat} {Q : Option Value → aw_H → Prop} {I : Nat → Nat → Int32} {L : Nat → Nat → Int64} {D : Nat → Nat} {v0 : Int32} {v1 : Int32} {v2 : Int32}
    (h1 : v0 = (8 : Int32) → v2 ≤ v1 → Q (some (.int (0 : Int32))) (aw_s I L D))
    (h2 : v0 = (8 : Int32) → ¬ v2 ≤ v1 → Q (some (.int (1 : Int32))) (aw_s I L D))
    (h3 : ¬ v0 = (8 : Int32) → v0 = (9 : Int32) → ¬ v1 = v2 → Q (some (.int (0 : Int32))) (aw_s I L D))
    (h4 : ¬ v0 = (8 : Int32) → v0 = (9 : Int32) → v1 = v2 → Q (some (.int (1 : Int32))) (aw_s I L D))
    (h5 : ¬ v0 = (8 : Int32) → ¬ v0 = (9 : Int32) → v0 = (10 : Int32) → v1 ≤ v2 → Q (some (.int (0 : Int32))) (aw_s I L D))
    (h6 : ¬ v0 = (8 : Int32) → ¬ v0 = (9 : Int32) → v0 = (10 : Int32) → ¬ v1 ≤ v2 → Q (some (.int (1 : Int32))) (aw_s I L D))
    (h7 : ¬ v0 = (8 : Int32) → ¬ v0 = (9 : Int32) → ¬ v0 = (10 : Int32) → v0 = (11 : Int32) → v1 = v2 → Q (some (.int (0 : Int32))) (aw_s I L D))
    (h8 : ¬ v0 = (8 : Int32) → ¬ v0 = (9 : Int32) → ¬ v0 = (10 : Int32) → v0 = (11 : Int32) → ¬ v1 = v2 → Q (some (.int (1 : Int32))) (aw_s I L D))
    (h9 : ¬ v0 = (8 : Int32) → ¬ v0 = (9 : Int32) → ¬ v0 = (10 : Int32) → ¬ v0 = (11 : Int32) → v0 = (12 : Int32) → v1 = 0 → Q (some (.int (0 : Int32))) (aw_s I L D))
    (h10 : ¬ v0 = (8 : Int32) → ¬ v0 = (9 : Int32) → ¬ v0 = (10 : Int32) → ¬ v0 = (11 : Int32) → v0 = (12 : Int32) → ¬ v1 = 0 → v2 = 0 → Q (some (.int (0 : Int32))) (aw_s I L D))
    (h11 : ¬ v0 = (8 : Int32) → ¬ v0 = (9 : Int32) → ¬ v0 = (10 : Int32) → ¬ v0 = (11 : Int32) → v0 = (12 : Int32) → ¬ v1 = 0 → ¬ v2 = 0 → Q (some (.int (1 : Int32))) (aw_s I L D))
    (h12 : ¬ v0 = (8 : Int32) → ¬ v0 = (9 : Int32) → ¬ v0 = (10 : Int32) → ¬ v0 = (11 : Int32) → ¬ v0 = (12 : Int32) → ¬ v1 = 0 → Q (some (.int (1 : Int32))) (aw_s I L D))
    (h13 : ¬ v0 = (8 : Int32) → ¬ v0 = (9 : Int32) → ¬ v0 = (10 : Int32) → ¬ v0 = (11 : Int32) → ¬ v0 = (12 : Int32) → v1 = 0 → v2 = 0 → Q (some (.int (0 : Int32))) (aw_s I L D))
    (h14 : ¬ v0 = (8 : Int32) → ¬ v0 = (9 : Int32) → ¬ v0 = (10 : Int32) → ¬ v0 = (11 : Int32) → ¬ v0 = (12 : Int32) → v1 = 0 → ¬ v2 = 0 → Q (some (.int (1 : Int32))) (aw_s I L D)) :
    aw_z X d y_Mc_isTrue Q 0 [some (.int v0), some (.int v1), some (.int v2)] [] (aw_s I L D) :=
  (s_Mc_isTrue_0.go [some (.int v0), some (.int v1), some (.int v2)] [.int v0] (aw_s I L D) rfl (Decidable.byCases (fun q1 => z_tableIn (off := 35) (tgt := 36) d_Mc_isTrue_1 (by rw [q1]; decide +kernel) (by rw [q1]; decide +kernel) (by rw [q1]; decide +kernel) rfl (s_Mc_isTrue_36.go [some (.int v0), some (.int v1), some (.int v2)] [.int v2, .int v1] (aw_s I L D) rfl (z_icmp_ge (tgt := 45) d_Mc_isTrue_38 rfl (fun q2 => (s_Mc_isTrue_45.go [some (.int v0), some (.int v1), some (.int v2)] [.int (0 : Int32)] (aw_s I L D) rfl (z_iret d_Mc_isTrue_46 rfl (aw_nz (by decide +kernel)) (h1 q1 q2)))) (fun q3 => (s_Mc_isTrue_41.go [some (.int v0), some (.int v1), some (.int v2)] [.int (1 : Int32)] (aw_s I L D) rfl (z_goto (tgt := 46) d_Mc_isTrue_42 rfl (z_iret d_Mc_isTrue_46 rfl (aw_nz (by decide +kernel)) (h2 q1 q3)))))))) (fun q1n => (Decidable.byCases (fun q4 => z_tableIn (off := 46) (tgt := 47) d_Mc_isTrue_1 (by rw [q4]; decide +kernel) (by rw [q4]; decide +kernel) (by rw [q4]; decide +kernel) rfl (s_Mc_isTrue_47.go [some (.int v0), some (.int v1), some (.int v2)] [.int v2, .int v1] (aw_s I L D) rfl (z_icmp_ne (tgt := 56) d_Mc_isTrue_49 rfl (fun q5 => (s_Mc_isTrue_56.go [some (.int v0), some (.int v1), some (.int v2)] [.int (0 : Int32)] (aw_s I L D) rfl (z_iret d_Mc_isTrue_57 rfl (aw_nz (by decide +kernel)) (h3 q1n q4 q5)))) (fun q6 => (s_Mc_isTrue_52.go [some (.int v0), some (.int v1), some (.int v2)] [.int (1 : Int32)] (aw_s I L D) rfl (z_goto (tgt := 57) d_Mc_isTrue_53 rfl (z_iret d_Mc_isTrue_57 rfl (aw_nz (by decide +kernel)) (h4 q1n q4 q6)))))))) (fun q4n => (Decidable.byCases (fun q7 => z_tableIn (off := 57) (tgt := 58) d_Mc_isTrue_1 (by rw [q7]; decide +kernel) (by rw [q7]; decide +kernel) (by rw [q7]; decide +kernel) rfl (s_Mc_isTrue_58.go [some (.int v0), some (.int v1), some (.int v2)] [.int v2, .int v1] (aw_s I L D) rfl (z_icmp_le (tgt := 67) d_Mc_isTrue_60 rfl (fun q8 => (s_Mc_isTrue_67.go [some (.int v0), some (.int v1), some (.int v2)] [.int (0 : Int32)] (aw_s I L D) rfl (z_iret d_Mc_isTrue_68 rfl (aw_nz (by decide +kernel)) (h5 q1n q4n q7 q8)))) (fun q9 => (s_Mc_isTrue_63.go [some (.int v0), some (.int v1), some (.int v2)] [.int (1 : Int32)] (aw_s I L D) rfl (z_goto (tgt := 68) d_Mc_isTrue_64 rfl (z_iret d_Mc_isTrue_68 rfl (aw_nz (by decide +kernel)) (h6 q1n q4n q7 q9)))))))) (fun q7n => (Decidable.byCases (fun q10 => z_tableIn (off := 68) (tgt := 69) d_Mc_isTrue_1 (by rw [q10]; decide +kernel) (by rw [q10]; decide +kernel) (by rw [q10]; decide +kernel) rfl (s_Mc_isTrue_69.go [some (.int v0), some (.int v1), some (.int v2)] [.int v2, .int v1] (aw_s I L D) rfl (z_icmp_eq (tgt := 78) d_Mc_isTrue_71 rfl (fun q11 => (s_Mc_isTrue_78.go [some (.int v0), some (.int v1), some (.int v2)] [.int (0 : Int32)] (aw_s I L D) rfl (z_iret d_Mc_isTrue_79 rfl (aw_nz (by decide +kernel)) (h7 q1n q4n q7n q10 q11)))) (fun q12 => (s_Mc_isTrue_74.go [some (.int v0), some (.int v1), some (.int v2)] [.int (1 : Int32)] (aw_s I L D) rfl (z_goto (tgt := 79) d_Mc_isTrue_75 rfl (z_iret d_Mc_isTrue_79 rfl (aw_nz (by decide +kernel)) (h8 q1n q4n q7n q10 q12)))))))) (fun q10n => (Decidable.byCases (fun q13 => z_tableIn (off := 79) (tgt := 80) d_Mc_isTrue_1 (by rw [q13]; decide +kernel) (by rw [q13]; decide +kernel) (by rw [q13]; decide +kernel) rfl (s_Mc_isTrue_80.go [some (.int v0), some (.int v1), some (.int v2)] [.int v1] (aw_s I L D) rfl (z_if_eq (tgt := 92) d_Mc_isTrue_81 rfl (fun q14 => (s_Mc_isTrue_92.go [some (.int v0), some (.int v1), some (.int v2)] [.int (0 : Int32)] (aw_s I L D) rfl (z_iret d_Mc_isTrue_93 rfl (aw_nz (by decide +kernel)) (h9 q1n q4n q7n q10n q13 q14)))) (fun q15 => (s_Mc_isTrue_84.go [some (.int v0), some (.int v1), some (.int v2)] [.int v2] (aw_s I L D) rfl (z_if_eq (tgt := 92) d_Mc_isTrue_85 rfl (fun q16 => (s_Mc_isTrue_92.go [some (.int v0), some (.int v1), some (.int v2)] [.int (0 : Int32)] (aw_s I L D) rfl (z_iret d_Mc_isTrue_93 rfl (aw_nz (by decide +kernel)) (h10 q1n q4n q7n q10n q13 q15 q16)))) (fun q17 => (s_Mc_isTrue_88.go [some (.int v0), some (.int v1), some (.int v2)] [.int (1 : Int32)] (aw_s I L D) rfl (z_goto (tgt := 93) d_Mc_isTrue_89 rfl (z_iret d_Mc_isTrue_93 rfl (aw_nz (by decide +kernel)) (h11 q1n q4n q7n q10n q13 q15 q17))))))))))) (fun q13n => z_tableOut (tgt := 94) d_Mc_isTrue_1 (by have := aw_swout q1n (a := 8) rfl; have := aw_swout q4n (a := 9) rfl; have := aw_swout q7n (a := 10) rfl; have := aw_swout q10n (a := 11) rfl; have := aw_swout q13n (a := 12) rfl; omega) rfl (s_Mc_isTrue_94.go [some (.int v0), some (.int v1), some (.int v2)] [.int v1] (aw_s I L D) rfl (z_if_ne (tgt := 102) d_Mc_isTrue_95 rfl (fun q18 => (s_Mc_isTrue_102.go [some (.int v0), some (.int v1), some (.int v2)] [.int (1 : Int32)] (aw_s I L D) rfl (z_goto (tgt := 107) d_Mc_isTrue_103 rfl (z_iret d_Mc_isTrue_107 rfl (aw_nz (by decide +kernel)) (h12 q1n q4n q7n q10n q13n q18))))) (fun q19 => (s_Mc_isTrue_98.go [some (.int v0), some (.int v1), some (.int v2)] [.int v2] (aw_s I L D) rfl (z_if_eq (tgt := 106) d_Mc_isTrue_99 rfl (fun q20 => (s_Mc_isTrue_106.go [some (.int v0), some (.int v1), some (.int v2)] [.int (0 : Int32)] (aw_s I L D) rfl (z_iret d_Mc_isTrue_107 rfl (aw_nz (by decide +kernel)) (h13 q1n q4n q7n q10n q13n q19 q20)))) (fun q21 => (s_Mc_isTrue_102.go [some (.int v0), some (.int v1), some (.int v2)] [.int (1 : Int32)] (aw_s I L D) rfl (z_goto (tgt := 107) d_Mc_isTrue_103 rfl (z_iret d_Mc_isTrue_107 rfl (aw_nz (by decide +kernel)) (h14 q1n q4n q7n q10n q13n q19 q21)))))))))))))))))))))
/-! Mc_act -/
theorem d_Mc_act_0 : decode y_Mc_act.2.1 0 = .ok (.aload_n 1, 1) := by decide +kernel
theorem d_Mc_act_1 : decode y_Mc_act.2.1 1 = .ok (.iload_n 2, 1) := by decide +kernel
theorem s_Mc_act_0 : aw_VS y_Mc_act 0 [o_ald 1, o_ild 2] 2 := .cons (v_aload_n (i := 1) d_Mc_act_0 rfl) (.cons (v_iload_n (i := 2) d_Mc_act_1 rfl) .nil)
theorem d_Mc_act_2 : decode y_Mc_act.2.1 2 = .ok (.invokevirtual 133, 3) := by decide +kernel
theorem b_Mc_act_0 {X : aw_X} {d : Nat} {Q : Option Value → aw_H → Prop} {I : Nat → Nat → Int32} {L : Nat → Nat → Int64} {D : Nat → Nat} {c1 : Nat} {v2 : Int32} (hc1 : c1 ∈ aw_codes)
    (h1 : aw_m X d y_Cd_argAt [.ref c1, .int v2] (aw_s I L D) (fun r A => aw_z X (d + 1) y_Mc_act Q 5 [some (.ref 4), some (.ref c1), some (.int v2), none] (r.toList ++ []) A)) :
    aw_z X (d + 1) y_Mc_act Q 0 [some (.ref 4), some (.ref c1), some (.int v2), none] [] (aw_s I L D) := by
  simp only [aw_codes, List.mem_cons, List.not_mem_nil, or_false] at hc1
  rcases hc1 with rfl | rfl | rfl | rfl | rfl | rfl
  · exact (s_Mc_act_0.go [some (.ref 4), some (.ref 30), some (.int v2), none] [.int v2, .ref 30] (aw_s I L D) rfl (z_callV (av := [.int v2]) (st := []) ok_Cd_argAt (Or.inl w_805) w_806 w_807 k_Cd d_Mc_act_2 rfl (aw_lt (o := 30) rfl) rfl rfl (Nat.le_of_ble_eq_true rfl) (Nat.le_refl _) (Nat.le_refl _) (h1)))
  · exact (s_Mc_act_0.go [some (.ref 4), some (.ref 35), some (.int v2), none] [.int v2, .ref 35] (aw_s I L D) rfl (z_callV (av := [.int v2]) (st := []) ok_Cd_argAt (Or.inl w_805) w_806 w_807 k_Cd d_Mc_act_2 rfl (aw_lt (o := 35) rfl) rfl rfl (Nat.le_of_ble_eq_true rfl) (Nat.le_refl _) (Nat.le_refl _) (h1)))
  · exact (s_Mc_act_0.go [some (.ref 4), some (.ref 40), some (.int v2), none] [.int v2, .ref 40] (aw_s I L D) rfl (z_callV (av := [.int v2]) (st := []) ok_Cd_argAt (Or.inl w_805) w_806 w_807 k_Cd d_Mc_act_2 rfl (aw_lt (o := 40) rfl) rfl rfl (Nat.le_of_ble_eq_true rfl) (Nat.le_refl _) (Nat.le_refl _) (h1)))
  · exact (s_Mc_act_0.go [some (.ref 4), some (.ref 45), some (.int v2), none] [.int v2, .ref 45] (aw_s I L D) rfl (z_callV (av := [.int v2]) (st := []) ok_Cd_argAt (Or.inl w_805) w_806 w_807 k_Cd d_Mc_act_2 rfl (aw_lt (o := 45) rfl) rfl rfl (Nat.le_of_ble_eq_true rfl) (Nat.le_refl _) (Nat.le_refl _) (h1)))
  · exact (s_Mc_act_0.go [some (.ref 4), some (.ref 50), some (.int v2), none] [.int v2, .ref 50] (aw_s I L D) rfl (z_callV (av := [.int v2]) (st := []) ok_Cd_argAt (Or.inl w_805) w_806 w_807 k_Cd d_Mc_act_2 rfl (aw_lt (o := 50) rfl) rfl rfl (Nat.le_of_ble_eq_true rfl) (Nat.le_refl _) (Nat.le_refl _) (h1)))
  · exact (s_Mc_act_0.go [some (.ref 4), some (.ref 55), some (.int v2), none] [.int v2, .ref 55] (aw_s I L D) rfl (z_callV (av := [.int v2]) (st := []) ok_Cd_argAt (Or.inl w_805) w_806 w_807 k_Cd d_Mc_act_2 rfl (aw_lt (o := 55) rfl) rfl rfl (Nat.le_of_ble_eq_true rfl) (Nat.le_refl _) (Nat.le_refl _) (h1)))
theorem d_Mc_act_5 : decode y_Mc_act.2.1 5 = .ok (.istore_n 3, 1) := by decide +kernel
theorem d_Mc_act_6 : decode y_Mc_act.2.1 6 = .ok (.aload_n 1, 1) := by decide +kernel
theorem d_Mc_act_7 : decode y_Mc_act.2.1 7 = .ok (.iload_n 2, 1) := by decide +kernel
theorem s_Mc_act_5 : aw_VS y_Mc_act 5 [o_ist 3, o_ald 1, o_ild 2] 8 := .cons (v_istore_n d_Mc_act_5) (.cons (v_aload_n (i := 1) d_Mc_act_6 rfl) (.cons (v_iload_n (i := 2) d_Mc_act_7 rfl) .nil))
theorem d_Mc_act_8 : decode y_Mc_act.2.1 8 = .ok (.invokevirtual 130, 3) := by decide +kernel
theorem b_Mc_act_5 {X : aw_X} {d : Nat} {Q : Option Value → aw_H → Prop} {I : Nat → Nat → Int32} {L : Nat → Nat → Int64} {D : Nat → Nat} {c1 : Nat} {v2 : Int32} {s0 : Int32} (hc1 : c1 ∈ aw_codes)
    (h1 : aw_m X d y_Cd_opAt [.ref c1, .int v2] (aw_s I L D) (fun r A => aw_z X (d + 1) y_Mc_act Q 11 [some (.ref 4), none, some (.int v2), some (.int s0)] (r.toList ++ []) A)) :
    aw_z X (d + 1) y_Mc_act Q 5 [some (.ref 4), some (.ref c1), some (.int v2), none] [.int s0] (aw_s I L D) := by
  simp only [aw_codes, List.mem_cons, List.not_mem_nil, or_false] at hc1
  rcases hc1 with rfl | rfl | rfl | rfl | rfl | rfl
  · exact (s_Mc_act_5.go [some (.ref 4), some (.ref 30), some (.int v2), some (.int s0)] [.int v2, .ref 30] (aw_s I L D) rfl (z_callV (av := [.int v2]) (st := []) ok_Cd_opAt (Or.inl w_801) w_802 w_803 k_Cd d_Mc_act_8 rfl (aw_lt (o := 30) rfl) rfl rfl (Nat.le_of_ble_eq_true rfl) (Nat.le_refl _) (Nat.le_refl _) (aw_C.mono (h1) (fun _ _ zz => aw_Z.weak (ls' := [some (.ref 4), none, some (.int v2), some (.int s0)]) zz (Nat.le_of_ble_eq_true rfl) ⟨Or.inr rfl, ⟨Or.inl rfl, ⟨Or.inr rfl, ⟨Or.inr rfl, trivial⟩⟩⟩⟩))))
  · exact (s_Mc_act_5.go [some (.ref 4), some (.ref 35), some (.int v2), some (.int s0)] [.int v2, .ref 35] (aw_s I L D) rfl (z_callV (av := [.int v2]) (st := []) ok_Cd_opAt (Or.inl w_801) w_802 w_803 k_Cd d_Mc_act_8 rfl (aw_lt (o := 35) rfl) rfl rfl (Nat.le_of_ble_eq_true rfl) (Nat.le_refl _) (Nat.le_refl _) (aw_C.mono (h1) (fun _ _ zz => aw_Z.weak (ls' := [some (.ref 4), none, some (.int v2), some (.int s0)]) zz (Nat.le_of_ble_eq_true rfl) ⟨Or.inr rfl, ⟨Or.inl rfl, ⟨Or.inr rfl, ⟨Or.inr rfl, trivial⟩⟩⟩⟩))))
  · exact (s_Mc_act_5.go [some (.ref 4), some (.ref 40), some (.int v2), some (.int s0)] [.int v2, .ref 40] (aw_s I L D) rfl (z_callV (av := [.int v2]) (st := []) ok_Cd_opAt (Or.inl w_801) w_802 w_803 k_Cd d_Mc_act_8 rfl (aw_lt (o := 40) rfl) rfl rfl (Nat.le_of_ble_eq_true rfl) (Nat.le_refl _) (Nat.le_refl _) (aw_C.mono (h1) (fun _ _ zz => aw_Z.weak (ls' := [some (.ref 4), none, some (.int v2), some (.int s0)]) zz (Nat.le_of_ble_eq_true rfl) ⟨Or.inr rfl, ⟨Or.inl rfl, ⟨Or.inr rfl, ⟨Or.inr rfl, trivial⟩⟩⟩⟩))))
  · exact (s_Mc_act_5.go [some (.ref 4), some (.ref 45), some (.int v2), some (.int s0)] [.int v2, .ref 45] (aw_s I L D) rfl (z_callV (av := [.int v2]) (st := []) ok_Cd_opAt (Or.inl w_801) w_802 w_803 k_Cd d_Mc_act_8 rfl (aw_lt (o := 45) rfl) rfl rfl (Nat.le_of_ble_eq_true rfl) (Nat.le_refl _) (Nat.le_refl _) (aw_C.mono (h1) (fun _ _ zz => aw_Z.weak (ls' := [some (.ref 4), none, some (.int v2), some (.int s0)]) zz (Nat.le_of_ble_eq_true rfl) ⟨Or.inr rfl, ⟨Or.inl rfl, ⟨Or.inr rfl, ⟨Or.inr rfl, trivial⟩⟩⟩⟩))))
  · exact (s_Mc_act_5.go [some (.ref 4), some (.ref 50), some (.int v2), some (.int s0)] [.int v2, .ref 50] (aw_s I L D) rfl (z_callV (av := [.int v2]) (st := []) ok_Cd_opAt (Or.inl w_801) w_802 w_803 k_Cd d_Mc_act_8 rfl (aw_lt (o := 50) rfl) rfl rfl (Nat.le_of_ble_eq_true rfl) (Nat.le_refl _) (Nat.le_refl _) (aw_C.mono (h1) (fun _ _ zz => aw_Z.weak (ls' := [some (.ref 4), none, some (.int v2), some (.int s0)]) zz (Nat.le_of_ble_eq_true rfl) ⟨Or.inr rfl, ⟨Or.inl rfl, ⟨Or.inr rfl, ⟨Or.inr rfl, trivial⟩⟩⟩⟩))))
  · exact (s_Mc_act_5.go [some (.ref 4), some (.ref 55), some (.int v2), some (.int s0)] [.int v2, .ref 55] (aw_s I L D) rfl (z_callV (av := [.int v2]) (st := []) ok_Cd_opAt (Or.inl w_801) w_802 w_803 k_Cd d_Mc_act_8 rfl (aw_lt (o := 55) rfl) rfl rfl (Nat.le_of_ble_eq_true rfl) (Nat.le_refl _) (Nat.le_refl _) (aw_C.mono (h1) (fun _ _ zz => aw_Z.weak (ls' := [some (.ref 4), none, some (.int v2), some (.int s0)]) zz (Nat.le_of_ble_eq_true rfl) ⟨Or.inr rfl, ⟨Or.inl rfl, ⟨Or.inr rfl, ⟨Or.inr rfl, trivial⟩⟩⟩⟩))))
theorem d_Mc_act_11 : decode y_Mc_act.2.1 11 = .ok (.tableswitch (199) (20) (31) #[61, 71, 81, 96, 109, 117, 138, 159, 172, 183, 192, 197], 61) := by decide +kernel
theorem d_Mc_act_72 : decode y_Mc_act.2.1 72 = .ok (.aload_n 0, 1) := by decide +kernel
theorem d_Mc_act_73 : decode y_Mc_act.2.1 73 = .ok (.iload_n 3, 1) := by decide +kernel
theorem d_Mc_act_74 : decode y_Mc_act.2.1 74 = .ok (.iconst 0, 1) := by decide +kernel
theorem s_Mc_act_72 : aw_VS y_Mc_act 72 [o_ald 0, o_ild 3, o_c (.int (0 : Int32))] 75 := .cons (v_aload_n (i := 0) d_Mc_act_72 rfl) (.cons (v_iload_n (i := 3) d_Mc_act_73 rfl) (.cons (v_iconst (v := (0 : Int32)) d_Mc_act_74 (by decide +kernel)) .nil))
theorem d_Mc_act_75 : decode y_Mc_act.2.1 75 = .ok (.invokevirtual 157, 3) := by decide +kernel
theorem d_Mc_act_82 : decode y_Mc_act.2.1 82 = .ok (.aload_n 0, 1) := by decide +kernel
theorem d_Mc_act_83 : decode y_Mc_act.2.1 83 = .ok (.iload_n 3, 1) := by decide +kernel
theorem d_Mc_act_84 : decode y_Mc_act.2.1 84 = .ok (.iconst 1, 1) := by decide +kernel
theorem s_Mc_act_82 : aw_VS y_Mc_act 82 [o_ald 0, o_ild 3, o_c (.int (1 : Int32))] 85 := .cons (v_aload_n (i := 0) d_Mc_act_82 rfl) (.cons (v_iload_n (i := 3) d_Mc_act_83 rfl) (.cons (v_iconst (v := (1 : Int32)) d_Mc_act_84 (by decide +kernel)) .nil))
theorem d_Mc_act_85 : decode y_Mc_act.2.1 85 = .ok (.invokevirtual 157, 3) := by decide +kernel
theorem d_Mc_act_92 : decode y_Mc_act.2.1 92 = .ok (.aload_n 0, 1) := by decide +kernel
theorem s_Mc_act_92 : aw_VS y_Mc_act 92 [o_ald 0] 93 := .cons (v_aload_n (i := 0) d_Mc_act_92 rfl) .nil
theorem d_Mc_act_93 : decode y_Mc_act.2.1 93 = .ok (.invokevirtual 161, 3) := by decide +kernel
theorem d_Mc_act_107 : decode y_Mc_act.2.1 107 = .ok (.aload_n 0, 1) := by decide +kernel
theorem d_Mc_act_108 : decode y_Mc_act.2.1 108 = .ok (.iload_n 3, 1) := by decide +kernel
theorem d_Mc_act_109 : decode y_Mc_act.2.1 109 = .ok (.aload_n 0, 1) := by decide +kernel
theorem s_Mc_act_107 : aw_VS y_Mc_act 107 [o_ald 0, o_ild 3, o_ald 0] 110 := .cons (v_aload_n (i := 0) d_Mc_act_107 rfl) (.cons (v_iload_n (i := 3) d_Mc_act_108 rfl) (.cons (v_aload_n (i := 0) d_Mc_act_109 rfl) .nil))
theorem d_Mc_act_110 : decode y_Mc_act.2.1 110 = .ok (.invokevirtual 85, 3) := by decide +kernel
theorem d_Mc_act_120 : decode y_Mc_act.2.1 120 = .ok (.aload_n 0, 1) := by decide +kernel
theorem s_Mc_act_120 : aw_VS y_Mc_act 120 [o_ald 0] 121 := .cons (v_aload_n (i := 0) d_Mc_act_120 rfl) .nil
theorem d_Mc_act_121 : decode y_Mc_act.2.1 121 = .ok (.invokevirtual 168, 3) := by decide +kernel
theorem d_Mc_act_128 : decode y_Mc_act.2.1 128 = .ok (.aload_n 0, 1) := by decide +kernel
theorem d_Mc_act_129 : decode y_Mc_act.2.1 129 = .ok (.aload_n 0, 1) := by decide +kernel
theorem s_Mc_act_128 : aw_VS y_Mc_act 128 [o_ald 0, o_ald 0] 130 := .cons (v_aload_n (i := 0) d_Mc_act_128 rfl) (.cons (v_aload_n (i := 0) d_Mc_act_129 rfl) .nil)
theorem d_Mc_act_130 : decode y_Mc_act.2.1 130 = .ok (.invokevirtual 85, 3) := by decide +kernel
theorem d_Mc_act_149 : decode y_Mc_act.2.1 149 = .ok (.aload_n 0, 1) := by decide +kernel
theorem d_Mc_act_150 : decode y_Mc_act.2.1 150 = .ok (.aload_n 0, 1) := by decide +kernel
theorem s_Mc_act_149 : aw_VS y_Mc_act 149 [o_ald 0, o_ald 0] 151 := .cons (v_aload_n (i := 0) d_Mc_act_149 rfl) (.cons (v_aload_n (i := 0) d_Mc_act_150 rfl) .nil)
theorem d_Mc_act_151 : decode y_Mc_act.2.1 151 = .ok (.invokevirtual 85, 3) := by decide +kernel
theorem d_Mc_act_170 : decode y_Mc_act.2.1 170 = .ok (.aload_n 0, 1) := by decide +kernel
theorem d_Mc_act_171 : decode y_Mc_act.2.1 171 = .ok (.iload_n 3, 1) := by decide +kernel
theorem d_Mc_act_172 : decode y_Mc_act.2.1 172 = .ok (.aload_n 0, 1) := by decide +kernel
theorem s_Mc_act_170 : aw_VS y_Mc_act 170 [o_ald 0, o_ild 3, o_ald 0] 173 := .cons (v_aload_n (i := 0) d_Mc_act_170 rfl) (.cons (v_iload_n (i := 3) d_Mc_act_171 rfl) (.cons (v_aload_n (i := 0) d_Mc_act_172 rfl) .nil))
theorem d_Mc_act_173 : decode y_Mc_act.2.1 173 = .ok (.invokevirtual 175, 3) := by decide +kernel
theorem d_Mc_act_183 : decode y_Mc_act.2.1 183 = .ok (.aload_n 0, 1) := by decide +kernel
theorem d_Mc_act_184 : decode y_Mc_act.2.1 184 = .ok (.iconst 0, 1) := by decide +kernel
theorem d_Mc_act_185 : decode y_Mc_act.2.1 185 = .ok (.aload_n 0, 1) := by decide +kernel
theorem d_Mc_act_186 : decode y_Mc_act.2.1 186 = .ok (.getfield 111, 3) := by decide +kernel
theorem s_Mc_act_183 : aw_VS y_Mc_act 183 [o_ald 0, o_c (.int (0 : Int32)), o_ald 0, o_getI 3 11] 189 := .cons (v_aload_n (i := 0) d_Mc_act_183 rfl) (.cons (v_iconst (v := (0 : Int32)) d_Mc_act_184 (by decide +kernel)) (.cons (v_aload_n (i := 0) d_Mc_act_185 rfl) (.cons (v_getI (k := 11) k_Mc (by decide) (Or.inl rfl) (Or.inl w_134) d_Mc_act_186) .nil)))
theorem d_Mc_act_189 : decode y_Mc_act.2.1 189 = .ok (.invokevirtual 145, 3) := by decide +kernel
theorem d_Mc_act_194 : decode y_Mc_act.2.1 194 = .ok (.aload_n 0, 1) := by decide +kernel
theorem d_Mc_act_195 : decode y_Mc_act.2.1 195 = .ok (.iload_n 3, 1) := by decide +kernel
theorem d_Mc_act_196 : decode y_Mc_act.2.1 196 = .ok (.iload_n 2, 1) := by decide +kernel
theorem d_Mc_act_197 : decode y_Mc_act.2.1 197 = .ok (.iconst 1, 1) := by decide +kernel
theorem d_Mc_act_198 : decode y_Mc_act.2.1 198 = .ok (.iadd, 1) := by decide +kernel
theorem s_Mc_act_194 : aw_VS y_Mc_act 194 [o_ald 0, o_ild 3, o_ild 2, o_c (.int (1 : Int32)), o_i2 (fun x z => x + z)] 199 := .cons (v_aload_n (i := 0) d_Mc_act_194 rfl) (.cons (v_iload_n (i := 3) d_Mc_act_195 rfl) (.cons (v_iload_n (i := 2) d_Mc_act_196 rfl) (.cons (v_iconst (v := (1 : Int32)) d_Mc_act_197 (by decide +kernel)) (.cons (v_iadd d_Mc_act_198) .nil))))
theorem d_Mc_act_199 : decode y_Mc_act.2.1 199 = .ok (.invokevirtual 178, 3) := by decide +kernel
theorem d_Mc_act_203 : decode y_Mc_act.2.1 203 = .ok (.aload_n 0, 1) := by decide +kernel
theorem s_Mc_act_203 : aw_VS y_Mc_act 203 [o_ald 0] 204 := .cons (v_aload_n (i := 0) d_Mc_act_203 rfl) .nil
theorem d_Mc_act_204 : decode y_Mc_act.2.1 204 = .ok (.invokevirtual 182, 3) := by decide +kernel
theorem d_Mc_act_208 : decode y_Mc_act.2.1 208 = .ok (.iload_n 3, 1) := by decide +kernel
theorem s_Mc_act_208 : aw_VS y_Mc_act 208 [o_ild 3] 209 := .cons (v_iload_n (i := 3) d_Mc_act_208 rfl) .nil
theorem d_Mc_act_209 : decode y_Mc_act.2.1 209 = .ok (.ireturn, 1) := by decide +kernel
theorem d_Mc_act_210 : decode y_Mc_act.2.1 210 = .ok (.aload_n 0, 1) := by decide +kernel
theorem d_Mc_act_211 : decode y_Mc_act.2.1 211 = .ok (.iconst 0, 1) := by decide +kernel
theorem d_Mc_act_212 : decode y_Mc_act.2.1 212 = .ok (.iconst (-1), 1) := by decide +kernel
theorem s_Mc_act_210 : aw_VS y_Mc_act 210 [o_ald 0, o_c (.int (0 : Int32)), o_c (.int (-1 : Int32))] 213 := .cons (v_aload_n (i := 0) d_Mc_act_210 rfl) (.cons (v_iconst (v := (0 : Int32)) d_Mc_act_211 (by decide +kernel)) (.cons (v_iconst (v := (-1 : Int32)) d_Mc_act_212 (by decide +kernel)) .nil))
theorem d_Mc_act_213 : decode y_Mc_act.2.1 213 = .ok (.invokevirtual 145, 3) := by decide +kernel
theorem b_Mc_act_11 {X : aw_X} {d : Nat} {Q : Option Value → aw_H → Prop} {I : Nat → Nat → Int32} {L : Nat → Nat → Int64} {D : Nat → Nat} {v2 : Int32} {v3 : Int32} {s0 : Int32}
    (h1 : s0 = (20 : Int32) → aw_m X d y_Mc_beginStep [.ref 4, .int v3, .int (0 : Int32)] (aw_s I L D) (fun r A => aw_z X (d + 1) y_Mc_act Q 78 [none, none, some (.int v2), none] (r.toList ++ []) A))
    (h2 : ¬ s0 = (20 : Int32) → s0 = (21 : Int32) → aw_m X d y_Mc_beginStep [.ref 4, .int v3, .int (1 : Int32)] (aw_s I L D) (fun r A => aw_z X (d + 1) y_Mc_act Q 88 [none, none, some (.int v2), none] (r.toList ++ []) A))
    (h3 : ¬ s0 = (20 : Int32) → ¬ s0 = (21 : Int32) → s0 = (22 : Int32) → aw_m X d y_Mc_decide [.ref 4] (aw_s I L D) (fun r A => aw_z X (d + 1) y_Mc_act Q 96 [none, none, some (.int v2), some (.int v3)] (r.toList ++ []) A))
    (h4 : ¬ s0 = (20 : Int32) → ¬ s0 = (21 : Int32) → ¬ s0 = (22 : Int32) → s0 = (23 : Int32) → aw_m X d y_Mc_pop [.ref 4] (aw_s I L D) (fun r A => aw_z X (d + 1) y_Mc_act Q 113 [none, none, some (.int v2), none] (r.toList ++ [.int v3, .ref 4]) A))
    (h5 : ¬ s0 = (20 : Int32) → ¬ s0 = (21 : Int32) → ¬ s0 = (22 : Int32) → ¬ s0 = (23 : Int32) → s0 = (24 : Int32) → aw_m X d y_Mc_setCell [.ref 4] (aw_s I L D) (fun r A => aw_z X (d + 1) y_Mc_act Q 124 [none, none, some (.int v2), none] (r.toList ++ []) A))
    (h6 : ¬ s0 = (20 : Int32) → ¬ s0 = (21 : Int32) → ¬ s0 = (22 : Int32) → ¬ s0 = (23 : Int32) → ¬ s0 = (24 : Int32) → s0 = (25 : Int32) → aw_m X d y_Mc_pop [.ref 4] (aw_s I L D) (fun r A => aw_z X (d + 1) y_Mc_act Q 133 [none, none, some (.int v2), none] (r.toList ++ [.ref 4]) A))
    (h7 : ¬ s0 = (20 : Int32) → ¬ s0 = (21 : Int32) → ¬ s0 = (22 : Int32) → ¬ s0 = (23 : Int32) → ¬ s0 = (24 : Int32) → ¬ s0 = (25 : Int32) → s0 = (26 : Int32) → aw_m X d y_Mc_pop [.ref 4] (aw_s I L D) (fun r A => aw_z X (d + 1) y_Mc_act Q 154 [none, none, some (.int v2), none] (r.toList ++ [.ref 4]) A))
    (h8 : ¬ s0 = (20 : Int32) → ¬ s0 = (21 : Int32) → ¬ s0 = (22 : Int32) → ¬ s0 = (23 : Int32) → ¬ s0 = (24 : Int32) → ¬ s0 = (25 : Int32) → ¬ s0 = (26 : Int32) → s0 = (27 : Int32) → aw_m X d y_Mc_nextAnswer [.ref 4] (aw_s I L D) (fun r A => aw_z X (d + 1) y_Mc_act Q 176 [none, none, some (.int v2), none] (r.toList ++ [.int v3, .ref 4]) A))
    (h9 : ¬ s0 = (20 : Int32) → ¬ s0 = (21 : Int32) → ¬ s0 = (22 : Int32) → ¬ s0 = (23 : Int32) → ¬ s0 = (24 : Int32) → ¬ s0 = (25 : Int32) → ¬ s0 = (26 : Int32) → ¬ s0 = (27 : Int32) → s0 = (28 : Int32) → aw_m X d y_Mc_finish [.ref 4, .int (0 : Int32), .int (I 4 11)] (aw_s I L D) (fun r A => aw_z X (d + 1) y_Mc_act Q 192 [none, none, some (.int v2), none] (r.toList ++ []) A))
    (h10 : ¬ s0 = (20 : Int32) → ¬ s0 = (21 : Int32) → ¬ s0 = (22 : Int32) → ¬ s0 = (23 : Int32) → ¬ s0 = (24 : Int32) → ¬ s0 = (25 : Int32) → ¬ s0 = (26 : Int32) → ¬ s0 = (27 : Int32) → ¬ s0 = (28 : Int32) → s0 = (29 : Int32) → aw_m X d y_Mc_enter [.ref 4, .int v3, .int (v2 + (1 : Int32))] (aw_s I L D) (fun r A => aw_z X (d + 1) y_Mc_act Q 202 [none, none, none, none] (r.toList ++ []) A))
    (h11 : ¬ s0 = (20 : Int32) → ¬ s0 = (21 : Int32) → ¬ s0 = (22 : Int32) → ¬ s0 = (23 : Int32) → ¬ s0 = (24 : Int32) → ¬ s0 = (25 : Int32) → ¬ s0 = (26 : Int32) → ¬ s0 = (27 : Int32) → ¬ s0 = (28 : Int32) → ¬ s0 = (29 : Int32) → s0 = (30 : Int32) → aw_m X d y_Mc_leave [.ref 4] (aw_s I L D) (fun r A => aw_z X (d + 1) y_Mc_act Q 207 [none, none, none, none] (r.toList ++ []) A))
    (h12 : ¬ s0 = (20 : Int32) → ¬ s0 = (21 : Int32) → ¬ s0 = (22 : Int32) → ¬ s0 = (23 : Int32) → ¬ s0 = (24 : Int32) → ¬ s0 = (25 : Int32) → ¬ s0 = (26 : Int32) → ¬ s0 = (27 : Int32) → ¬ s0 = (28 : Int32) → ¬ s0 = (29 : Int32) → ¬ s0 = (30 : Int32) → s0 = (31 : Int32) → Q (some (.int v3)) (aw_s I L D))
    (h13 : ¬ s0 = (20 : Int32) → ¬ s0 = (21 : Int32) → ¬ s0 = (22 : Int32) → ¬ s0 = (23 : Int32) → ¬ s0 = (24 : Int32) → ¬ s0 = (25 : Int32) → ¬ s0 = (26 : Int32) → ¬ s0 = (27 : Int32) → ¬ s0 = (28 : Int32) → ¬ s0 = (29 : Int32) → ¬ s0 = (30 : Int32) → ¬ s0 = (31 : Int32) → aw_m X d y_Mc_finish [.ref 4, .int (0 : Int32), .int (-1 : Int32)] (aw_s I L D) (fun r A => aw_z X (d + 1) y_Mc_act Q 216 [none, none, some (.int v2), none] (r.toList ++ []) A)) :
    aw_z X (d + 1) y_Mc_act Q 11 [some (.ref 4), none, some (.int v2), some (.int v3)] [.int s0] (aw_s I L D) :=
  (Decidable.byCases (fun q1 => z_tableIn (off := 61) (tgt := 72) d_Mc_act_11 (by rw [q1]; decide +kernel) (by rw [q1]; decide +kernel) (by rw [q1]; decide +kernel) rfl (s_Mc_act_72.go [some (.ref 4), none, some (.int v2), some (.int v3)] [.int (0 : Int32), .int v3, .ref 4] (aw_s I L D) rfl (z_callV (av := [.int v3, .int (0 : Int32)]) (st := []) ok_Mc_beginStep (Or.inl w_842) w_844 w_35 k_Mc d_Mc_act_75 rfl (aw_lt (o := 4) rfl) rfl rfl (Nat.le_of_ble_eq_true rfl) (Nat.le_refl _) (Nat.le_refl _) (aw_C.mono (h1 q1) (fun _ _ zz => aw_Z.weak (ls' := [none, none, some (.int v2), none]) zz (Nat.le_of_ble_eq_true rfl) ⟨Or.inl rfl, ⟨Or.inl rfl, ⟨Or.inr rfl, ⟨Or.inl rfl, trivial⟩⟩⟩⟩))))) (fun q1n => (Decidable.byCases (fun q2 => z_tableIn (off := 71) (tgt := 82) d_Mc_act_11 (by rw [q2]; decide +kernel) (by rw [q2]; decide +kernel) (by rw [q2]; decide +kernel) rfl (s_Mc_act_82.go [some (.ref 4), none, some (.int v2), some (.int v3)] [.int (1 : Int32), .int v3, .ref 4] (aw_s I L D) rfl (z_callV (av := [.int v3, .int (1 : Int32)]) (st := []) ok_Mc_beginStep (Or.inl w_842) w_844 w_35 k_Mc d_Mc_act_85 rfl (aw_lt (o := 4) rfl) rfl rfl (Nat.le_of_ble_eq_true rfl) (Nat.le_refl _) (Nat.le_refl _) (aw_C.mono (h2 q1n q2) (fun _ _ zz => aw_Z.weak (ls' := [none, none, some (.int v2), none]) zz (Nat.le_of_ble_eq_true rfl) ⟨Or.inl rfl, ⟨Or.inl rfl, ⟨Or.inr rfl, ⟨Or.inl rfl, trivial⟩⟩⟩⟩))))) (fun q2n => (Decidable.byCases (fun q3 => z_tableIn (off := 81) (tgt := 92) d_Mc_act_11 (by rw [q3]; decide +kernel) (by rw [q3]; decide +kernel) (by rw [q3]; decide +kernel) rfl (s_Mc_act_92.go [some (.ref 4), none, some (.int v2), some (.int v3)] [.ref 4] (aw_s I L D) rfl (z_callV (av := []) (st := []) ok_Mc_decide (Or.inl w_850) w_852 w_37 k_Mc d_Mc_act_93 rfl (aw_lt (o := 4) rfl) rfl rfl (Nat.le_of_ble_eq_true rfl) (Nat.le_refl _) (Nat.le_refl _) (aw_C.mono (h3 q1n q2n q3) (fun _ _ zz => aw_Z.weak (ls' := [none, none, some (.int v2), some (.int v3)]) zz (Nat.le_of_ble_eq_true rfl) ⟨Or.inl rfl, ⟨Or.inl rfl, ⟨Or.inr rfl, ⟨Or.inr rfl, trivial⟩⟩⟩⟩))))) (fun q3n => (Decidable.byCases (fun q4 => z_tableIn (off := 96) (tgt := 107) d_Mc_act_11 (by rw [q4]; decide +kernel) (by rw [q4]; decide +kernel) (by rw [q4]; decide +kernel) rfl (s_Mc_act_107.go [some (.ref 4), none, some (.int v2), some (.int v3)] [.ref 4, .int v3, .ref 4] (aw_s I L D) rfl (z_callV (av := []) (st := [.int v3, .ref 4]) ok_Mc_pop (Or.inl w_820) w_822 w_31 k_Mc d_Mc_act_110 rfl (aw_lt (o := 4) rfl) rfl rfl (Nat.le_of_ble_eq_true rfl) (Nat.le_refl _) (Nat.le_refl _) (aw_C.mono (h4 q1n q2n q3n q4) (fun _ _ zz => aw_Z.weak (ls' := [none, none, some (.int v2), none]) zz (Nat.le_of_ble_eq_true rfl) ⟨Or.inl rfl, ⟨Or.inl rfl, ⟨Or.inr rfl, ⟨Or.inl rfl, trivial⟩⟩⟩⟩))))) (fun q4n => (Decidable.byCases (fun q5 => z_tableIn (off := 109) (tgt := 120) d_Mc_act_11 (by rw [q5]; decide +kernel) (by rw [q5]; decide +kernel) (by rw [q5]; decide +kernel) rfl (s_Mc_act_120.go [some (.ref 4), none, some (.int v2), some (.int v3)] [.ref 4] (aw_s I L D) rfl (z_callV (av := []) (st := []) ok_Mc_setCell (Or.inl w_858) w_860 w_39 k_Mc d_Mc_act_121 rfl (aw_lt (o := 4) rfl) rfl rfl (Nat.le_of_ble_eq_true rfl) (Nat.le_refl _) (Nat.le_refl _) (aw_C.mono (h5 q1n q2n q3n q4n q5) (fun _ _ zz => aw_Z.weak (ls' := [none, none, some (.int v2), none]) zz (Nat.le_of_ble_eq_true rfl) ⟨Or.inl rfl, ⟨Or.inl rfl, ⟨Or.inr rfl, ⟨Or.inl rfl, trivial⟩⟩⟩⟩))))) (fun q5n => (Decidable.byCases (fun q6 => z_tableIn (off := 117) (tgt := 128) d_Mc_act_11 (by rw [q6]; decide +kernel) (by rw [q6]; decide +kernel) (by rw [q6]; decide +kernel) rfl (s_Mc_act_128.go [some (.ref 4), none, some (.int v2), some (.int v3)] [.ref 4, .ref 4] (aw_s I L D) rfl (z_callV (av := []) (st := [.ref 4]) ok_Mc_pop (Or.inl w_820) w_822 w_31 k_Mc d_Mc_act_130 rfl (aw_lt (o := 4) rfl) rfl rfl (Nat.le_of_ble_eq_true rfl) (Nat.le_refl _) (Nat.le_refl _) (aw_C.mono (h6 q1n q2n q3n q4n q5n q6) (fun _ _ zz => aw_Z.weak (ls' := [none, none, some (.int v2), none]) zz (Nat.le_of_ble_eq_true rfl) ⟨Or.inl rfl, ⟨Or.inl rfl, ⟨Or.inr rfl, ⟨Or.inl rfl, trivial⟩⟩⟩⟩))))) (fun q6n => (Decidable.byCases (fun q7 => z_tableIn (off := 138) (tgt := 149) d_Mc_act_11 (by rw [q7]; decide +kernel) (by rw [q7]; decide +kernel) (by rw [q7]; decide +kernel) rfl (s_Mc_act_149.go [some (.ref 4), none, some (.int v2), some (.int v3)] [.ref 4, .ref 4] (aw_s I L D) rfl (z_callV (av := []) (st := [.ref 4]) ok_Mc_pop (Or.inl w_820) w_822 w_31 k_Mc d_Mc_act_151 rfl (aw_lt (o := 4) rfl) rfl rfl (Nat.le_of_ble_eq_true rfl) (Nat.le_refl _) (Nat.le_refl _) (aw_C.mono (h7 q1n q2n q3n q4n q5n q6n q7) (fun _ _ zz => aw_Z.weak (ls' := [none, none, some (.int v2), none]) zz (Nat.le_of_ble_eq_true rfl) ⟨Or.inl rfl, ⟨Or.inl rfl, ⟨Or.inr rfl, ⟨Or.inl rfl, trivial⟩⟩⟩⟩))))) (fun q7n => (Decidable.byCases (fun q8 => z_tableIn (off := 159) (tgt := 170) d_Mc_act_11 (by rw [q8]; decide +kernel) (by rw [q8]; decide +kernel) (by rw [q8]; decide +kernel) rfl (s_Mc_act_170.go [some (.ref 4), none, some (.int v2), some (.int v3)] [.ref 4, .int v3, .ref 4] (aw_s I L D) rfl (z_callV (av := []) (st := [.int v3, .ref 4]) ok_Mc_nextAnswer (Or.inl w_866) w_868 w_41 k_Mc d_Mc_act_173 rfl (aw_lt (o := 4) rfl) rfl rfl (Nat.le_of_ble_eq_true rfl) (Nat.le_refl _) (Nat.le_refl _) (aw_C.mono (h8 q1n q2n q3n q4n q5n q6n q7n q8) (fun _ _ zz => aw_Z.weak (ls' := [none, none, some (.int v2), none]) zz (Nat.le_of_ble_eq_true rfl) ⟨Or.inl rfl, ⟨Or.inl rfl, ⟨Or.inr rfl, ⟨Or.inl rfl, trivial⟩⟩⟩⟩))))) (fun q8n => (Decidable.byCases (fun q9 => z_tableIn (off := 172) (tgt := 183) d_Mc_act_11 (by rw [q9]; decide +kernel) (by rw [q9]; decide +kernel) (by rw [q9]; decide +kernel) rfl (s_Mc_act_183.go [some (.ref 4), none, some (.int v2), some (.int v3)] [.int (I 4 11), .int (0 : Int32), .ref 4] (aw_s I L D) rfl (z_callV (av := [.int (0 : Int32), .int (I 4 11)]) (st := []) ok_Mc_finish (Or.inl w_824) w_826 w_32 k_Mc d_Mc_act_189 rfl (aw_lt (o := 4) rfl) rfl rfl (Nat.le_of_ble_eq_true rfl) (Nat.le_refl _) (Nat.le_refl _) (aw_C.mono (h9 q1n q2n q3n q4n q5n q6n q7n q8n q9) (fun _ _ zz => aw_Z.weak (ls' := [none, none, some (.int v2), none]) zz (Nat.le_of_ble_eq_true rfl) ⟨Or.inl rfl, ⟨Or.inl rfl, ⟨Or.inr rfl, ⟨Or.inl rfl, trivial⟩⟩⟩⟩))))) (fun q9n => (Decidable.byCases (fun q10 => z_tableIn (off := 183) (tgt := 194) d_Mc_act_11 (by rw [q10]; decide +kernel) (by rw [q10]; decide +kernel) (by rw [q10]; decide +kernel) rfl (s_Mc_act_194.go [some (.ref 4), none, some (.int v2), some (.int v3)] [.int (v2 + (1 : Int32)), .int v3, .ref 4] (aw_s I L D) rfl (z_callV (av := [.int v3, .int (v2 + (1 : Int32))]) (st := []) ok_Mc_enter (Or.inl w_870) w_872 w_42 k_Mc d_Mc_act_199 rfl (aw_lt (o := 4) rfl) rfl rfl (Nat.le_of_ble_eq_true rfl) (Nat.le_refl _) (Nat.le_refl _) (aw_C.mono (h10 q1n q2n q3n q4n q5n q6n q7n q8n q9n q10) (fun _ _ zz => aw_Z.weak (ls' := [none, none, none, none]) zz (Nat.le_of_ble_eq_true rfl) ⟨Or.inl rfl, ⟨Or.inl rfl, ⟨Or.inl rfl, ⟨Or.inl rfl, trivial⟩⟩⟩⟩))))) (fun q10n => (Decidable.byCases (fun q11 => z_tableIn (off := 192) (tgt := 203) d_Mc_act_11 (by rw [q11]; decide +kernel) (by rw [q11]; decide +kernel) (by rw [q11]; decide +kernel) rfl (s_Mc_act_203.go [some (.ref 4), none, some (.int v2), some (.int v3)] [.ref 4] (aw_s I L D) rfl (z_callV (av := []) (st := []) ok_Mc_leave (Or.inl w_874) w_876 w_43 k_Mc d_Mc_act_204 rfl (aw_lt (o := 4) rfl) rfl rfl (Nat.le_of_ble_eq_true rfl) (Nat.le_refl _) (Nat.le_refl _) (aw_C.mono (h11 q1n q2n q3n q4n q5n q6n q7n q8n q9n q10n q11) (fun _ _ zz => aw_Z.weak (ls' := [none, none, none, none]) zz (Nat.le_of_ble_eq_true rfl) ⟨Or.inl rfl, ⟨Or.inl rfl, ⟨Or.inl rfl, ⟨Or.inl rfl, trivial⟩⟩⟩⟩))))) (fun q11n => (Decidable.byCases (fun q12 => z_tableIn (off := 197) (tgt := 208) d_Mc_act_11 (by rw [q12]; decide +kernel) (by rw [q12]; decide +kernel) (by rw [q12]; decide +kernel) rfl (s_Mc_act_208.go [some (.ref 4), none, some (.int v2), some (.int v3)] [.int v3] (aw_s I L D) rfl (z_iret d_Mc_act_209 rfl rfl (h12 q1n q2n q3n q4n q5n q6n q7n q8n q9n q10n q11n q12)))) (fun q12n => z_tableOut (tgt := 210) d_Mc_act_11 (by have := aw_swout q1n (a := 20) rfl; have := aw_swout q2n (a := 21) rfl; have := aw_swout q3n (a := 22) rfl; have := aw_swout q4n (a := 23) rfl; have := aw_swout q5n (a := 24) rfl; have := aw_swout q6n (a := 25) rfl; have := aw_swout q7n (a := 26) rfl; have := aw_swout q8n (a := 27) rfl; have := aw_swout q9n (a := 28) rfl; have := aw_swout q10n (a := 29) rfl; have := aw_swout q11n (a := 30) rfl; have := aw_swout q12n (a := 31) rfl; omega) rfl (s_Mc_act_210.go [some (.ref 4), none, some (.int v2), some (.int v3)] [.int (-1 : Int32), .int (0 : Int32), .ref 4] (aw_s I L D) rfl (z_callV (av := [.int (0 : Int32), .int (-1 : Int32)]) (st := []) ok_Mc_finish (Or.inl w_824) w_826 w_32 k_Mc d_Mc_act_213 rfl (aw_lt (o := 4) rfl) rfl rfl (Nat.le_of_ble_eq_true rfl) (Nat.le_refl _) (Nat.le_refl _) (aw_C.mono (h13 q1n q2n q3n q4n q5n q6n q7n q8n q9n q10n q11n q12n) (fun _ _ zz => aw_Z.weak (ls' := [none, none, some (.int v2), none]) zz (Nat.le_of_ble_eq_true rfl) ⟨Or.inl rfl, ⟨Or.inl rfl, ⟨Or.inr rfl, ⟨Or.inl rfl, trivial⟩⟩⟩⟩))))))))))))))))))))))))))))
theorem d_Mc_act_78 : decode y_Mc_act.2.1 78 = .ok (.iload_n 2, 1) := by decide +kernel
theorem d_Mc_act_79 : decode y_Mc_act.2.1 79 = .ok (.iconst 1, 1) := by decide +kernel
theorem d_Mc_act_80 : decode y_Mc_act.2.1 80 = .ok (.iadd, 1) := by decide +kernel
theorem s_Mc_act_78 : aw_VS y_Mc_act 78 [o_ild 2, o_c (.int (1 : Int32)), o_i2 (fun x z => x + z)] 81 := .cons (v_iload_n (i := 2) d_Mc_act_78 rfl) (.cons (v_iconst (v := (1 : Int32)) d_Mc_act_79 (by decide +kernel)) (.cons (v_iadd d_Mc_act_80) .nil))
theorem d_Mc_act_81 : decode y_Mc_act.2.1 81 = .ok (.ireturn, 1) := by decide +kernel
theorem b_Mc_act_78 {X : aw_X} {d : Nat} {Q : Option Value → aw_H → Prop} {I : Nat → Nat → Int32} {L : Nat → Nat → Int64} {D : Nat → Nat} {v2 : Int32}
    (h1 : Q (some (.int (v2 + (1 : Int32)))) (aw_s I L D)) :
    aw_z X (d + 1) y_Mc_act Q 78 [none, none, some (.int v2), none] [] (aw_s I L D) :=
  (s_Mc_act_78.go [none, none, some (.int v2), none] [.int (v2 + (1 : Int32))] (aw_s I L D) rfl (z_iret d_Mc_act_81 rfl rfl (h1)))
theorem d_Mc_act_88 : decode y_Mc_act.2.1 88 = .ok (.iload_n 2, 1) := by decide +kernel
theorem d_Mc_act_89 : decode y_Mc_act.2.1 89 = .ok (.iconst 1, 1) := by decide +kernel
theorem d_Mc_act_90 : decode y_Mc_act.2.1 90 = .ok (.iadd, 1) := by decide +kernel
theorem s_Mc_act_88 : aw_VS y_Mc_act 88 [o_ild 2, o_c (.int (1 : Int32)), o_i2 (fun x z => x + z)] 91 := .cons (v_iload_n (i := 2) d_Mc_act_88 rfl) (.cons (v_iconst (v := (1 : Int32)) d_Mc_act_89 (by decide +kernel)) (.cons (v_iadd d_Mc_act_90) .nil))
theorem d_Mc_act_91 : decode y_Mc_act.2.1 91 = .ok (.ireturn, 1) := by decide +kernel
theorem b_Mc_act_88 {X : aw_X} {d : Nat} {Q : Option Value → aw_H → Prop} {I : Nat → Nat → Int32} {L : Nat → Nat → Int64} {D : Nat → Nat} {v2 : Int32}
    (h1 : Q (some (.int (v2 + (1 : Int32)))) (aw_s I L D)) :
    aw_z X (d + 1) y_Mc_act Q 88 [none, none, some (.int v2), none] [] (aw_s I L D) :=
  (s_Mc_act_88.go [none, none, some (.int v2), none] [.int (v2 + (1 : Int32))] (aw_s I L D) rfl (z_iret d_Mc_act_91 rfl rfl (h1)))
theorem d_Mc_act_96 : decode y_Mc_act.2.1 96 = .ok (.ifCond .eq (9), 3) := by decide +kernel
theorem d_Mc_act_105 : decode y_Mc_act.2.1 105 = .ok (.iload_n 3, 1) := by decide +kernel
theorem s_Mc_act_105 : aw_VS y_Mc_act 105 [o_ild 3] 106 := .cons (v_iload_n (i := 3) d_Mc_act_105 rfl) .nil
theorem d_Mc_act_106 : decode y_Mc_act.2.1 106 = .ok (.ireturn, 1) := by decide +kernel
theorem d_Mc_act_99 : decode y_Mc_act.2.1 99 = .ok (.iload_n 2, 1) := by decide +kernel
theorem d_Mc_act_100 : decode y_Mc_act.2.1 100 = .ok (.iconst 1, 1) := by decide +kernel
theorem d_Mc_act_101 : decode y_Mc_act.2.1 101 = .ok (.iadd, 1) := by decide +kernel
theorem s_Mc_act_99 : aw_VS y_Mc_act 99 [o_ild 2, o_c (.int (1 : Int32)), o_i2 (fun x z => x + z)] 102 := .cons (v_iload_n (i := 2) d_Mc_act_99 rfl) (.cons (v_iconst (v := (1 : Int32)) d_Mc_act_100 (by decide +kernel)) (.cons (v_iadd d_Mc_act_101) .nil))
theorem d_Mc_act_102 : decode y_Mc_act.2.1 102 = .ok (.goto (4), 3) := by decide +kernel
theorem b_Mc_act_96 {X : aw_X} {d : Nat} {Q : Option Value → aw_H → Prop} {I : Nat → Nat → Int32} {L : Nat → Nat → Int64} {D : Nat → Nat} {v2 : Int32} {v3 : Int32} {s0 : Int32}
    (h1 : s0 = 0 → Q (some (.int v3)) (aw_s I L D))
    (h2 : ¬ s0 = 0 → Q (some (.int (v2 + (1 : Int32)))) (aw_s I L D)) :
    aw_z X (d + 1) y_Mc_act Q 96 [none, none, some (.int v2), some (.int v3)] [.int s0] (aw_s I L D) :=
  (z_if_eq (tgt := 105) d_Mc_act_96 rfl (fun q1 => (s_Mc_act_105.go [none, none, some (.int v2), some (.int v3)] [.int v3] (aw_s I L D) rfl (z_iret d_Mc_act_106 rfl rfl (h1 q1)))) (fun q2 => (s_Mc_act_99.go [none, none, some (.int v2), some (.int v3)] [.int (v2 + (1 : Int32))] (aw_s I L D) rfl (z_goto (tgt := 106) d_Mc_act_102 rfl (z_iret d_Mc_act_106 rfl rfl (h2 q2))))))
theorem d_Mc_act_113 : decode y_Mc_act.2.1 113 = .ok (.invokevirtual 165, 3) := by decide +kernel
theorem b_Mc_act_113 {X : aw_X} {d : Nat} {Q : Option Value → aw_H → Prop} {I : Nat → Nat → Int32} {L : Nat → Nat → Int64} {D : Nat → Nat} {v2 : Int32} {s2 : Int32} {s1 : Int32}
    (h1 : aw_m X d y_Mc_setName [.ref 4, .int s1, .int s2] (aw_s I L D) (fun r A => aw_z X (d + 1) y_Mc_act Q 116 [none, none, some (.int v2), none] (r.toList ++ []) A)) :
    aw_z X (d + 1) y_Mc_act Q 113 [none, none, some (.int v2), none] [.int s2, .int s1, .ref 4] (aw_s I L D) :=
  (z_callV (av := [.int s1, .int s2]) (st := []) ok_Mc_setName (Or.inl w_854) w_856 w_38 k_Mc d_Mc_act_113 rfl (aw_lt (o := 4) rfl) rfl rfl (Nat.le_of_ble_eq_true rfl) (Nat.le_refl _) (Nat.le_refl _) (h1))
theorem d_Mc_act_124 : decode y_Mc_act.2.1 124 = .ok (.iload_n 2, 1) := by decide +kernel
theorem d_Mc_act_125 : decode y_Mc_act.2.1 125 = .ok (.iconst 1, 1) := by decide +kernel
theorem d_Mc_act_126 : decode y_Mc_act.2.1 126 = .ok (.iadd, 1) := by decide +kernel
theorem s_Mc_act_124 : aw_VS y_Mc_act 124 [o_ild 2, o_c (.int (1 : Int32)), o_i2 (fun x z => x + z)] 127 := .cons (v_iload_n (i := 2) d_Mc_act_124 rfl) (.cons (v_iconst (v := (1 : Int32)) d_Mc_act_125 (by decide +kernel)) (.cons (v_iadd d_Mc_act_126) .nil))
theorem d_Mc_act_127 : decode y_Mc_act.2.1 127 = .ok (.ireturn, 1) := by decide +kernel
theorem b_Mc_act_124 {X : aw_X} {d : Nat} {Q : Option Value → aw_H → Prop} {I : Nat → Nat → Int32} {L : Nat → Nat → Int64} {D : Nat → Nat} {v2 : Int32}
    (h1 : Q (some (.int (v2 + (1 : Int32)))) (aw_s I L D)) :
    aw_z X (d + 1) y_Mc_act Q 124 [none, none, some (.int v2), none] [] (aw_s I L D) :=
  (s_Mc_act_124.go [none, none, some (.int v2), none] [.int (v2 + (1 : Int32))] (aw_s I L D) rfl (z_iret d_Mc_act_127 rfl rfl (h1)))
theorem d_Mc_act_133 : decode y_Mc_act.2.1 133 = .ok (.ifCond .eq (7), 3) := by decide +kernel
theorem d_Mc_act_140 : decode y_Mc_act.2.1 140 = .ok (.iconst 0, 1) := by decide +kernel
theorem s_Mc_act_140 : aw_VS y_Mc_act 140 [o_c (.int (0 : Int32))] 141 := .cons (v_iconst (v := (0 : Int32)) d_Mc_act_140 (by decide +kernel)) .nil
theorem d_Mc_act_136 : decode y_Mc_act.2.1 136 = .ok (.iconst 1, 1) := by decide +kernel
theorem s_Mc_act_136 : aw_VS y_Mc_act 136 [o_c (.int (1 : Int32))] 137 := .cons (v_iconst (v := (1 : Int32)) d_Mc_act_136 (by decide +kernel)) .nil
theorem d_Mc_act_137 : decode y_Mc_act.2.1 137 = .ok (.goto (4), 3) := by decide +kernel
theorem b_Mc_act_133 {X : aw_X} {d : Nat} {Q : Option Value → aw_H → Prop} {I : Nat → Nat → Int32} {L : Nat → Nat → Int64} {D : Nat → Nat} {v2 : Int32} {s1 : Int32}
    (h1 : s1 = 0 → aw_z X (d + 1) y_Mc_act Q 141 [none, none, some (.int v2), none] [.int (0 : Int32), .ref 4] (aw_s I L D))
    (h2 : ¬ s1 = 0 → aw_z X (d + 1) y_Mc_act Q 141 [none, none, some (.int v2), none] [.int (1 : Int32), .ref 4] (aw_s I L D)) :
    aw_z X (d + 1) y_Mc_act Q 133 [none, none, some (.int v2), none] [.int s1, .ref 4] (aw_s I L D) :=
  (z_if_eq (tgt := 140) d_Mc_act_133 rfl (fun q1 => (s_Mc_act_140.go [none, none, some (.int v2), none] [.int (0 : Int32), .ref 4] (aw_s I L D) rfl (h1 q1))) (fun q2 => (s_Mc_act_136.go [none, none, some (.int v2), none] [.int (1 : Int32), .ref 4] (aw_s I L D) rfl (z_goto (tgt := 141) d_Mc_act_137 rfl (h2 q2)))))
theorem d_Mc_act_154 : decode y_Mc_act.2.1 154 = .ok (.ifCond .eq (7), 3) := by decide +kernel
theorem d_Mc_act_161 : decode y_Mc_act.2.1 161 = .ok (.iconst 0, 1) := by decide +kernel
theorem s_Mc_act_161 : aw_VS y_Mc_act 161 [o_c (.int (0 : Int32))] 162 := .cons (v_iconst (v := (0 : Int32)) d_Mc_act_161 (by decide +kernel)) .nil
theorem d_Mc_act_157 : decode y_Mc_act.2.1 157 = .ok (.iconst 1, 1) := by decide +kernel
theorem s_Mc_act_157 : aw_VS y_Mc_act 157 [o_c (.int (1 : Int32))] 158 := .cons (v_iconst (v := (1 : Int32)) d_Mc_act_157 (by decide +kernel)) .nil
theorem d_Mc_act_158 : decode y_Mc_act.2.1 158 = .ok (.goto (4), 3) := by decide +kernel
theorem b_Mc_act_154 {X : aw_X} {d : Nat} {Q : Option Value → aw_H → Prop} {I : Nat → Nat → Int32} {L : Nat → Nat → Int64} {D : Nat → Nat} {v2 : Int32} {s1 : Int32}
    (h1 : s1 = 0 → aw_z X (d + 1) y_Mc_act Q 162 [none, none, some (.int v2), none] [.int (0 : Int32), .ref 4] (aw_s I L D))
    (h2 : ¬ s1 = 0 → aw_z X (d + 1) y_Mc_act Q 162 [none, none, some (.int v2), none] [.int (1 : Int32), .ref 4] (aw_s I L D)) :
    aw_z X (d + 1) y_Mc_act Q 154 [none, none, some (.int v2), none] [.int s1, .ref 4] (aw_s I L D) :=
  (z_if_eq (tgt := 161) d_Mc_act_154 rfl (fun q1 => (s_Mc_act_161.go [none, none, some (.int v2), none] [.int (0 : Int32), .ref 4] (aw_s I L D) rfl (h1 q1))) (fun q2 => (s_Mc_act_157.go [none, none, some (.int v2), none] [.int (1 : Int32), .ref 4] (aw_s I L D) rfl (z_goto (tgt := 162) d_Mc_act_158 rfl (h2 q2)))))
theorem d_Mc_act_176 : decode y_Mc_act.2.1 176 = .ok (.invokevirtual 165, 3) := by decide +kernel
theorem b_Mc_act_176 {X : aw_X} {d : Nat} {Q : Option Value → aw_H → Prop} {I : Nat → Nat → Int32} {L : Nat → Nat → Int64} {D : Nat → Nat} {v2 : Int32} {s2 : Int32} {s1 : Int32}
    (h1 : aw_m X d y_Mc_setName [.ref 4, .int s1, .int s2] (aw_s I L D) (fun r A => aw_z X (d + 1) y_Mc_act Q 179 [none, none, some (.int v2), none] (r.toList ++ []) A)) :
    aw_z X (d + 1) y_Mc_act Q 176 [none, none, some (.int v2), none] [.int s2, .int s1, .ref 4] (aw_s I L D) :=
  (z_callV (av := [.int s1, .int s2]) (st := []) ok_Mc_setName (Or.inl w_854) w_856 w_38 k_Mc d_Mc_act_176 rfl (aw_lt (o := 4) rfl) rfl rfl (Nat.le_of_ble_eq_true rfl) (Nat.le_refl _) (Nat.le_refl _) (h1))
theorem d_Mc_act_192 : decode y_Mc_act.2.1 192 = .ok (.iload_n 2, 1) := by decide +kernel
theorem s_Mc_act_192 : aw_VS y_Mc_act 192 [o_ild 2] 193 := .cons (v_iload_n (i := 2) d_Mc_act_192 rfl) .nil
theorem d_Mc_act_193 : decode y_Mc_act.2.1 193 = .ok (.ireturn, 1) := by decide +kernel
theorem b_Mc_act_192 {X : aw_X} {d : Nat} {Q : Option Value → aw_H → Prop} {I : Nat → Nat → Int32} {L : Nat → Nat → Int64} {D : Nat → Nat} {v2 : Int32}
    (h1 : Q (some (.int v2)) (aw_s I L D)) :
    aw_z X (d + 1) y_Mc_act Q 192 [none, none, some (.int v2), none] [] (aw_s I L D) :=
  (s_Mc_act_192.go [none, none, some (.int v2), none] [.int v2] (aw_s I L D) rfl (z_iret d_Mc_act_193 rfl rfl (h1)))
theorem d_Mc_act_202 : decode y_Mc_act.2.1 202 = .ok (.ireturn, 1) := by decide +kernel
theorem b_Mc_act_202 {X : aw_X} {d : Nat} {Q : Option Value → aw_H → Prop} {I : Nat → Nat → Int32} {L : Nat → Nat → Int64} {D : Nat → Nat} {s0 : Int32}
    (h1 : Q (some (.int s0)) (aw_s I L D)) :
    aw_z X (d + 1) y_Mc_act Q 202 [none, none, none, none] [.int s0] (aw_s I L D) :=
  (z_iret d_Mc_act_202 rfl rfl (h1))
theorem d_Mc_act_207 : decode y_Mc_act.2.1 207 = .ok (.ireturn, 1) := by decide +kernel
theorem b_Mc_act_207 {X : aw_X} {d : Nat} {Q : Option Value → aw_H → Prop} {I : Nat → Nat → Int32} {L : Nat → Nat → Int64} {D : Nat → Nat} {s0 : Int32}
    (h1 : Q (some (.int s0)) (aw_s I L D)) :
    aw_z X (d + 1) y_Mc_act Q 207 [none, none, none, none] [.int s0] (aw_s I L D) :=
  (z_iret d_Mc_act_207 rfl rfl (h1))
theorem d_Mc_act_216 : decode y_Mc_act.2.1 216 = .ok (.iload_n 2, 1) := by decide +kernel
theorem s_Mc_act_216 : aw_VS y_Mc_act 216 [o_ild 2] 217 := .cons (v_iload_n (i := 2) d_Mc_act_216 rfl) .nil
theorem d_Mc_act_217 : decode y_Mc_act.2.1 217 = .ok (.ireturn, 1) := by decide +kernel
theorem b_Mc_act_216 {X : aw_X} {d : Nat} {Q : Option Value → aw_H → Prop} {I : Nat → Nat → Int32} {L : Nat → Nat → Int64} {D : Nat → Nat} {v2 : Int32}
    (h1 : Q (some (.int v2)) (aw_s I L D)) :
    aw_z X (d + 1) y_Mc_act Q 216 [none, none, some (.int v2), none] [] (aw_s I L D) :=
  (s_Mc_act_216.go [none, none, some (.int v2), none] [.int v2] (aw_s I L D) rfl (z_iret d_Mc_act_217 rfl rfl (h1)))
theorem d_Mc_act_116 : decode y_Mc_act.2.1 116 = .ok (.iload_n 2, 1) := by decide +kernel
theorem d_Mc_act_117 : decode y_Mc_act.2.1 117 = .ok (.iconst 1, 1) := by decide +kernel
theorem d_Mc_act_118 : decode y_Mc_act.2.1 118 = .ok (.iadd, 1) := by decide +kernel
theorem s_Mc_act_116 : aw_VS y_Mc_act 116 [o_ild 2, o_c (.int (1 : Int32)), o_i2 (fun x z => x + z)] 119 := .cons (v_iload_n (i := 2) d_Mc_act_116 rfl) (.cons (v_iconst (v := (1 : Int32)) d_Mc_act_117 (by decide +kernel)) (.cons (v_iadd d_Mc_act_118) .nil))
theorem d_Mc_act_119 : decode y_Mc_act.2.1 119 = .ok (.ireturn, 1) := by decide +kernel
theorem b_Mc_act_116 {X : aw_X} {d : Nat} {Q : Option Value → aw_H → Prop} {I : Nat → Nat → Int32} {L : Nat → Nat → Int64} {D : Nat → Nat} {v2 : Int32}
    (h1 : Q (some (.int (v2 + (1 : Int32)))) (aw_s I L D)) :
    aw_z X (d + 1) y_Mc_act Q 116 [none, none, some (.int v2), none] [] (aw_s I L D) :=
  (s_Mc_act_116.go [none, none, some (.int v2), none] [.int (v2 + (1 : Int32))] (aw_s I L D) rfl (z_iret d_Mc_act_119 rfl rfl (h1)))
theorem d_Mc_act_141 : decode y_Mc_act.2.1 141 = .ok (.iconst 1, 1) := by decide +kernel
theorem s_Mc_act_141 : aw_VS y_Mc_act 141 [o_c (.int (1 : Int32))] 142 := .cons (v_iconst (v := (1 : Int32)) d_Mc_act_141 (by decide +kernel)) .nil
theorem d_Mc_act_142 : decode y_Mc_act.2.1 142 = .ok (.invokevirtual 171, 3) := by decide +kernel
theorem b_Mc_act_141 {X : aw_X} {d : Nat} {Q : Option Value → aw_H → Prop} {I : Nat → Nat → Int32} {L : Nat → Nat → Int64} {D : Nat → Nat} {v2 : Int32} {s1 : Int32}
    (h1 : aw_m X d y_Mc_goOnIf [.ref 4, .int s1, .int (1 : Int32)] (aw_s I L D) (fun r A => aw_z X (d + 1) y_Mc_act Q 145 [none, none, some (.int v2), none] (r.toList ++ []) A)) :
    aw_z X (d + 1) y_Mc_act Q 141 [none, none, some (.int v2), none] [.int s1, .ref 4] (aw_s I L D) :=
  (s_Mc_act_141.go [none, none, some (.int v2), none] [.int (1 : Int32), .int s1, .ref 4] (aw_s I L D) rfl (z_callV (av := [.int s1, .int (1 : Int32)]) (st := []) ok_Mc_goOnIf (Or.inl w_862) w_864 w_40 k_Mc d_Mc_act_142 rfl (aw_lt (o := 4) rfl) rfl rfl (Nat.le_of_ble_eq_true rfl) (Nat.le_refl _) (Nat.le_refl _) (h1)))
theorem d_Mc_act_162 : decode y_Mc_act.2.1 162 = .ok (.iconst 4, 1) := by decide +kernel
theorem s_Mc_act_162 : aw_VS y_Mc_act 162 [o_c (.int (4 : Int32))] 163 := .cons (v_iconst (v := (4 : Int32)) d_Mc_act_162 (by decide +kernel)) .nil
theorem d_Mc_act_163 : decode y_Mc_act.2.1 163 = .ok (.invokevirtual 171, 3) := by decide +kernel
theorem b_Mc_act_162 {X : aw_X} {d : Nat} {Q : Option Value → aw_H → Prop} {I : Nat → Nat → Int32} {L : Nat → Nat → Int64} {D : Nat → Nat} {v2 : Int32} {s1 : Int32}
    (h1 : aw_m X d y_Mc_goOnIf [.ref 4, .int s1, .int (4 : Int32)] (aw_s I L D) (fun r A => aw_z X (d + 1) y_Mc_act Q 166 [none, none, some (.int v2), none] (r.toList ++ []) A)) :
    aw_z X (d + 1) y_Mc_act Q 162 [none, none, some (.int v2), none] [.int s1, .ref 4] (aw_s I L D) :=
  (s_Mc_act_162.go [none, none, some (.int v2), none] [.int (4 : Int32), .int s1, .ref 4] (aw_s I L D) rfl (z_callV (av := [.int s1, .int (4 : Int32)]) (st := []) ok_Mc_goOnIf (Or.inl w_862) w_864 w_40 k_Mc d_Mc_act_163 rfl (aw_lt (o := 4) rfl) rfl rfl (Nat.le_of_ble_eq_true rfl) (Nat.le_refl _) (Nat.le_refl _) (h1)))
theorem d_Mc_act_179 : decode y_Mc_act.2.1 179 = .ok (.iload_n 2, 1) := by decide +kernel
theorem d_Mc_act_180 : decode y_Mc_act.2.1 180 = .ok (.iconst 1, 1) := by decide +kernel
theorem d_Mc_act_181 : decode y_Mc_act.2.1 181 = .ok (.iadd, 1) := by decide +kernel
theorem s_Mc_act_179 : aw_VS y_Mc_act 179 [o_ild 2, o_c (.int (1 : Int32)), o_i2 (fun x z => x + z)] 182 := .cons (v_iload_n (i := 2) d_Mc_act_179 rfl) (.cons (v_iconst (v := (1 : Int32)) d_Mc_act_180 (by decide +kernel)) (.cons (v_iadd d_Mc_act_181) .nil))
theorem d_Mc_act_182 : decode y_Mc_act.2.1 182 = .ok (.ireturn, 1) := by decide +kernel
theorem b_Mc_act_179 {X : aw_X} {d : Nat} {Q : Option Value → aw_H → Prop} {I : Nat → Nat → Int32} {L : Nat → Nat → Int64} {D : Nat → Nat} {v2 : Int32}
    (h1 : Q (some (.int (v2 + (1 : Int32)))) (aw_s I L D)) :
    aw_z X (d + 1) y_Mc_act Q 179 [none, none, some (.int v2), none] [] (aw_s I L D) :=
  (s_Mc_act_179.go [none, none, some (.int v2), none] [.int (v2 + (1 : Int32))] (aw_s I L D) rfl (z_iret d_Mc_act_182 rfl rfl (h1)))
theorem d_Mc_act_145 : decode y_Mc_act.2.1 145 = .ok (.iload_n 2, 1) := by decide +kernel
theorem d_Mc_act_146 : decode y_Mc_act.2.1 146 = .ok (.iconst 1, 1) := by decide +kernel
theorem d_Mc_act_147 : decode y_Mc_act.2.1 147 = .ok (.iadd, 1) := by decide +kernel
theorem s_Mc_act_145 : aw_VS y_Mc_act 145 [o_ild 2, o_c (.int (1 : Int32)), o_i2 (fun x z => x + z)] 148 := .cons (v_iload_n (i := 2) d_Mc_act_145 rfl) (.cons (v_iconst (v := (1 : Int32)) d_Mc_act_146 (by decide +kernel)) (.cons (v_iadd d_Mc_act_147) .nil))
theorem d_Mc_act_148 : decode y_Mc_act.2.1 148 = .ok (.ireturn, 1) := by decide +kernel
theorem b_Mc_act_145 {X : aw_X} {d : Nat} {Q : Option Value → aw_H → Prop} {I : Nat → Nat → Int32} {L : Nat → Nat → Int64} {D : Nat → Nat} {v2 : Int32}
    (h1 : Q (some (.int (v2 + (1 : Int32)))) (aw_s I L D)) :
    aw_z X (d + 1) y_Mc_act Q 145 [none, none, some (.int v2), none] [] (aw_s I L D) :=
  (s_Mc_act_145.go [none, none, some (.int v2), none] [.int (v2 + (1 : Int32))] (aw_s I L D) rfl (z_iret d_Mc_act_148 rfl rfl (h1)))
theorem d_Mc_act_166 : decode y_Mc_act.2.1 166 = .ok (.iload_n 2, 1) := by decide +kernel
theorem d_Mc_act_167 : decode y_Mc_act.2.1 167 = .ok (.iconst 1, 1) := by decide +kernel
theorem d_Mc_act_168 : decode y_Mc_act.2.1 168 = .ok (.iadd, 1) := by decide +kernel
theorem s_Mc_act_166 : aw_VS y_Mc_act 166 [o_ild 2, o_c (.int (1 : Int32)), o_i2 (fun x z => x + z)] 169 := .cons (v_iload_n (i := 2) d_Mc_act_166 rfl) (.cons (v_iconst (v := (1 : Int32)) d_Mc_act_167 (by decide +kernel)) (.cons (v_iadd d_Mc_act_168) .nil))
theorem d_Mc_act_169 : decode y_Mc_act.2.1 169 = .ok (.ireturn, 1) := by decide +kernel
theorem b_Mc_act_166 {X : aw_X} {d : Nat} {Q : Option Value → aw_H → Prop} {I : Nat → Nat → Int32} {L : Nat → Nat → Int64} {D : Nat → Nat} {v2 : Int32}
    (h1 : Q (some (.int (v2 + (1 : Int32)))) (aw_s I L D)) :
    aw_z X (d + 1) y_Mc_act Q 166 [none, none, some (.int v2), none] [] (aw_s I L D) :=
  (s_Mc_act_166.go [none, none, some (.int v2), none] [.int (v2 + (1 : Int32))] (aw_s I L D) rfl (z_iret d_Mc_act_169 rfl rfl (h1)))
/-! Mc_beginStep -/
theorem d_Mc_beginStep_0 : decode y_Mc_beginStep.2.1 0 = .ok (.aload_n 0, 1) := by decide +kernel
theorem d_Mc_beginStep_1 : decode y_Mc_beginStep.2.1 1 = .ok (.iload_n 1, 1) := by decide +kernel
theorem d_Mc_beginStep_2 : decode y_Mc_beginStep.2.1 2 = .ok (.putfield 111, 3) := by decide +kernel
theorem d_Mc_beginStep_5 : decode y_Mc_beginStep.2.1 5 = .ok (.aload_n 0, 1) := by decide +kernel
theorem d_Mc_beginStep_6 : decode y_Mc_beginStep.2.1 6 = .ok (.getfield 66, 3) := by decide +kernel
theorem s_Mc_beginStep_0 : aw_VS y_Mc_beginStep 0 [o_ald 0, o_ild 1, o_putI 3 11, o_ald 0, o_getI 3 19] 9 := .cons (v_aload_n (i := 0) d_Mc_beginStep_0 rfl) (.cons (v_iload_n (i := 1) d_Mc_beginStep_1 rfl) (.cons (v_putI (k := 11) k_Mc (by decide) rfl (Or.inl ⟨rfl, Or.inl w_134⟩) d_Mc_beginStep_2) (.cons (v_aload_n (i := 0) d_Mc_beginStep_5 rfl) (.cons (v_getI (k := 19) k_Mc (by decide) (Or.inr rfl) (Or.inl w_151) d_Mc_beginStep_6) .nil))))
theorem d_Mc_beginStep_9 : decode y_Mc_beginStep.2.1 9 = .ok (.ifCond .eq (7), 3) := by decide +kernel
theorem d_Mc_beginStep_12 : decode y_Mc_beginStep.2.1 12 = .ok (.aload_n 0, 1) := by decide +kernel
theorem s_Mc_beginStep_12 : aw_VS y_Mc_beginStep 12 [o_ald 0] 13 := .cons (v_aload_n (i := 0) d_Mc_beginStep_12 rfl) .nil
theorem d_Mc_beginStep_13 : decode y_Mc_beginStep.2.1 13 = .ok (.invokevirtual 185, 3) := by decide +kernel
theorem b_Mc_beginStep_0 {X : aw_X} {d : Nat} {Q : Option Value → aw_H → Prop} {I : Nat → Nat → Int32} {L : Nat → Nat → Int64} {D : Nat → Nat} {v1 : Int32} {v2 : Int32}
    (h1 : (I 4 19) = 0 → aw_z X (d + 1) y_Mc_beginStep Q 16 [some (.ref 4), some (.int v1), some (.int v2)] [] (aw_s (aw_u I 4 11 v1) L D))
    (h2 : ¬ (I 4 19) = 0 → aw_m X d y_Mc_noteBegun [.ref 4] (aw_s (aw_u I 4 11 v1) L D) (fun r A => aw_z X (d + 1) y_Mc_beginStep Q 16 [some (.ref 4), some (.int v1), some (.int v2)] (r.toList ++ []) A)) :
    aw_z X (d + 1) y_Mc_beginStep Q 0 [some (.ref 4), some (.int v1), some (.int v2)] [] (aw_s I L D) :=
  (s_Mc_beginStep_0.go [some (.ref 4), some (.int v1), some (.int v2)] [.int (I 4 19)] (aw_s (aw_u I 4 11 v1) L D) rfl (z_if_eq (tgt := 16) d_Mc_beginStep_9 rfl (fun q1 => (h1 q1)) (fun q2 => (s_Mc_beginStep_12.go [some (.ref 4), some (.int v1), some (.int v2)] [.ref 4] (aw_s (aw_u I 4 11 v1) L D) rfl (z_callV (av := []) (st := []) ok_Mc_noteBegun (Or.inl w_846) w_848 w_36 k_Mc d_Mc_beginStep_13 rfl (aw_lt (o := 4) rfl) rfl rfl (Nat.le_of_ble_eq_true rfl) (Nat.le_refl _) (Nat.le_refl _) (h2 q2))))))
theorem d_Mc_beginStep_16 : decode y_Mc_beginStep.2.1 16 = .ok (.aload_n 0, 1) := by decide +kernel
theorem d_Mc_beginStep_17 : decode y_Mc_beginStep.2.1 17 = .ok (.dup, 1) := by decide +kernel
theorem d_Mc_beginStep_18 : decode y_Mc_beginStep.2.1 18 = .ok (.getfield 114, 3) := by decide +kernel
theorem d_Mc_beginStep_21 : decode y_Mc_beginStep.2.1 21 = .ok (.iconst 1, 1) := by decide +kernel
theorem d_Mc_beginStep_22 : decode y_Mc_beginStep.2.1 22 = .ok (.iadd, 1) := by decide +kernel
theorem d_Mc_beginStep_23 : decode y_Mc_beginStep.2.1 23 = .ok (.putfield 114, 3) := by decide +kernel
theorem d_Mc_beginStep_26 : decode y_Mc_beginStep.2.1 26 = .ok (.aload_n 0, 1) := by decide +kernel
theorem d_Mc_beginStep_27 : decode y_Mc_beginStep.2.1 27 = .ok (.getfield 114, 3) := by decide +kernel
theorem d_Mc_beginStep_30 : decode y_Mc_beginStep.2.1 30 = .ok (.sipush 1000, 3) := by decide +kernel
theorem s_Mc_beginStep_16 : aw_VS y_Mc_beginStep 16 [o_ald 0, o_dup, o_getI 3 12, o_c (.int (1 : Int32)), o_i2 (fun x z => x + z), o_putI 3 12, o_ald 0, o_getI 3 12, o_c (.int (1000 : Int32))] 33 := .cons (v_aload_n (i := 0) d_Mc_beginStep_16 rfl) (.cons (v_dup d_Mc_beginStep_17) (.cons (v_getI (k := 12) k_Mc (by decide) (Or.inl rfl) (Or.inl w_136) d_Mc_beginStep_18) (.cons (v_iconst (v := (1 : Int32)) d_Mc_beginStep_21 (by decide +kernel)) (.cons (v_iadd d_Mc_beginStep_22) (.cons (v_putI (k := 12) k_Mc (by decide) rfl (Or.inl ⟨rfl, Or.inl w_136⟩) d_Mc_beginStep_23) (.cons (v_aload_n (i := 0) d_Mc_beginStep_26 rfl) (.cons (v_getI (k := 12) k_Mc (by decide) (Or.inl rfl) (Or.inl w_136) d_Mc_beginStep_27) (.cons (v_sipush (v := (1000 : Int32)) d_Mc_beginStep_30 (by decide +kernel)) .nil))))))))
theorem d_Mc_beginStep_33 : decode y_Mc_beginStep.2.1 33 = .ok (.if_icmp .gt (18), 3) := by decide +kernel
theorem d_Mc_beginStep_36 : decode y_Mc_beginStep.2.1 36 = .ok (.iload_n 2, 1) := by decide +kernel
theorem s_Mc_beginStep_36 : aw_VS y_Mc_beginStep 36 [o_ild 2] 37 := .cons (v_iload_n (i := 2) d_Mc_beginStep_36 rfl) .nil
theorem d_Mc_beginStep_37 : decode y_Mc_beginStep.2.1 37 = .ok (.ifCond .eq (20), 3) := by decide +kernel
theorem d_Mc_beginStep_40 : decode y_Mc_beginStep.2.1 40 = .ok (.aload_n 0, 1) := by decide +kernel
theorem d_Mc_beginStep_41 : decode y_Mc_beginStep.2.1 41 = .ok (.getfield 117, 3) := by decide +kernel
theorem d_Mc_beginStep_44 : decode y_Mc_beginStep.2.1 44 = .ok (.aload_n 0, 1) := by decide +kernel
theorem d_Mc_beginStep_45 : decode y_Mc_beginStep.2.1 45 = .ok (.getfield 47, 3) := by decide +kernel
theorem s_Mc_beginStep_40 : aw_VS y_Mc_beginStep 40 [o_ald 0, o_getI 3 13, o_ald 0, o_getI 3 10] 48 := .cons (v_aload_n (i := 0) d_Mc_beginStep_40 rfl) (.cons (v_getI (k := 13) k_Mc (by decide) (Or.inl rfl) (Or.inl w_138) d_Mc_beginStep_41) (.cons (v_aload_n (i := 0) d_Mc_beginStep_44 rfl) (.cons (v_getI (k := 10) k_Mc (by decide) (Or.inl rfl) (Or.inl w_133) d_Mc_beginStep_45) .nil)))
theorem d_Mc_beginStep_48 : decode y_Mc_beginStep.2.1 48 = .ok (.if_icmp .lt (9), 3) := by decide +kernel
theorem b_Mc_beginStep_16 {X : aw_X} {d : Nat} {Q : Option Value → aw_H → Prop} {I : Nat → Nat → Int32} {L : Nat → Nat → Int64} {D : Nat → Nat} {v1 : Int32} {v2 : Int32}
    (h1 : (1000 : Int32) < ((I 4 12) + (1 : Int32)) → aw_z X (d + 1) y_Mc_beginStep Q 51 [some (.ref 4), some (.int v1), none] [] (aw_s (aw_u I 4 12 ((I 4 12) + (1 : Int32))) L D))
    (h2 : ¬ (1000 : Int32) < ((I 4 12) + (1 : Int32)) → v2 = 0 → aw_z X (d + 1) y_Mc_beginStep Q 57 [none, none, none] [] (aw_s (aw_u I 4 12 ((I 4 12) + (1 : Int32))) L D))
    (h3 : ¬ (1000 : Int32) < ((I 4 12) + (1 : Int32)) → ¬ v2 = 0 → (I 4 13) < (I 4 10) → aw_z X (d + 1) y_Mc_beginStep Q 57 [none, none, none] [] (aw_s (aw_u I 4 12 ((I 4 12) + (1 : Int32))) L D))
    (h4 : ¬ (1000 : Int32) < ((I 4 12) + (1 : Int32)) → ¬ v2 = 0 → ¬ (I 4 13) < (I 4 10) → aw_z X (d + 1) y_Mc_beginStep Q 51 [some (.ref 4), some (.int v1), none] [] (aw_s (aw_u I 4 12 ((I 4 12) + (1 : Int32))) L D)) :
    aw_z X (d + 1) y_Mc_beginStep Q 16 [some (.ref 4), some (.int v1), some (.int v2)] [] (aw_s I L D) :=
  (s_Mc_beginStep_16.go [some (.ref 4), some (.int v1), some (.int v2)] [.int (1000 : Int32), .int ((I 4 12) + (1 : Int32))] (aw_s (aw_u I 4 12 ((I 4 12) + (1 : Int32))) L D) rfl (z_icmp_gt (tgt := 51) d_Mc_beginStep_33 rfl (fun q1 => (aw_Z.weak (ls' := [some (.ref 4), some (.int v1), none]) (h1 q1) (Nat.le_of_ble_eq_true rfl) ⟨Or.inr rfl, ⟨Or.inr rfl, ⟨Or.inl rfl, trivial⟩⟩⟩)) (fun q2 => (s_Mc_beginStep_36.go [some (.ref 4), some (.int v1), some (.int v2)] [.int v2] (aw_s (aw_u I 4 12 ((I 4 12) + (1 : Int32))) L D) rfl (z_if_eq (tgt := 57) d_Mc_beginStep_37 rfl (fun q3 => (aw_Z.weak (ls' := [none, none, none]) (h2 q2 q3) (Nat.le_of_ble_eq_true rfl) ⟨Or.inl rfl, ⟨Or.inl rfl, ⟨Or.inl rfl, trivial⟩⟩⟩)) (fun q4 => (s_Mc_beginStep_40.go [some (.ref 4), some (.int v1), some (.int v2)] [.int (I 4 10), .int (I 4 13)] (aw_s (aw_u I 4 12 ((I 4 12) + (1 : Int32))) L D) rfl (z_icmp_lt (tgt := 57) d_Mc_beginStep_48 rfl (fun q5 => (aw_Z.weak (ls' := [none, none, none]) (h3 q2 q4 q5) (Nat.le_of_ble_eq_true rfl) ⟨Or.inl rfl, ⟨Or.inl rfl, ⟨Or.inl rfl, trivial⟩⟩⟩)) (fun q6 => (aw_Z.weak (ls' := [some (.ref 4), some (.int v1), none]) (h4 q2 q4 q6) (Nat.le_of_ble_eq_true rfl) ⟨Or.inr rfl, ⟨Or.inr rfl, ⟨Or.inl rfl, trivial⟩⟩⟩))))))))))
theorem d_Mc_beginStep_51 : decode y_Mc_beginStep.2.1 51 = .ok (.aload_n 0, 1) := by decide +kernel
theorem d_Mc_beginStep_52 : decode y_Mc_beginStep.2.1 52 = .ok (.iconst 5, 1) := by decide +kernel
theorem d_Mc_beginStep_53 : decode y_Mc_beginStep.2.1 53 = .ok (.iload_n 1, 1) := by decide +kernel
theorem s_Mc_beginStep_51 : aw_VS y_Mc_beginStep 51 [o_ald 0, o_c (.int (5 : Int32)), o_ild 1] 54 := .cons (v_aload_n (i := 0) d_Mc_beginStep_51 rfl) (.cons (v_iconst (v := (5 : Int32)) d_Mc_beginStep_52 (by decide +kernel)) (.cons (v_iload_n (i := 1) d_Mc_beginStep_53 rfl) .nil))
theorem d_Mc_beginStep_54 : decode y_Mc_beginStep.2.1 54 = .ok (.invokevirtual 145, 3) := by decide +kernel
theorem b_Mc_beginStep_51 {X : aw_X} {d : Nat} {Q : Option Value → aw_H → Prop} {I : Nat → Nat → Int32} {L : Nat → Nat → Int64} {D : Nat → Nat} {v1 : Int32}
    (h1 : aw_m X d y_Mc_finish [.ref 4, .int (5 : Int32), .int v1] (aw_s I L D) (fun r A => aw_z X (d + 1) y_Mc_beginStep Q 57 [none, none, none] (r.toList ++ []) A)) :
    aw_z X (d + 1) y_Mc_beginStep Q 51 [some (.ref 4), some (.int v1), none] [] (aw_s I L D) :=
  (s_Mc_beginStep_51.go [some (.ref 4), some (.int v1), none] [.int v1, .int (5 : Int32), .ref 4] (aw_s I L D) rfl (z_callV (av := [.int (5 : Int32), .int v1]) (st := []) ok_Mc_finish (Or.inl w_824) w_826 w_32 k_Mc d_Mc_beginStep_54 rfl (aw_lt (o := 4) rfl) rfl rfl (Nat.le_of_ble_eq_true rfl) (Nat.le_refl _) (Nat.le_refl _) (aw_C.mono (h1) (fun _ _ zz => aw_Z.weak (ls' := [none, none, none]) zz (Nat.le_of_ble_eq_true rfl) ⟨Or.inl rfl, ⟨Or.inl rfl, ⟨Or.inl rfl, trivial⟩⟩⟩))))
theorem d_Mc_beginStep_57 : decode y_Mc_beginStep.2.1 57 = .ok (.return_, 1) := by decide +kernel
theorem b_Mc_beginStep_57 {X : aw_X} {d : Nat} {Q : Option Value → aw_H → Prop} {I : Nat → Nat → Int32} {L : Nat → Nat → Int64} {D : Nat → Nat} 
    (h1 : Q none (aw_s I L D)) :
    aw_z X (d + 1) y_Mc_beginStep Q 57 [none, none, none] [] (aw_s I L D) :=
  (z_vret d_Mc_beginStep_57 rfl (h1))
/-! Mc_noteBegun -/
theorem d_Mc_noteBegun_0 : decode y_Mc_noteBegun.2.1 0 = .ok (.lconst 0, 1) := by decide +kernel
theorem d_Mc_noteBegun_1 : decode y_Mc_noteBegun.2.1 1 = .ok (.lstore_n 1, 1) := by decide +kernel
theorem d_Mc_noteBegun_2 : decode y_Mc_noteBegun.2.1 2 = .ok (.aload_n 0, 1) := by decide +kernel
theorem d_Mc_noteBegun_3 : decode y_Mc_noteBegun.2.1 3 = .ok (.getfield 9, 3) := by decide +kernel
theorem d_Mc_noteBegun_6 : decode y_Mc_noteBegun.2.1 6 = .ok (.arraylength, 1) := by decide +kernel
theorem d_Mc_noteBegun_7 : decode y_Mc_noteBegun.2.1 7 = .ok (.iconst 1, 1) := by decide +kernel
theorem d_Mc_noteBegun_8 : decode y_Mc_noteBegun.2.1 8 = .ok (.isub, 1) := by decide +kernel
theorem d_Mc_noteBegun_9 : decode y_Mc_noteBegun.2.1 9 = .ok (.istore_n 3, 1) := by decide +kernel
theorem s_Mc_noteBegun_0 : aw_VS y_Mc_noteBegun 0 [o_c (.long (0 : Int64)), o_lst 1, o_ald 0, o_getA 3 1, o_alen, o_c (.int (1 : Int32)), o_i2 (fun x z => x - z), o_ist 3] 10 := .cons (v_lconst (v := (0 : Int64)) d_Mc_noteBegun_0 (by decide +kernel)) (.cons (v_lstore_n d_Mc_noteBegun_1) (.cons (v_aload_n (i := 0) d_Mc_noteBegun_2 rfl) (.cons (v_getA (k := 1) k_Mc (by decide) rfl (Or.inl w_122) d_Mc_noteBegun_3) (.cons (v_alen d_Mc_noteBegun_6) (.cons (v_iconst (v := (1 : Int32)) d_Mc_noteBegun_7 (by decide +kernel)) (.cons (v_isub d_Mc_noteBegun_8) (.cons (v_istore_n d_Mc_noteBegun_9) .nil)))))))
theorem b_Mc_noteBegun_0 {X : aw_X} {d : Nat} {Q : Option Value → aw_H → Prop} {I : Nat → Nat → Int32} {L : Nat → Nat → Int64} {D : Nat → Nat} 
    (h1 : aw_z X d y_Mc_noteBegun Q 10 [some (.ref 4), some (.long (0 : Int64)), none, some (.int ((8 : Int32) - (1 : Int32)))] [] (aw_s I L D)) :
    aw_z X d y_Mc_noteBegun Q 0 [some (.ref 4), none, none, none] [] (aw_s I L D) :=
  (s_Mc_noteBegun_0.go [some (.ref 4), some (.long (0 : Int64)), none, some (.int ((8 : Int32) - (1 : Int32)))] [] (aw_s I L D) rfl (h1))
theorem d_Mc_noteBegun_10 : decode y_Mc_noteBegun.2.1 10 = .ok (.iload_n 3, 1) := by decide +kernel
theorem s_Mc_noteBegun_10 : aw_VS y_Mc_noteBegun 10 [o_ild 3] 11 := .cons (v_iload_n (i := 3) d_Mc_noteBegun_10 rfl) .nil
theorem d_Mc_noteBegun_11 : decode y_Mc_noteBegun.2.1 11 = .ok (.ifCond .lt (22), 3) := by decide +kernel
theorem d_Mc_noteBegun_33 : decode y_Mc_noteBegun.2.1 33 = .ok (.aload_n 0, 1) := by decide +kernel
theorem d_Mc_noteBegun_34 : decode y_Mc_noteBegun.2.1 34 = .ok (.getfield 114, 3) := by decide +kernel
theorem s_Mc_noteBegun_33 : aw_VS y_Mc_noteBegun 33 [o_ald 0, o_getI 3 12] 37 := .cons (v_aload_n (i := 0) d_Mc_noteBegun_33 rfl) (.cons (v_getI (k := 12) k_Mc (by decide) (Or.inl rfl) (Or.inl w_136) d_Mc_noteBegun_34) .nil)
theorem d_Mc_noteBegun_37 : decode y_Mc_noteBegun.2.1 37 = .ok (.ifCond .lt (34), 3) := by decide +kernel
theorem d_Mc_noteBegun_71 : decode y_Mc_noteBegun.2.1 71 = .ok (.return_, 1) := by decide +kernel
theorem d_Mc_noteBegun_40 : decode y_Mc_noteBegun.2.1 40 = .ok (.aload_n 0, 1) := by decide +kernel
theorem d_Mc_noteBegun_41 : decode y_Mc_noteBegun.2.1 41 = .ok (.getfield 114, 3) := by decide +kernel
theorem d_Mc_noteBegun_44 : decode y_Mc_noteBegun.2.1 44 = .ok (.aload_n 0, 1) := by decide +kernel
theorem d_Mc_noteBegun_45 : decode y_Mc_noteBegun.2.1 45 = .ok (.getfield 24, 3) := by decide +kernel
theorem d_Mc_noteBegun_48 : decode y_Mc_noteBegun.2.1 48 = .ok (.arraylength, 1) := by decide +kernel
theorem s_Mc_noteBegun_40 : aw_VS y_Mc_noteBegun 40 [o_ald 0, o_getI 3 12, o_ald 0, o_getA 3 17, o_alen] 49 := .cons (v_aload_n (i := 0) d_Mc_noteBegun_40 rfl) (.cons (v_getI (k := 12) k_Mc (by decide) (Or.inl rfl) (Or.inl w_136) d_Mc_noteBegun_41) (.cons (v_aload_n (i := 0) d_Mc_noteBegun_44 rfl) (.cons (v_getA (k := 17) k_Mc (by decide) rfl (Or.inl w_147) d_Mc_noteBegun_45) (.cons (v_alen d_Mc_noteBegun_48) .nil))))
theorem d_Mc_noteBegun_49 : decode y_Mc_noteBegun.2.1 49 = .ok (.if_icmp .ge (22), 3) := by decide +kernel
theorem d_Mc_noteBegun_52 : decode y_Mc_noteBegun.2.1 52 = .ok (.aload_n 0, 1) := by decide +kernel
theorem d_Mc_noteBegun_53 : decode y_Mc_noteBegun.2.1 53 = .ok (.getfield 24, 3) := by decide +kernel
theorem d_Mc_noteBegun_56 : decode y_Mc_noteBegun.2.1 56 = .ok (.aload_n 0, 1) := by decide +kernel
theorem d_Mc_noteBegun_57 : decode y_Mc_noteBegun.2.1 57 = .ok (.getfield 114, 3) := by decide +kernel
theorem d_Mc_noteBegun_60 : decode y_Mc_noteBegun.2.1 60 = .ok (.lload_n 1, 1) := by decide +kernel
theorem d_Mc_noteBegun_61 : decode y_Mc_noteBegun.2.1 61 = .ok (.bipush 6, 2) := by decide +kernel
theorem d_Mc_noteBegun_63 : decode y_Mc_noteBegun.2.1 63 = .ok (.lshl, 1) := by decide +kernel
theorem d_Mc_noteBegun_64 : decode y_Mc_noteBegun.2.1 64 = .ok (.aload_n 0, 1) := by decide +kernel
theorem d_Mc_noteBegun_65 : decode y_Mc_noteBegun.2.1 65 = .ok (.getfield 111, 3) := by decide +kernel
theorem d_Mc_noteBegun_68 : decode y_Mc_noteBegun.2.1 68 = .ok (.i2l, 1) := by decide +kernel
theorem d_Mc_noteBegun_69 : decode y_Mc_noteBegun.2.1 69 = .ok (.lor, 1) := by decide +kernel
theorem s_Mc_noteBegun_52 : aw_VS y_Mc_noteBegun 52 [o_ald 0, o_getA 3 17, o_ald 0, o_getI 3 12, o_lld 1, o_c (.int (6 : Int32)), o_ls (fun x z => x <<< (z.toInt64 &&& 63)), o_ald 0, o_getI 3 11, o_il (fun x => x.toInt64), o_l2 (fun x z => x ||| z)] 70 := .cons (v_aload_n (i := 0) d_Mc_noteBegun_52 rfl) (.cons (v_getA (k := 17) k_Mc (by decide) rfl (Or.inl w_147) d_Mc_noteBegun_53) (.cons (v_aload_n (i := 0) d_Mc_noteBegun_56 rfl) (.cons (v_getI (k := 12) k_Mc (by decide) (Or.inl rfl) (Or.inl w_136) d_Mc_noteBegun_57) (.cons (v_lload_n (i := 1) d_Mc_noteBegun_60 rfl) (.cons (v_bipush (v := (6 : Int32)) d_Mc_noteBegun_61 (by decide +kernel)) (.cons (v_lshl d_Mc_noteBegun_63) (.cons (v_aload_n (i := 0) d_Mc_noteBegun_64 rfl) (.cons (v_getI (k := 11) k_Mc (by decide) (Or.inl rfl) (Or.inl w_134) d_Mc_noteBegun_65) (.cons (v_i2l d_Mc_noteBegun_68) (.cons (v_lor d_Mc_noteBegun_69) .nil))))))))))
theorem d_Mc_noteBegun_70 : decode y_Mc_noteBegun.2.1 70 = .ok (.lastore, 1) := by decide +kernel
theorem d_Mc_noteBegun_14 : decode y_Mc_noteBegun.2.1 14 = .ok (.lload_n 1, 1) := by decide +kernel
theorem d_Mc_noteBegun_15 : decode y_Mc_noteBegun.2.1 15 = .ok (.bipush 6, 2) := by decide +kernel
theorem d_Mc_noteBegun_17 : decode y_Mc_noteBegun.2.1 17 = .ok (.lshl, 1) := by decide +kernel
theorem d_Mc_noteBegun_18 : decode y_Mc_noteBegun.2.1 18 = .ok (.aload_n 0, 1) := by decide +kernel
theorem d_Mc_noteBegun_19 : decode y_Mc_noteBegun.2.1 19 = .ok (.getfield 9, 3) := by decide +kernel
theorem d_Mc_noteBegun_22 : decode y_Mc_noteBegun.2.1 22 = .ok (.iload_n 3, 1) := by decide +kernel
theorem s_Mc_noteBegun_14 : aw_VS y_Mc_noteBegun 14 [o_lld 1, o_c (.int (6 : Int32)), o_ls (fun x z => x <<< (z.toInt64 &&& 63)), o_ald 0, o_getA 3 1, o_ild 3] 23 := .cons (v_lload_n (i := 1) d_Mc_noteBegun_14 rfl) (.cons (v_bipush (v := (6 : Int32)) d_Mc_noteBegun_15 (by decide +kernel)) (.cons (v_lshl d_Mc_noteBegun_17) (.cons (v_aload_n (i := 0) d_Mc_noteBegun_18 rfl) (.cons (v_getA (k := 1) k_Mc (by decide) rfl (Or.inl w_122) d_Mc_noteBegun_19) (.cons (v_iload_n (i := 3) d_Mc_noteBegun_22 rfl) .nil)))))
theorem d_Mc_noteBegun_23 : decode y_Mc_noteBegun.2.1 23 = .ok (.iaload, 1) := by decide +kernel
theorem d_Mc_noteBegun_24 : decode y_Mc_noteBegun.2.1 24 = .ok (.i2l, 1) := by decide +kernel
theorem d_Mc_noteBegun_25 : decode y_Mc_noteBegun.2.1 25 = .ok (.lor, 1) := by decide +kernel
theorem d_Mc_noteBegun_26 : decode y_Mc_noteBegun.2.1 26 = .ok (.lstore_n 1, 1) := by decide +kernel
theorem d_Mc_noteBegun_27 : decode y_Mc_noteBegun.2.1 27 = .ok (.iinc 3 (-1), 3) := by decide +kernel
theorem s_Mc_noteBegun_24 : aw_VS y_Mc_noteBegun 24 [o_il (fun x => x.toInt64), o_l2 (fun x z => x ||| z), o_lst 1, o_inc 3 (-1 : Int32)] 30 := .cons (v_i2l d_Mc_noteBegun_24) (.cons (v_lor d_Mc_noteBegun_25) (.cons (v_lstore_n d_Mc_noteBegun_26) (.cons (v_iinc (k0 := (-1 : Int32)) d_Mc_noteBegun_27 (by decide +kernel)) .nil)))
theorem d_Mc_noteBegun_30 : decode y_Mc_noteBegun.2.1 30 = .ok (.goto (-20), 3) := by decide +kernel
theorem b_Mc_noteBegun_10 {X : aw_X} {d : Nat} {Q : Option Value → aw_H → Prop} {I : Nat → Nat → Int32} {L : Nat → Nat → Int64} {D : Nat → Nat} {v1 : Int64} {v3 : Int32}
    (h1 : v3 < 0 → (I 4 12) < 0 → Q none (aw_s I L D))
    (h2 : v3 < 0 → ¬ (I 4 12) < 0 → (1001 : Int32) ≤ (I 4 12) → Q none (aw_s I L D))
    (h3 : v3 < 0 → ¬ (I 4 12) < 0 → ¬ (1001 : Int32) ≤ (I 4 12) → vp_in (I 4 12) 1001)
    (h4 : v3 < 0 → ¬ (I 4 12) < 0 → ¬ (1001 : Int32) ≤ (I 4 12) → Q none (aw_s I (aw_u L 9 ((I 4 12).toNatClampNeg) ((v1 <<< ((6 : Int32).toInt64 &&& 63)) ||| ((I 4 11).toInt64))) D))
    (h5 : ¬ v3 < 0 → vp_in v3 8)
    (h6 : ¬ v3 < 0 → aw_z X d y_Mc_noteBegun Q 10 [some (.ref 4), some (.long ((v1 <<< ((6 : Int32).toInt64 &&& 63)) ||| ((I 5 v3.toNatClampNeg).toInt64))), none, some (.int (v3 + (-1 : Int32)))] [] (aw_s I L D)) :
    aw_z X d y_Mc_noteBegun Q 10 [some (.ref 4), some (.long v1), none, some (.int v3)] [] (aw_s I L D) :=
  (s_Mc_noteBegun_10.go [some (.ref 4), some (.long v1), none, some (.int v3)] [.int v3] (aw_s I L D) rfl (z_if_lt (tgt := 33) d_Mc_noteBegun_11 rfl (fun q1 => (s_Mc_noteBegun_33.go [some (.ref 4), some (.long v1), none, some (.int v3)] [.int (I 4 12)] (aw_s I L D) rfl (z_if_lt (tgt := 71) d_Mc_noteBegun_37 rfl (fun q3 => (z_vret d_Mc_noteBegun_71 rfl (h1 q1 q3))) (fun q4 => (s_Mc_noteBegun_40.go [some (.ref 4), some (.long v1), none, some (.int v3)] [.int (1001 : Int32), .int (I 4 12)] (aw_s I L D) rfl (z_icmp_ge (tgt := 71) d_Mc_noteBegun_49 rfl (fun q5 => (z_vret d_Mc_noteBegun_71 rfl (h2 q1 q4 q5))) (fun q6 => (s_Mc_noteBegun_52.go [some (.ref 4), some (.long v1), none, some (.int v3)] [.long ((v1 <<< ((6 : Int32).toInt64 &&& 63)) ||| ((I 4 11).toInt64)), .int (I 4 12), .ref 9] (aw_s I L D) rfl (z_last (n := 1001) rfl rfl (aw_lt (o := 9) rfl) (h3 q1 q4 q6) d_Mc_noteBegun_70 (z_vret d_Mc_noteBegun_71 rfl (h4 q1 q4 q6))))))))))) (fun q2 => (s_Mc_noteBegun_14.go [some (.ref 4), some (.long v1), none, some (.int v3)] [.int v3, .ref 5, .long (v1 <<< ((6 : Int32).toInt64 &&& 63))] (aw_s I L D) rfl (z_iald (n := 8) rfl (aw_lt (o := 5) rfl) (h5 q2) d_Mc_noteBegun_23 (s_Mc_noteBegun_24.go [some (.ref 4), some (.long ((v1 <<< ((6 : Int32).toInt64 &&& 63)) ||| ((I 5 v3.toNatClampNeg).toInt64))), none, some (.int (v3 + (-1 : Int32)))] [] (aw_s I L D) rfl (z_goto (tgt := 10) d_Mc_noteBegun_30 rfl (h6 q2))))))))
/-! Mc_decide -/
theorem d_Mc_decide_0 : decode y_Mc_decide.2.1 0 = .ok (.aload_n 0, 1) := by decide +kernel
theorem s_Mc_decide_0 : aw_VS y_Mc_decide 0 [o_ald 0] 1 := .cons (v_aload_n (i := 0) d_Mc_decide_0 rfl) .nil
theorem d_Mc_decide_1 : decode y_Mc_decide.2.1 1 = .ok (.invokevirtual 85, 3) := by decide +kernel
theorem b_Mc_decide_0 {X : aw_X} {d : Nat} {Q : Option Value → aw_H → Prop} {I : Nat → Nat → Int32} {L : Nat → Nat → Int64} {D : Nat → Nat} 
    (h1 : aw_m X d y_Mc_pop [.ref 4] (aw_s I L D) (fun r A => aw_z X (d + 1) y_Mc_decide Q 4 [some (.ref 4), none] (r.toList ++ []) A)) :
    aw_z X (d + 1) y_Mc_decide Q 0 [some (.ref 4), none] [] (aw_s I L D) :=
  (s_Mc_decide_0.go [some (.ref 4), none] [.ref 4] (aw_s I L D) rfl (z_callV (av := []) (st := []) ok_Mc_pop (Or.inl w_820) w_822 w_31 k_Mc d_Mc_decide_1 rfl (aw_lt (o := 4) rfl) rfl rfl (Nat.le_of_ble_eq_true rfl) (Nat.le_refl _) (Nat.le_refl _) (h1)))
theorem d_Mc_decide_4 : decode y_Mc_decide.2.1 4 = .ok (.ifCond .eq (7), 3) := by decide +kernel
theorem d_Mc_decide_11 : decode y_Mc_decide.2.1 11 = .ok (.iconst 0, 1) := by decide +kernel
theorem s_Mc_decide_11 : aw_VS y_Mc_decide 11 [o_c (.int (0 : Int32))] 12 := .cons (v_iconst (v := (0 : Int32)) d_Mc_decide_11 (by decide +kernel)) .nil
theorem d_Mc_decide_7 : decode y_Mc_decide.2.1 7 = .ok (.iconst 1, 1) := by decide +kernel
theorem s_Mc_decide_7 : aw_VS y_Mc_decide 7 [o_c (.int (1 : Int32))] 8 := .cons (v_iconst (v := (1 : Int32)) d_Mc_decide_7 (by decide +kernel)) .nil
theorem d_Mc_decide_8 : decode y_Mc_decide.2.1 8 = .ok (.goto (4), 3) := by decide +kernel
theorem b_Mc_decide_4 {X : aw_X} {d : Nat} {Q : Option Value → aw_H → Prop} {I : Nat → Nat → Int32} {L : Nat → Nat → Int64} {D : Nat → Nat} {s0 : Int32}
    (h1 : s0 = 0 → aw_z X (d + 1) y_Mc_decide Q 12 [some (.ref 4), none] [.int (0 : Int32)] (aw_s I L D))
    (h2 : ¬ s0 = 0 → aw_z X (d + 1) y_Mc_decide Q 12 [some (.ref 4), none] [.int (1 : Int32)] (aw_s I L D)) :
    aw_z X (d + 1) y_Mc_decide Q 4 [some (.ref 4), none] [.int s0] (aw_s I L D) :=
  (z_if_eq (tgt := 11) d_Mc_decide_4 rfl (fun q1 => (s_Mc_decide_11.go [some (.ref 4), none] [.int (0 : Int32)] (aw_s I L D) rfl (h1 q1))) (fun q2 => (s_Mc_decide_7.go [some (.ref 4), none] [.int (1 : Int32)] (aw_s I L D) rfl (z_goto (tgt := 12) d_Mc_decide_8 rfl (h2 q2)))))
theorem d_Mc_decide_12 : decode y_Mc_decide.2.1 12 = .ok (.istore_n 1, 1) := by decide +kernel
theorem d_Mc_decide_13 : decode y_Mc_decide.2.1 13 = .ok (.aload_n 0, 1) := by decide +kernel
theorem d_Mc_decide_14 : decode y_Mc_decide.2.1 14 = .ok (.dup, 1) := by decide +kernel
theorem d_Mc_decide_15 : decode y_Mc_decide.2.1 15 = .ok (.getfield 117, 3) := by decide +kernel
theorem d_Mc_decide_18 : decode y_Mc_decide.2.1 18 = .ok (.iconst 1, 1) := by decide +kernel
theorem d_Mc_decide_19 : decode y_Mc_decide.2.1 19 = .ok (.iadd, 1) := by decide +kernel
theorem d_Mc_decide_20 : decode y_Mc_decide.2.1 20 = .ok (.putfield 117, 3) := by decide +kernel
theorem d_Mc_decide_23 : decode y_Mc_decide.2.1 23 = .ok (.iload_n 1, 1) := by decide +kernel
theorem s_Mc_decide_12 : aw_VS y_Mc_decide 12 [o_ist 1, o_ald 0, o_dup, o_getI 3 13, o_c (.int (1 : Int32)), o_i2 (fun x z => x + z), o_putI 3 13, o_ild 1] 24 := .cons (v_istore_n d_Mc_decide_12) (.cons (v_aload_n (i := 0) d_Mc_decide_13 rfl) (.cons (v_dup d_Mc_decide_14) (.cons (v_getI (k := 13) k_Mc (by decide) (Or.inl rfl) (Or.inl w_138) d_Mc_decide_15) (.cons (v_iconst (v := (1 : Int32)) d_Mc_decide_18 (by decide +kernel)) (.cons (v_iadd d_Mc_decide_19) (.cons (v_putI (k := 13) k_Mc (by decide) rfl (Or.inl ⟨rfl, Or.inl w_138⟩) d_Mc_decide_20) (.cons (v_iload_n (i := 1) d_Mc_decide_23 rfl) .nil)))))))
theorem d_Mc_decide_24 : decode y_Mc_decide.2.1 24 = .ok (.ifCond .ne (24), 3) := by decide +kernel
theorem d_Mc_decide_48 : decode y_Mc_decide.2.1 48 = .ok (.aload_n 0, 1) := by decide +kernel
theorem d_Mc_decide_49 : decode y_Mc_decide.2.1 49 = .ok (.getfield 111, 3) := by decide +kernel
theorem s_Mc_decide_48 : aw_VS y_Mc_decide 48 [o_ald 0, o_getI 3 11] 52 := .cons (v_aload_n (i := 0) d_Mc_decide_48 rfl) (.cons (v_getI (k := 11) k_Mc (by decide) (Or.inl rfl) (Or.inl w_134) d_Mc_decide_49) .nil)
theorem d_Mc_decide_52 : decode y_Mc_decide.2.1 52 = .ok (.ifCond .lt (28), 3) := by decide +kernel
theorem d_Mc_decide_80 : decode y_Mc_decide.2.1 80 = .ok (.iload_n 1, 1) := by decide +kernel
theorem s_Mc_decide_80 : aw_VS y_Mc_decide 80 [o_ild 1] 81 := .cons (v_iload_n (i := 1) d_Mc_decide_80 rfl) .nil
theorem d_Mc_decide_81 : decode y_Mc_decide.2.1 81 = .ok (.ireturn, 1) := by decide +kernel
theorem d_Mc_decide_55 : decode y_Mc_decide.2.1 55 = .ok (.aload_n 0, 1) := by decide +kernel
theorem d_Mc_decide_56 : decode y_Mc_decide.2.1 56 = .ok (.getfield 111, 3) := by decide +kernel
theorem d_Mc_decide_59 : decode y_Mc_decide.2.1 59 = .ok (.aload_n 0, 1) := by decide +kernel
theorem d_Mc_decide_60 : decode y_Mc_decide.2.1 60 = .ok (.getfield 28, 3) := by decide +kernel
theorem d_Mc_decide_63 : decode y_Mc_decide.2.1 63 = .ok (.arraylength, 1) := by decide +kernel
theorem s_Mc_decide_55 : aw_VS y_Mc_decide 55 [o_ald 0, o_getI 3 11, o_ald 0, o_getA 3 18, o_alen] 64 := .cons (v_aload_n (i := 0) d_Mc_decide_55 rfl) (.cons (v_getI (k := 11) k_Mc (by decide) (Or.inl rfl) (Or.inl w_134) d_Mc_decide_56) (.cons (v_aload_n (i := 0) d_Mc_decide_59 rfl) (.cons (v_getA (k := 18) k_Mc (by decide) rfl (Or.inl w_149) d_Mc_decide_60) (.cons (v_alen d_Mc_decide_63) .nil))))
theorem d_Mc_decide_64 : decode y_Mc_decide.2.1 64 = .ok (.if_icmp .ge (16), 3) := by decide +kernel
theorem d_Mc_decide_67 : decode y_Mc_decide.2.1 67 = .ok (.aload_n 0, 1) := by decide +kernel
theorem d_Mc_decide_68 : decode y_Mc_decide.2.1 68 = .ok (.getfield 28, 3) := by decide +kernel
theorem d_Mc_decide_71 : decode y_Mc_decide.2.1 71 = .ok (.aload_n 0, 1) := by decide +kernel
theorem d_Mc_decide_72 : decode y_Mc_decide.2.1 72 = .ok (.getfield 111, 3) := by decide +kernel
theorem d_Mc_decide_75 : decode y_Mc_decide.2.1 75 = .ok (.dup2, 1) := by decide +kernel
theorem s_Mc_decide_67 : aw_VS y_Mc_decide 67 [o_ald 0, o_getA 3 18, o_ald 0, o_getI 3 11, o_dup2] 76 := .cons (v_aload_n (i := 0) d_Mc_decide_67 rfl) (.cons (v_getA (k := 18) k_Mc (by decide) rfl (Or.inl w_149) d_Mc_decide_68) (.cons (v_aload_n (i := 0) d_Mc_decide_71 rfl) (.cons (v_getI (k := 11) k_Mc (by decide) (Or.inl rfl) (Or.inl w_134) d_Mc_decide_72) (.cons (v_dup2 d_Mc_decide_75) .nil))))
theorem d_Mc_decide_76 : decode y_Mc_decide.2.1 76 = .ok (.iaload, 1) := by decide +kernel
theorem d_Mc_decide_77 : decode y_Mc_decide.2.1 77 = .ok (.iconst 1, 1) := by decide +kernel
theorem d_Mc_decide_78 : decode y_Mc_decide.2.1 78 = .ok (.iadd, 1) := by decide +kernel
theorem s_Mc_decide_77 : aw_VS y_Mc_decide 77 [o_c (.int (1 : Int32)), o_i2 (fun x z => x + z)] 79 := .cons (v_iconst (v := (1 : Int32)) d_Mc_decide_77 (by decide +kernel)) (.cons (v_iadd d_Mc_decide_78) .nil)
theorem d_Mc_decide_79 : decode y_Mc_decide.2.1 79 = .ok (.iastore, 1) := by decide +kernel
theorem d_Mc_decide_27 : decode y_Mc_decide.2.1 27 = .ok (.aload_n 0, 1) := by decide +kernel
theorem d_Mc_decide_28 : decode y_Mc_decide.2.1 28 = .ok (.dup, 1) := by decide +kernel
theorem d_Mc_decide_29 : decode y_Mc_decide.2.1 29 = .ok (.getfield 120, 3) := by decide +kernel
theorem d_Mc_decide_32 : decode y_Mc_decide.2.1 32 = .ok (.lconst 1, 1) := by decide +kernel
theorem d_Mc_decide_33 : decode y_Mc_decide.2.1 33 = .ok (.bipush 40, 2) := by decide +kernel
theorem d_Mc_decide_35 : decode y_Mc_decide.2.1 35 = .ok (.aload_n 0, 1) := by decide +kernel
theorem d_Mc_decide_36 : decode y_Mc_decide.2.1 36 = .ok (.getfield 117, 3) := by decide +kernel
theorem d_Mc_decide_39 : decode y_Mc_decide.2.1 39 = .ok (.isub, 1) := by decide +kernel
theorem d_Mc_decide_40 : decode y_Mc_decide.2.1 40 = .ok (.lshl, 1) := by decide +kernel
theorem d_Mc_decide_41 : decode y_Mc_decide.2.1 41 = .ok (.lor, 1) := by decide +kernel
theorem d_Mc_decide_42 : decode y_Mc_decide.2.1 42 = .ok (.putfield 120, 3) := by decide +kernel
theorem s_Mc_decide_27 : aw_VS y_Mc_decide 27 [o_ald 0, o_dup, o_getJ 3 14, o_c (.long (1 : Int64)), o_c (.int (40 : Int32)), o_ald 0, o_getI 3 13, o_i2 (fun x z => x - z), o_ls (fun x z => x <<< (z.toInt64 &&& 63)), o_l2 (fun x z => x ||| z), o_putJ 3 14] 45 := .cons (v_aload_n (i := 0) d_Mc_decide_27 rfl) (.cons (v_dup d_Mc_decide_28) (.cons (v_getJ (k := 14) k_Mc (by decide) rfl (Or.inl w_140) d_Mc_decide_29) (.cons (v_lconst (v := (1 : Int64)) d_Mc_decide_32 (by decide +kernel)) (.cons (v_bipush (v := (40 : Int32)) d_Mc_decide_33 (by decide +kernel)) (.cons (v_aload_n (i := 0) d_Mc_decide_35 rfl) (.cons (v_getI (k := 13) k_Mc (by decide) (Or.inl rfl) (Or.inl w_138) d_Mc_decide_36) (.cons (v_isub d_Mc_decide_39) (.cons (v_lshl d_Mc_decide_40) (.cons (v_lor d_Mc_decide_41) (.cons (v_putJ (k := 14) k_Mc (by decide) rfl (Or.inl ⟨rfl, Or.inl w_140⟩) d_Mc_decide_42) .nil))))))))))
theorem d_Mc_decide_45 : decode y_Mc_decide.2.1 45 = .ok (.goto (35), 3) := by decide +kernel
theorem b_Mc_decide_12 {X : aw_X} {d : Nat} {Q : Option Value → aw_H → Prop} {I : Nat → Nat → Int32} {L : Nat → Nat → Int64} {D : Nat → Nat} {s0 : Int32}
    (h1 : ¬ s0 = 0 → (I 4 11) < 0 → (s0 = 0 ∨ s0 = 1))
    (h2 : ¬ s0 = 0 → (I 4 11) < 0 → Q (some (.int s0)) (aw_s (aw_u I 4 13 ((I 4 13) + (1 : Int32))) L D))
    (h3 : ¬ s0 = 0 → ¬ (I 4 11) < 0 → (60 : Int32) ≤ (I 4 11) → (s0 = 0 ∨ s0 = 1))
    (h4 : ¬ s0 = 0 → ¬ (I 4 11) < 0 → (60 : Int32) ≤ (I 4 11) → Q (some (.int s0)) (aw_s (aw_u I 4 13 ((I 4 13) + (1 : Int32))) L D))
    (h5 : ¬ s0 = 0 → ¬ (I 4 11) < 0 → ¬ (60 : Int32) ≤ (I 4 11) → vp_in (I 4 11) 60)
    (h6 : ¬ s0 = 0 → ¬ (I 4 11) < 0 → ¬ (60 : Int32) ≤ (I 4 11) → vp_in (I 4 11) 60)
    (h7 : ¬ s0 = 0 → ¬ (I 4 11) < 0 → ¬ (60 : Int32) ≤ (I 4 11) → (s0 = 0 ∨ s0 = 1))
    (h8 : ¬ s0 = 0 → ¬ (I 4 11) < 0 → ¬ (60 : Int32) ≤ (I 4 11) → Q (some (.int s0)) (aw_s (aw_u (aw_u I 4 13 ((I 4 13) + (1 : Int32))) 10 ((I 4 11).toNatClampNeg) ((I 10 ((I 4 11).toNatClampNeg)) + (1 : Int32))) L D))
    (h9 : s0 = 0 → (s0 = 0 ∨ s0 = 1))
    (h10 : s0 = 0 → Q (some (.int s0)) (aw_s (aw_u I 4 13 ((I 4 13) + (1 : Int32))) (aw_u L 4 14 ((L 4 14) ||| ((1 : Int64) <<< (((40 : Int32) - ((I 4 13) + (1 : Int32))).toInt64 &&& 63)))) D)) :
    aw_z X (d + 1) y_Mc_decide Q 12 [some (.ref 4), none] [.int s0] (aw_s I L D) :=
  (s_Mc_decide_12.go [some (.ref 4), some (.int s0)] [.int s0] (aw_s (aw_u I 4 13 ((I 4 13) + (1 : Int32))) L D) rfl (z_if_ne (tgt := 48) d_Mc_decide_24 rfl (fun q1 => (s_Mc_decide_48.go [some (.ref 4), some (.int s0)] [.int (I 4 11)] (aw_s (aw_u I 4 13 ((I 4 13) + (1 : Int32))) L D) rfl (z_if_lt (tgt := 80) d_Mc_decide_52 rfl (fun q3 => (s_Mc_decide_80.go [some (.ref 4), some (.int s0)] [.int s0] (aw_s (aw_u I 4 13 ((I 4 13) + (1 : Int32))) L D) rfl (z_iret d_Mc_decide_81 rfl (aw_nz (h1 q1 q3)) (h2 q1 q3)))) (fun q4 => (s_Mc_decide_55.go [some (.ref 4), some (.int s0)] [.int (60 : Int32), .int (I 4 11)] (aw_s (aw_u I 4 13 ((I 4 13) + (1 : Int32))) L D) rfl (z_icmp_ge (tgt := 80) d_Mc_decide_64 rfl (fun q5 => (s_Mc_decide_80.go [some (.ref 4), some (.int s0)] [.int s0] (aw_s (aw_u I 4 13 ((I 4 13) + (1 : Int32))) L D) rfl (z_iret d_Mc_decide_81 rfl (aw_nz (h3 q1 q4 q5)) (h4 q1 q4 q5)))) (fun q6 => (s_Mc_decide_67.go [some (.ref 4), some (.int s0)] [.int (I 4 11), .ref 10, .int (I 4 11), .ref 10] (aw_s (aw_u I 4 13 ((I 4 13) + (1 : Int32))) L D) rfl (z_iald (n := 60) rfl (aw_lt (o := 10) rfl) (h5 q1 q4 q6) d_Mc_decide_76 (s_Mc_decide_77.go [some (.ref 4), some (.int s0)] [.int ((I 10 ((I 4 11).toNatClampNeg)) + (1 : Int32)), .int (I 4 11), .ref 10] (aw_s (aw_u I 4 13 ((I 4 13) + (1 : Int32))) L D) rfl (z_iast (n := 60) rfl (aw_lt (o := 10) rfl) (h6 q1 q4 q6) d_Mc_decide_79 (s_Mc_decide_80.go [some (.ref 4), some (.int s0)] [.int s0] (aw_s (aw_u (aw_u I 4 13 ((I 4 13) + (1 : Int32))) 10 ((I 4 11).toNatClampNeg) ((I 10 ((I 4 11).toNatClampNeg)) + (1 : Int32))) L D) rfl (z_iret d_Mc_decide_81 rfl (aw_nz (h7 q1 q4 q6)) (h8 q1 q4 q6)))))))))))))) (fun q2 => (s_Mc_decide_27.go [some (.ref 4), some (.int s0)] [] (aw_s (aw_u I 4 13 ((I 4 13) + (1 : Int32))) (aw_u L 4 14 ((L 4 14) ||| ((1 : Int64) <<< (((40 : Int32) - ((I 4 13) + (1 : Int32))).toInt64 &&& 63)))) D) rfl (z_goto (tgt := 80) d_Mc_decide_45 rfl (s_Mc_decide_80.go [some (.ref 4), some (.int s0)] [.int s0] (aw_s (aw_u I 4 13 ((I 4 13) + (1 : Int32))) (aw_u L 4 14 ((L 4 14) ||| ((1 : Int64) <<< (((40 : Int32) - ((I 4 13) + (1 : Int32))).toInt64 &&& 63)))) D) rfl (z_iret d_Mc_decide_81 rfl (aw_nz (h9 q2)) (h10 q2))))))))
/-! Mc_setName -/
theorem d_Mc_setName_0 : decode y_Mc_setName.2.1 0 = .ok (.iload_n 1, 1) := by decide +kernel
theorem s_Mc_setName_0 : aw_VS y_Mc_setName 0 [o_ild 1] 1 := .cons (v_iload_n (i := 1) d_Mc_setName_0 rfl) .nil
theorem d_Mc_setName_1 : decode y_Mc_setName.2.1 1 = .ok (.ifCond .lt (19), 3) := by decide +kernel
theorem d_Mc_setName_20 : decode y_Mc_setName.2.1 20 = .ok (.return_, 1) := by decide +kernel
theorem d_Mc_setName_4 : decode y_Mc_setName.2.1 4 = .ok (.iload_n 1, 1) := by decide +kernel
theorem d_Mc_setName_5 : decode y_Mc_setName.2.1 5 = .ok (.aload_n 0, 1) := by decide +kernel
theorem d_Mc_setName_6 : decode y_Mc_setName.2.1 6 = .ok (.getfield 9, 3) := by decide +kernel
theorem d_Mc_setName_9 : decode y_Mc_setName.2.1 9 = .ok (.arraylength, 1) := by decide +kernel
theorem s_Mc_setName_4 : aw_VS y_Mc_setName 4 [o_ild 1, o_ald 0, o_getA 3 1, o_alen] 10 := .cons (v_iload_n (i := 1) d_Mc_setName_4 rfl) (.cons (v_aload_n (i := 0) d_Mc_setName_5 rfl) (.cons (v_getA (k := 1) k_Mc (by decide) rfl (Or.inl w_122) d_Mc_setName_6) (.cons (v_alen d_Mc_setName_9) .nil)))
theorem d_Mc_setName_10 : decode y_Mc_setName.2.1 10 = .ok (.if_icmp .ge (10), 3) := by decide +kernel
theorem d_Mc_setName_13 : decode y_Mc_setName.2.1 13 = .ok (.aload_n 0, 1) := by decide +kernel
theorem d_Mc_setName_14 : decode y_Mc_setName.2.1 14 = .ok (.getfield 9, 3) := by decide +kernel
theorem d_Mc_setName_17 : decode y_Mc_setName.2.1 17 = .ok (.iload_n 1, 1) := by decide +kernel
theorem d_Mc_setName_18 : decode y_Mc_setName.2.1 18 = .ok (.iload_n 2, 1) := by decide +kernel
theorem s_Mc_setName_13 : aw_VS y_Mc_setName 13 [o_ald 0, o_getA 3 1, o_ild 1, o_ild 2] 19 := .cons (v_aload_n (i := 0) d_Mc_setName_13 rfl) (.cons (v_getA (k := 1) k_Mc (by decide) rfl (Or.inl w_122) d_Mc_setName_14) (.cons (v_iload_n (i := 1) d_Mc_setName_17 rfl) (.cons (v_iload_n (i := 2) d_Mc_setName_18 rfl) .nil)))
theorem d_Mc_setName_19 : decode y_Mc_setName.2.1 19 = .ok (.iastore, 1) := by decide +kernel
theorem b_Mc_setName_0 {X : aw_X} {d : Nat} {Q : Option Value → aw_H → Prop} {I : Nat → Nat → Int32} {L : Nat → Nat → Int64} {D : Nat → Nat} {v1 : Int32} {v2 : Int32}
    (h1 : v1 < 0 → Q none (aw_s I L D))
    (h2 : ¬ v1 < 0 → (8 : Int32) ≤ v1 → Q none (aw_s I L D))
    (h3 : ¬ v1 < 0 → ¬ (8 : Int32) ≤ v1 → vp_in v1 8)
    (h4 : ¬ v1 < 0 → ¬ (8 : Int32) ≤ v1 → Q none (aw_s (aw_u I 5 v1.toNatClampNeg v2) L D)) :
    aw_z X d y_Mc_setName Q 0 [some (.ref 4), some (.int v1), some (.int v2)] [] (aw_s I L D) :=
  (s_Mc_setName_0.go [some (.ref 4), some (.int v1), some (.int v2)] [.int v1] (aw_s I L D) rfl (z_if_lt (tgt := 20) d_Mc_setName_1 rfl (fun q1 => (z_vret d_Mc_setName_20 rfl (h1 q1))) (fun q2 => (s_Mc_setName_4.go [some (.ref 4), some (.int v1), some (.int v2)] [.int (8 : Int32), .int v1] (aw_s I L D) rfl (z_icmp_ge (tgt := 20) d_Mc_setName_10 rfl (fun q3 => (z_vret d_Mc_setName_20 rfl (h2 q2 q3))) (fun q4 => (s_Mc_setName_13.go [some (.ref 4), some (.int v1), some (.int v2)] [.int v2, .int v1, .ref 5] (aw_s I L D) rfl (z_iast (n := 8) rfl (aw_lt (o := 5) rfl) (h3 q2 q4) d_Mc_setName_19 (z_vret d_Mc_setName_20 rfl (h4 q2 q4))))))))))
/-! Mc_setCell -/
theorem d_Mc_setCell_0 : decode y_Mc_setCell.2.1 0 = .ok (.aload_n 0, 1) := by decide +kernel
theorem s_Mc_setCell_0 : aw_VS y_Mc_setCell 0 [o_ald 0] 1 := .cons (v_aload_n (i := 0) d_Mc_setCell_0 rfl) .nil
theorem d_Mc_setCell_1 : decode y_Mc_setCell.2.1 1 = .ok (.invokevirtual 85, 3) := by decide +kernel
theorem b_Mc_setCell_0 {X : aw_X} {d : Nat} {Q : Option Value → aw_H → Prop} {I : Nat → Nat → Int32} {L : Nat → Nat → Int64} {D : Nat → Nat} 
    (h1 : aw_m X d y_Mc_pop [.ref 4] (aw_s I L D) (fun r A => aw_z X (d + 1) y_Mc_setCell Q 4 [some (.ref 4), none, none] (r.toList ++ []) A)) :
    aw_z X (d + 1) y_Mc_setCell Q 0 [some (.ref 4), none, none] [] (aw_s I L D) :=
  (s_Mc_setCell_0.go [some (.ref 4), none, none] [.ref 4] (aw_s I L D) rfl (z_callV (av := []) (st := []) ok_Mc_pop (Or.inl w_820) w_822 w_31 k_Mc d_Mc_setCell_1 rfl (aw_lt (o := 4) rfl) rfl rfl (Nat.le_of_ble_eq_true rfl) (Nat.le_refl _) (Nat.le_refl _) (h1)))
theorem d_Mc_setCell_4 : decode y_Mc_setCell.2.1 4 = .ok (.istore_n 1, 1) := by decide +kernel
theorem d_Mc_setCell_5 : decode y_Mc_setCell.2.1 5 = .ok (.aload_n 0, 1) := by decide +kernel
theorem s_Mc_setCell_4 : aw_VS y_Mc_setCell 4 [o_ist 1, o_ald 0] 6 := .cons (v_istore_n d_Mc_setCell_4) (.cons (v_aload_n (i := 0) d_Mc_setCell_5 rfl) .nil)
theorem d_Mc_setCell_6 : decode y_Mc_setCell.2.1 6 = .ok (.invokevirtual 85, 3) := by decide +kernel
theorem b_Mc_setCell_4 {X : aw_X} {d : Nat} {Q : Option Value → aw_H → Prop} {I : Nat → Nat → Int32} {L : Nat → Nat → Int64} {D : Nat → Nat} {s0 : Int32}
    (h1 : aw_m X d y_Mc_pop [.ref 4] (aw_s I L D) (fun r A => aw_z X (d + 1) y_Mc_setCell Q 9 [some (.ref 4), some (.int s0), none] (r.toList ++ []) A)) :
    aw_z X (d + 1) y_Mc_setCell Q 4 [some (.ref 4), none, none] [.int s0] (aw_s I L D) :=
  (s_Mc_setCell_4.go [some (.ref 4), some (.int s0), none] [.ref 4] (aw_s I L D) rfl (z_callV (av := []) (st := []) ok_Mc_pop (Or.inl w_820) w_822 w_31 k_Mc d_Mc_setCell_6 rfl (aw_lt (o := 4) rfl) rfl rfl (Nat.le_of_ble_eq_true rfl) (Nat.le_refl _) (Nat.le_refl _) (h1)))
theorem d_Mc_setCell_9 : decode y_Mc_setCell.2.1 9 = .ok (.istore_n 2, 1) := by decide +kernel
theorem d_Mc_setCell_10 : decode y_Mc_setCell.2.1 10 = .ok (.iload_n 2, 1) := by decide +kernel
theorem s_Mc_setCell_9 : aw_VS y_Mc_setCell 9 [o_ist 2, o_ild 2] 11 := .cons (v_istore_n d_Mc_setCell_9) (.cons (v_iload_n (i := 2) d_Mc_setCell_10 rfl) .nil)
theorem d_Mc_setCell_11 : decode y_Mc_setCell.2.1 11 = .ok (.ifCond .lt (12), 3) := by decide +kernel
theorem d_Mc_setCell_14 : decode y_Mc_setCell.2.1 14 = .ok (.iload_n 2, 1) := by decide +kernel
theorem d_Mc_setCell_15 : decode y_Mc_setCell.2.1 15 = .ok (.aload_n 0, 1) := by decide +kernel
theorem d_Mc_setCell_16 : decode y_Mc_setCell.2.1 16 = .ok (.getfield 15, 3) := by decide +kernel
theorem d_Mc_setCell_19 : decode y_Mc_setCell.2.1 19 = .ok (.arraylength, 1) := by decide +kernel
theorem s_Mc_setCell_14 : aw_VS y_Mc_setCell 14 [o_ild 2, o_ald 0, o_getA 3 2, o_alen] 20 := .cons (v_iload_n (i := 2) d_Mc_setCell_14 rfl) (.cons (v_aload_n (i := 0) d_Mc_setCell_15 rfl) (.cons (v_getA (k := 2) k_Mc (by decide) rfl (Or.inl w_124) d_Mc_setCell_16) (.cons (v_alen d_Mc_setCell_19) .nil)))
theorem d_Mc_setCell_20 : decode y_Mc_setCell.2.1 20 = .ok (.if_icmp .lt (15), 3) := by decide +kernel
theorem d_Mc_setCell_35 : decode y_Mc_setCell.2.1 35 = .ok (.aload_n 0, 1) := by decide +kernel
theorem d_Mc_setCell_36 : decode y_Mc_setCell.2.1 36 = .ok (.getfield 15, 3) := by decide +kernel
theorem d_Mc_setCell_39 : decode y_Mc_setCell.2.1 39 = .ok (.iload_n 2, 1) := by decide +kernel
theorem d_Mc_setCell_40 : decode y_Mc_setCell.2.1 40 = .ok (.iload_n 1, 1) := by decide +kernel
theorem s_Mc_setCell_35 : aw_VS y_Mc_setCell 35 [o_ald 0, o_getA 3 2, o_ild 2, o_ild 1] 41 := .cons (v_aload_n (i := 0) d_Mc_setCell_35 rfl) (.cons (v_getA (k := 2) k_Mc (by decide) rfl (Or.inl w_124) d_Mc_setCell_36) (.cons (v_iload_n (i := 2) d_Mc_setCell_39 rfl) (.cons (v_iload_n (i := 1) d_Mc_setCell_40 rfl) .nil)))
theorem d_Mc_setCell_41 : decode y_Mc_setCell.2.1 41 = .ok (.iastore, 1) := by decide +kernel
theorem d_Mc_setCell_42 : decode y_Mc_setCell.2.1 42 = .ok (.return_, 1) := by decide +kernel
theorem b_Mc_setCell_9 {X : aw_X} {d : Nat} {Q : Option Value → aw_H → Prop} {I : Nat → Nat → Int32} {L : Nat → Nat → Int64} {D : Nat → Nat} {v1 : Int32} {s0 : Int32}
    (h1 : s0 < 0 → aw_z X (d + 1) y_Mc_setCell Q 23 [some (.ref 4), none, none] [] (aw_s I L D))
    (h2 : ¬ s0 < 0 → s0 < (8 : Int32) → vp_in s0 8)
    (h3 : ¬ s0 < 0 → s0 < (8 : Int32) → Q none (aw_s (aw_u I 6 s0.toNatClampNeg v1) L D))
    (h4 : ¬ s0 < 0 → ¬ s0 < (8 : Int32) → aw_z X (d + 1) y_Mc_setCell Q 23 [some (.ref 4), none, none] [] (aw_s I L D)) :
    aw_z X (d + 1) y_Mc_setCell Q 9 [some (.ref 4), some (.int v1), none] [.int s0] (aw_s I L D) :=
  (s_Mc_setCell_9.go [some (.ref 4), some (.int v1), some (.int s0)] [.int s0] (aw_s I L D) rfl (z_if_lt (tgt := 23) d_Mc_setCell_11 rfl (fun q1 => (aw_Z.weak (ls' := [some (.ref 4), none, none]) (h1 q1) (Nat.le_of_ble_eq_true rfl) ⟨Or.inr rfl, ⟨Or.inl rfl, ⟨Or.inl rfl, trivial⟩⟩⟩)) (fun q2 => (s_Mc_setCell_14.go [some (.ref 4), some (.int v1), some (.int s0)] [.int (8 : Int32), .int s0] (aw_s I L D) rfl (z_icmp_lt (tgt := 35) d_Mc_setCell_20 rfl (fun q3 => (s_Mc_setCell_35.go [some (.ref 4), some (.int v1), some (.int s0)] [.int v1, .int s0, .ref 6] (aw_s I L D) rfl (z_iast (n := 8) rfl (aw_lt (o := 6) rfl) (h2 q2 q3) d_Mc_setCell_41 (z_vret d_Mc_setCell_42 rfl (h3 q2 q3))))) (fun q4 => (aw_Z.weak (ls' := [some (.ref 4), none, none]) (h4 q2 q4) (Nat.le_of_ble_eq_true rfl) ⟨Or.inr rfl, ⟨Or.inl rfl, ⟨Or.inl rfl, trivial⟩⟩⟩)))))))
theorem d_Mc_setCell_23 : decode y_Mc_setCell.2.1 23 = .ok (.aload_n 0, 1) := by decide +kernel
theorem d_Mc_setCell_24 : decode y_Mc_setCell.2.1 24 = .ok (.iconst 3, 1) := by decide +kernel
theorem d_Mc_setCell_25 : decode y_Mc_setCell.2.1 25 = .ok (.aload_n 0, 1) := by decide +kernel
theorem d_Mc_setCell_26 : decode y_Mc_setCell.2.1 26 = .ok (.getfield 111, 3) := by decide +kernel
theorem s_Mc_setCell_23 : aw_VS y_Mc_setCell 23 [o_ald 0, o_c (.int (3 : Int32)), o_ald 0, o_getI 3 11] 29 := .cons (v_aload_n (i := 0) d_Mc_setCell_23 rfl) (.cons (v_iconst (v := (3 : Int32)) d_Mc_setCell_24 (by decide +kernel)) (.cons (v_aload_n (i := 0) d_Mc_setCell_25 rfl) (.cons (v_getI (k := 11) k_Mc (by decide) (Or.inl rfl) (Or.inl w_134) d_Mc_setCell_26) .nil)))
theorem d_Mc_setCell_29 : decode y_Mc_setCell.2.1 29 = .ok (.invokevirtual 145, 3) := by decide +kernel
theorem b_Mc_setCell_23 {X : aw_X} {d : Nat} {Q : Option Value → aw_H → Prop} {I : Nat → Nat → Int32} {L : Nat → Nat → Int64} {D : Nat → Nat} 
    (h1 : aw_m X d y_Mc_finish [.ref 4, .int (3 : Int32), .int (I 4 11)] (aw_s I L D) (fun r A => aw_z X (d + 1) y_Mc_setCell Q 32 [none, none, none] (r.toList ++ []) A)) :
    aw_z X (d + 1) y_Mc_setCell Q 23 [some (.ref 4), none, none] [] (aw_s I L D) :=
  (s_Mc_setCell_23.go [some (.ref 4), none, none] [.int (I 4 11), .int (3 : Int32), .ref 4] (aw_s I L D) rfl (z_callV (av := [.int (3 : Int32), .int (I 4 11)]) (st := []) ok_Mc_finish (Or.inl w_824) w_826 w_32 k_Mc d_Mc_setCell_29 rfl (aw_lt (o := 4) rfl) rfl rfl (Nat.le_of_ble_eq_true rfl) (Nat.le_refl _) (Nat.le_refl _) (aw_C.mono (h1) (fun _ _ zz => aw_Z.weak (ls' := [none, none, none]) zz (Nat.le_of_ble_eq_true rfl) ⟨Or.inl rfl, ⟨Or.inl rfl, ⟨Or.inl rfl, trivial⟩⟩⟩))))
theorem d_Mc_setCell_32 : decode y_Mc_setCell.2.1 32 = .ok (.goto (10), 3) := by decide +kernel
theorem b_Mc_setCell_32 {X : aw_X} {d : Nat} {Q : Option Value → aw_H → Prop} {I : Nat → Nat → Int32} {L : Nat → Nat → Int64} {D : Nat → Nat} 
    (h1 : Q none (aw_s I L D)) :
    aw_z X (d + 1) y_Mc_setCell Q 32 [none, none, none] [] (aw_s I L D) :=
  (z_goto (tgt := 42) d_Mc_setCell_32 rfl (z_vret d_Mc_setCell_42 rfl (h1)))
/-! Mc_goOnIf -/
theorem d_Mc_goOnIf_0 : decode y_Mc_goOnIf.2.1 0 = .ok (.iload_n 1, 1) := by decide +kernel
theorem s_Mc_goOnIf_0 : aw_VS y_Mc_goOnIf 0 [o_ild 1] 1 := .cons (v_iload_n (i := 1) d_Mc_goOnIf_0 rfl) .nil
theorem d_Mc_goOnIf_1 : decode y_Mc_goOnIf.2.1 1 = .ok (.ifCond .ne (12), 3) := by decide +kernel
theorem d_Mc_goOnIf_4 : decode y_Mc_goOnIf.2.1 4 = .ok (.aload_n 0, 1) := by decide +kernel
theorem d_Mc_goOnIf_5 : decode y_Mc_goOnIf.2.1 5 = .ok (.iload_n 2, 1) := by decide +kernel
theorem d_Mc_goOnIf_6 : decode y_Mc_goOnIf.2.1 6 = .ok (.aload_n 0, 1) := by decide +kernel
theorem d_Mc_goOnIf_7 : decode y_Mc_goOnIf.2.1 7 = .ok (.getfield 111, 3) := by decide +kernel
theorem s_Mc_goOnIf_4 : aw_VS y_Mc_goOnIf 4 [o_ald 0, o_ild 2, o_ald 0, o_getI 3 11] 10 := .cons (v_aload_n (i := 0) d_Mc_goOnIf_4 rfl) (.cons (v_iload_n (i := 2) d_Mc_goOnIf_5 rfl) (.cons (v_aload_n (i := 0) d_Mc_goOnIf_6 rfl) (.cons (v_getI (k := 11) k_Mc (by decide) (Or.inl rfl) (Or.inl w_134) d_Mc_goOnIf_7) .nil)))
theorem d_Mc_goOnIf_10 : decode y_Mc_goOnIf.2.1 10 = .ok (.invokevirtual 145, 3) := by decide +kernel
theorem b_Mc_goOnIf_0 {X : aw_X} {d : Nat} {Q : Option Value → aw_H → Prop} {I : Nat → Nat → Int32} {L : Nat → Nat → Int64} {D : Nat → Nat} {v1 : Int32} {v2 : Int32}
    (h1 : ¬ v1 = 0 → aw_z X (d + 1) y_Mc_goOnIf Q 13 [none, none, none] [] (aw_s I L D))
    (h2 : v1 = 0 → aw_m X d y_Mc_finish [.ref 4, .int v2, .int (I 4 11)] (aw_s I L D) (fun r A => aw_z X (d + 1) y_Mc_goOnIf Q 13 [none, none, none] (r.toList ++ []) A)) :
    aw_z X (d + 1) y_Mc_goOnIf Q 0 [some (.ref 4), some (.int v1), some (.int v2)] [] (aw_s I L D) :=
  (s_Mc_goOnIf_0.go [some (.ref 4), some (.int v1), some (.int v2)] [.int v1] (aw_s I L D) rfl (z_if_ne (tgt := 13) d_Mc_goOnIf_1 rfl (fun q1 => (aw_Z.weak (ls' := [none, none, none]) (h1 q1) (Nat.le_of_ble_eq_true rfl) ⟨Or.inl rfl, ⟨Or.inl rfl, ⟨Or.inl rfl, trivial⟩⟩⟩)) (fun q2 => (s_Mc_goOnIf_4.go [some (.ref 4), some (.int v1), some (.int v2)] [.int (I 4 11), .int v2, .ref 4] (aw_s I L D) rfl (z_callV (av := [.int v2, .int (I 4 11)]) (st := []) ok_Mc_finish (Or.inl w_824) w_826 w_32 k_Mc d_Mc_goOnIf_10 rfl (aw_lt (o := 4) rfl) rfl rfl (Nat.le_of_ble_eq_true rfl) (Nat.le_refl _) (Nat.le_refl _) (aw_C.mono (h2 q2) (fun _ _ zz => aw_Z.weak (ls' := [none, none, none]) zz (Nat.le_of_ble_eq_true rfl) ⟨Or.inl rfl, ⟨Or.inl rfl, ⟨Or.inl rfl, trivial⟩⟩⟩)))))))
theorem d_Mc_goOnIf_13 : decode y_Mc_goOnIf.2.1 13 = .ok (.return_, 1) := by decide +kernel
theorem b_Mc_goOnIf_13 {X : aw_X} {d : Nat} {Q : Option Value → aw_H → Prop} {I : Nat → Nat → Int32} {L : Nat → Nat → Int64} {D : Nat → Nat} 
    (h1 : Q none (aw_s I L D)) :
    aw_z X (d + 1) y_Mc_goOnIf Q 13 [none, none, none] [] (aw_s I L D) :=
  (z_vret d_Mc_goOnIf_13 rfl (h1))
/-! Mc_nextAnswer -/
theorem d_Mc_nextAnswer_0 : decode y_Mc_nextAnswer.2.1 0 = .ok (.aload_n 0, 1) := by decide +kernel
theorem d_Mc_nextAnswer_1 : decode y_Mc_nextAnswer.2.1 1 = .ok (.getfield 43, 3) := by decide +kernel
theorem d_Mc_nextAnswer_4 : decode y_Mc_nextAnswer.2.1 4 = .ok (.iconst (-1), 1) := by decide +kernel
theorem s_Mc_nextAnswer_0 : aw_VS y_Mc_nextAnswer 0 [o_ald 0, o_getI 3 9, o_c (.int (-1 : Int32))] 5 := .cons (v_aload_n (i := 0) d_Mc_nextAnswer_0 rfl) (.cons (v_getI (k := 9) k_Mc (by decide) (Or.inl rfl) (Or.inl w_132) d_Mc_nextAnswer_1) (.cons (v_iconst (v := (-1 : Int32)) d_Mc_nextAnswer_4 (by decide +kernel)) .nil))
theorem d_Mc_nextAnswer_5 : decode y_Mc_nextAnswer.2.1 5 = .ok (.if_icmp .eq (8), 3) := by decide +kernel
theorem d_Mc_nextAnswer_13 : decode y_Mc_nextAnswer.2.1 13 = .ok (.aload_n 0, 1) := by decide +kernel
theorem d_Mc_nextAnswer_14 : decode y_Mc_nextAnswer.2.1 14 = .ok (.getfield 96, 3) := by decide +kernel
theorem d_Mc_nextAnswer_17 : decode y_Mc_nextAnswer.2.1 17 = .ok (.aload_n 0, 1) := by decide +kernel
theorem d_Mc_nextAnswer_18 : decode y_Mc_nextAnswer.2.1 18 = .ok (.getfield 94, 3) := by decide +kernel
theorem d_Mc_nextAnswer_21 : decode y_Mc_nextAnswer.2.1 21 = .ok (.iand, 1) := by decide +kernel
theorem d_Mc_nextAnswer_22 : decode y_Mc_nextAnswer.2.1 22 = .ok (.istore_n 1, 1) := by decide +kernel
theorem d_Mc_nextAnswer_23 : decode y_Mc_nextAnswer.2.1 23 = .ok (.aload_n 0, 1) := by decide +kernel
theorem d_Mc_nextAnswer_24 : decode y_Mc_nextAnswer.2.1 24 = .ok (.dup, 1) := by decide +kernel
theorem d_Mc_nextAnswer_25 : decode y_Mc_nextAnswer.2.1 25 = .ok (.getfield 96, 3) := by decide +kernel
theorem d_Mc_nextAnswer_28 : decode y_Mc_nextAnswer.2.1 28 = .ok (.aload_n 0, 1) := by decide +kernel
theorem d_Mc_nextAnswer_29 : decode y_Mc_nextAnswer.2.1 29 = .ok (.getfield 31, 3) := by decide +kernel
theorem d_Mc_nextAnswer_32 : decode y_Mc_nextAnswer.2.1 32 = .ok (.getfield 102, 3) := by decide +kernel
theorem d_Mc_nextAnswer_35 : decode y_Mc_nextAnswer.2.1 35 = .ok (.iushr, 1) := by decide +kernel
theorem d_Mc_nextAnswer_36 : decode y_Mc_nextAnswer.2.1 36 = .ok (.putfield 96, 3) := by decide +kernel
theorem d_Mc_nextAnswer_39 : decode y_Mc_nextAnswer.2.1 39 = .ok (.iload_n 1, 1) := by decide +kernel
theorem s_Mc_nextAnswer_13 : aw_VS y_Mc_nextAnswer 13 [o_ald 0, o_getI 3 8, o_ald 0, o_getI 3 7, o_i2 (fun x z => x &&& z), o_ist 1, o_ald 0, o_dup, o_getI 3 8, o_ald 0, o_getA 3 0, o_getI 1 0, o_i2 (fun x z => (x.toUInt32 >>> (z.toUInt32 &&& Int32.toUInt32 31)).toInt32), o_putI 3 8, o_ild 1] 40 := .cons (v_aload_n (i := 0) d_Mc_nextAnswer_13 rfl) (.cons (v_getI (k := 8) k_Mc (by decide) (Or.inl rfl) (Or.inl w_131) d_Mc_nextAnswer_14) (.cons (v_aload_n (i := 0) d_Mc_nextAnswer_17 rfl) (.cons (v_getI (k := 7) k_Mc (by decide) (Or.inl rfl) (Or.inl w_130) d_Mc_nextAnswer_18) (.cons (v_iand d_Mc_nextAnswer_21) (.cons (v_istore_n d_Mc_nextAnswer_22) (.cons (v_aload_n (i := 0) d_Mc_nextAnswer_23 rfl) (.cons (v_dup d_Mc_nextAnswer_24) (.cons (v_getI (k := 8) k_Mc (by decide) (Or.inl rfl) (Or.inl w_131) d_Mc_nextAnswer_25) (.cons (v_aload_n (i := 0) d_Mc_nextAnswer_28 rfl) (.cons (v_getA (k := 0) k_Mc (by decide) rfl (Or.inl w_121) d_Mc_nextAnswer_29) (.cons (v_getI (k := 0) k_Sz (by decide) (Or.inl rfl) (Or.inr ⟨"AllWays", w_88⟩) d_Mc_nextAnswer_32) (.cons (v_iushr d_Mc_nextAnswer_35) (.cons (v_putI (k := 8) k_Mc (by decide) rfl (Or.inl ⟨rfl, Or.inl w_131⟩) d_Mc_nextAnswer_36) (.cons (v_iload_n (i := 1) d_Mc_nextAnswer_39 rfl) .nil))))))))))))))
theorem d_Mc_nextAnswer_40 : decode y_Mc_nextAnswer.2.1 40 = .ok (.ireturn, 1) := by decide +kernel
theorem d_Mc_nextAnswer_8 : decode y_Mc_nextAnswer.2.1 8 = .ok (.aload_n 0, 1) := by decide +kernel
theorem d_Mc_nextAnswer_9 : decode y_Mc_nextAnswer.2.1 9 = .ok (.getfield 43, 3) := by decide +kernel
theorem s_Mc_nextAnswer_8 : aw_VS y_Mc_nextAnswer 8 [o_ald 0, o_getI 3 9] 12 := .cons (v_aload_n (i := 0) d_Mc_nextAnswer_8 rfl) (.cons (v_getI (k := 9) k_Mc (by decide) (Or.inl rfl) (Or.inl w_132) d_Mc_nextAnswer_9) .nil)
theorem d_Mc_nextAnswer_12 : decode y_Mc_nextAnswer.2.1 12 = .ok (.ireturn, 1) := by decide +kernel
theorem b_Mc_nextAnswer_0 {X : aw_X} {d : Nat} {Q : Option Value → aw_H → Prop} {I : Nat → Nat → Int32} {L : Nat → Nat → Int64} {D : Nat → Nat} 
    (h1 : (I 4 9) = (-1 : Int32) → Q (some (.int ((I 4 8) &&& (I 4 7)))) (aw_s (aw_u I 4 8 (((I 4 8).toUInt32 >>> ((I 1 0).toUInt32 &&& Int32.toUInt32 31)).toInt32)) L D))
    (h2 : ¬ (I 4 9) = (-1 : Int32) → Q (some (.int (I 4 9))) (aw_s I L D)) :
    aw_z X d y_Mc_nextAnswer Q 0 [some (.ref 4), none] [] (aw_s I L D) :=
  (s_Mc_nextAnswer_0.go [some (.ref 4), none] [.int (-1 : Int32), .int (I 4 9)] (aw_s I L D) rfl (z_icmp_eq (tgt := 13) d_Mc_nextAnswer_5 rfl (fun q1 => (s_Mc_nextAnswer_13.go [some (.ref 4), some (.int ((I 4 8) &&& (I 4 7)))] [.int ((I 4 8) &&& (I 4 7))] (aw_s (aw_u I 4 8 (((I 4 8).toUInt32 >>> ((I 1 0).toUInt32 &&& Int32.toUInt32 31)).toInt32)) L D) rfl (z_iret d_Mc_nextAnswer_40 rfl rfl (h1 q1)))) (fun q2 => (s_Mc_nextAnswer_8.go [some (.ref 4), none] [.int (I 4 9)] (aw_s I L D) rfl (z_iret d_Mc_nextAnswer_12 rfl rfl (h2 q2))))))
/-! Mc_enter -/
theorem d_Mc_enter_0 : decode y_Mc_enter.2.1 0 = .ok (.aload_n 0, 1) := by decide +kernel
theorem d_Mc_enter_1 : decode y_Mc_enter.2.1 1 = .ok (.getfield 108, 3) := by decide +kernel
theorem s_Mc_enter_0 : aw_VS y_Mc_enter 0 [o_ald 0, o_getI 3 6] 4 := .cons (v_aload_n (i := 0) d_Mc_enter_0 rfl) (.cons (v_getI (k := 6) k_Mc (by decide) (Or.inl rfl) (Or.inl w_129) d_Mc_enter_1) .nil)
theorem d_Mc_enter_4 : decode y_Mc_enter.2.1 4 = .ok (.ifCond .lt (35), 3) := by decide +kernel
theorem d_Mc_enter_39 : decode y_Mc_enter.2.1 39 = .ok (.iload_n 1, 1) := by decide +kernel
theorem s_Mc_enter_39 : aw_VS y_Mc_enter 39 [o_ild 1] 40 := .cons (v_iload_n (i := 1) d_Mc_enter_39 rfl) .nil
theorem d_Mc_enter_40 : decode y_Mc_enter.2.1 40 = .ok (.ireturn, 1) := by decide +kernel
theorem d_Mc_enter_7 : decode y_Mc_enter.2.1 7 = .ok (.aload_n 0, 1) := by decide +kernel
theorem d_Mc_enter_8 : decode y_Mc_enter.2.1 8 = .ok (.getfield 108, 3) := by decide +kernel
theorem d_Mc_enter_11 : decode y_Mc_enter.2.1 11 = .ok (.aload_n 0, 1) := by decide +kernel
theorem d_Mc_enter_12 : decode y_Mc_enter.2.1 12 = .ok (.getfield 21, 3) := by decide +kernel
theorem d_Mc_enter_15 : decode y_Mc_enter.2.1 15 = .ok (.arraylength, 1) := by decide +kernel
theorem s_Mc_enter_7 : aw_VS y_Mc_enter 7 [o_ald 0, o_getI 3 6, o_ald 0, o_getA 3 5, o_alen] 16 := .cons (v_aload_n (i := 0) d_Mc_enter_7 rfl) (.cons (v_getI (k := 6) k_Mc (by decide) (Or.inl rfl) (Or.inl w_129) d_Mc_enter_8) (.cons (v_aload_n (i := 0) d_Mc_enter_11 rfl) (.cons (v_getA (k := 5) k_Mc (by decide) rfl (Or.inl w_128) d_Mc_enter_12) (.cons (v_alen d_Mc_enter_15) .nil))))
theorem d_Mc_enter_16 : decode y_Mc_enter.2.1 16 = .ok (.if_icmp .ge (23), 3) := by decide +kernel
theorem d_Mc_enter_19 : decode y_Mc_enter.2.1 19 = .ok (.aload_n 0, 1) := by decide +kernel
theorem d_Mc_enter_20 : decode y_Mc_enter.2.1 20 = .ok (.getfield 21, 3) := by decide +kernel
theorem d_Mc_enter_23 : decode y_Mc_enter.2.1 23 = .ok (.aload_n 0, 1) := by decide +kernel
theorem d_Mc_enter_24 : decode y_Mc_enter.2.1 24 = .ok (.getfield 108, 3) := by decide +kernel
theorem d_Mc_enter_27 : decode y_Mc_enter.2.1 27 = .ok (.iload_n 2, 1) := by decide +kernel
theorem s_Mc_enter_19 : aw_VS y_Mc_enter 19 [o_ald 0, o_getA 3 5, o_ald 0, o_getI 3 6, o_ild 2] 28 := .cons (v_aload_n (i := 0) d_Mc_enter_19 rfl) (.cons (v_getA (k := 5) k_Mc (by decide) rfl (Or.inl w_128) d_Mc_enter_20) (.cons (v_aload_n (i := 0) d_Mc_enter_23 rfl) (.cons (v_getI (k := 6) k_Mc (by decide) (Or.inl rfl) (Or.inl w_129) d_Mc_enter_24) (.cons (v_iload_n (i := 2) d_Mc_enter_27 rfl) .nil))))
theorem d_Mc_enter_28 : decode y_Mc_enter.2.1 28 = .ok (.iastore, 1) := by decide +kernel
theorem d_Mc_enter_29 : decode y_Mc_enter.2.1 29 = .ok (.aload_n 0, 1) := by decide +kernel
theorem d_Mc_enter_30 : decode y_Mc_enter.2.1 30 = .ok (.dup, 1) := by decide +kernel
theorem d_Mc_enter_31 : decode y_Mc_enter.2.1 31 = .ok (.getfield 108, 3) := by decide +kernel
theorem d_Mc_enter_34 : decode y_Mc_enter.2.1 34 = .ok (.iconst 1, 1) := by decide +kernel
theorem d_Mc_enter_35 : decode y_Mc_enter.2.1 35 = .ok (.iadd, 1) := by decide +kernel
theorem d_Mc_enter_36 : decode y_Mc_enter.2.1 36 = .ok (.putfield 108, 3) := by decide +kernel
theorem s_Mc_enter_29 : aw_VS y_Mc_enter 29 [o_ald 0, o_dup, o_getI 3 6, o_c (.int (1 : Int32)), o_i2 (fun x z => x + z), o_putI 3 6] 39 := .cons (v_aload_n (i := 0) d_Mc_enter_29 rfl) (.cons (v_dup d_Mc_enter_30) (.cons (v_getI (k := 6) k_Mc (by decide) (Or.inl rfl) (Or.inl w_129) d_Mc_enter_31) (.cons (v_iconst (v := (1 : Int32)) d_Mc_enter_34 (by decide +kernel)) (.cons (v_iadd d_Mc_enter_35) (.cons (v_putI (k := 6) k_Mc (by decide) rfl (Or.inl ⟨rfl, Or.inl w_129⟩) d_Mc_enter_36) .nil)))))
theorem b_Mc_enter_0 {X : aw_X} {d : Nat} {Q : Option Value → aw_H → Prop} {I : Nat → Nat → Int32} {L : Nat → Nat → Int64} {D : Nat → Nat} {v1 : Int32} {v2 : Int32}
    (h1 : (I 4 6) < 0 → Q (some (.int v1)) (aw_s I L D))
    (h2 : ¬ (I 4 6) < 0 → (4 : Int32) ≤ (I 4 6) → Q (some (.int v1)) (aw_s I L D))
    (h3 : ¬ (I 4 6) < 0 → ¬ (4 : Int32) ≤ (I 4 6) → vp_in (I 4 6) 4)
    (h4 : ¬ (I 4 6) < 0 → ¬ (4 : Int32) ≤ (I 4 6) → Q (some (.int v1)) (aw_s (aw_u (aw_u I 8 ((I 4 6).toNatClampNeg) v2) 4 6 ((I 4 6) + (1 : Int32))) L D)) :
    aw_z X d y_Mc_enter Q 0 [some (.ref 4), some (.int v1), some (.int v2)] [] (aw_s I L D) :=
  (s_Mc_enter_0.go [some (.ref 4), some (.int v1), some (.int v2)] [.int (I 4 6)] (aw_s I L D) rfl (z_if_lt (tgt := 39) d_Mc_enter_4 rfl (fun q1 => (s_Mc_enter_39.go [some (.ref 4), some (.int v1), some (.int v2)] [.int v1] (aw_s I L D) rfl (z_iret d_Mc_enter_40 rfl rfl (h1 q1)))) (fun q2 => (s_Mc_enter_7.go [some (.ref 4), some (.int v1), some (.int v2)] [.int (4 : Int32), .int (I 4 6)] (aw_s I L D) rfl (z_icmp_ge (tgt := 39) d_Mc_enter_16 rfl (fun q3 => (s_Mc_enter_39.go [some (.ref 4), some (.int v1), some (.int v2)] [.int v1] (aw_s I L D) rfl (z_iret d_Mc_enter_40 rfl rfl (h2 q2 q3)))) (fun q4 => (s_Mc_enter_19.go [some (.ref 4), some (.int v1), some (.int v2)] [.int v2, .int (I 4 6), .ref 8] (aw_s I L D) rfl (z_iast (n := 4) rfl (aw_lt (o := 8) rfl) (h3 q2 q4) d_Mc_enter_28 (s_Mc_enter_29.go [some (.ref 4), some (.int v1), some (.int v2)] [] (aw_s (aw_u (aw_u I 8 ((I 4 6).toNatClampNeg) v2) 4 6 ((I 4 6) + (1 : Int32))) L D) rfl (s_Mc_enter_39.go [some (.ref 4), some (.int v1), some (.int v2)] [.int v1] (aw_s (aw_u (aw_u I 8 ((I 4 6).toNatClampNeg) v2) 4 6 ((I 4 6) + (1 : Int32))) L D) rfl (z_iret d_Mc_enter_40 rfl rfl (h4 q2 q4))))))))))))
/-! Mc_leave -/
theorem d_Mc_leave_0 : decode y_Mc_leave.2.1 0 = .ok (.aload_n 0, 1) := by decide +kernel
theorem d_Mc_leave_1 : decode y_Mc_leave.2.1 1 = .ok (.getfield 108, 3) := by decide +kernel
theorem s_Mc_leave_0 : aw_VS y_Mc_leave 0 [o_ald 0, o_getI 3 6] 4 := .cons (v_aload_n (i := 0) d_Mc_leave_0 rfl) (.cons (v_getI (k := 6) k_Mc (by decide) (Or.inl rfl) (Or.inl w_129) d_Mc_leave_1) .nil)
theorem d_Mc_leave_4 : decode y_Mc_leave.2.1 4 = .ok (.ifCond .le (35), 3) := by decide +kernel
theorem d_Mc_leave_39 : decode y_Mc_leave.2.1 39 = .ok (.iconst (-1), 1) := by decide +kernel
theorem s_Mc_leave_39 : aw_VS y_Mc_leave 39 [o_c (.int (-1 : Int32))] 40 := .cons (v_iconst (v := (-1 : Int32)) d_Mc_leave_39 (by decide +kernel)) .nil
theorem d_Mc_leave_40 : decode y_Mc_leave.2.1 40 = .ok (.ireturn, 1) := by decide +kernel
theorem d_Mc_leave_7 : decode y_Mc_leave.2.1 7 = .ok (.aload_n 0, 1) := by decide +kernel
theorem d_Mc_leave_8 : decode y_Mc_leave.2.1 8 = .ok (.getfield 108, 3) := by decide +kernel
theorem d_Mc_leave_11 : decode y_Mc_leave.2.1 11 = .ok (.aload_n 0, 1) := by decide +kernel
theorem d_Mc_leave_12 : decode y_Mc_leave.2.1 12 = .ok (.getfield 21, 3) := by decide +kernel
theorem d_Mc_leave_15 : decode y_Mc_leave.2.1 15 = .ok (.arraylength, 1) := by decide +kernel
theorem s_Mc_leave_7 : aw_VS y_Mc_leave 7 [o_ald 0, o_getI 3 6, o_ald 0, o_getA 3 5, o_alen] 16 := .cons (v_aload_n (i := 0) d_Mc_leave_7 rfl) (.cons (v_getI (k := 6) k_Mc (by decide) (Or.inl rfl) (Or.inl w_129) d_Mc_leave_8) (.cons (v_aload_n (i := 0) d_Mc_leave_11 rfl) (.cons (v_getA (k := 5) k_Mc (by decide) rfl (Or.inl w_128) d_Mc_leave_12) (.cons (v_alen d_Mc_leave_15) .nil))))
theorem d_Mc_leave_16 : decode y_Mc_leave.2.1 16 = .ok (.if_icmp .gt (23), 3) := by decide +kernel
theorem d_Mc_leave_19 : decode y_Mc_leave.2.1 19 = .ok (.aload_n 0, 1) := by decide +kernel
theorem d_Mc_leave_20 : decode y_Mc_leave.2.1 20 = .ok (.dup, 1) := by decide +kernel
theorem d_Mc_leave_21 : decode y_Mc_leave.2.1 21 = .ok (.getfield 108, 3) := by decide +kernel
theorem d_Mc_leave_24 : decode y_Mc_leave.2.1 24 = .ok (.iconst 1, 1) := by decide +kernel
theorem d_Mc_leave_25 : decode y_Mc_leave.2.1 25 = .ok (.isub, 1) := by decide +kernel
theorem d_Mc_leave_26 : decode y_Mc_leave.2.1 26 = .ok (.putfield 108, 3) := by decide +kernel
theorem d_Mc_leave_29 : decode y_Mc_leave.2.1 29 = .ok (.aload_n 0, 1) := by decide +kernel
theorem d_Mc_leave_30 : decode y_Mc_leave.2.1 30 = .ok (.getfield 21, 3) := by decide +kernel
theorem d_Mc_leave_33 : decode y_Mc_leave.2.1 33 = .ok (.aload_n 0, 1) := by decide +kernel
theorem d_Mc_leave_34 : decode y_Mc_leave.2.1 34 = .ok (.getfield 108, 3) := by decide +kernel
theorem s_Mc_leave_19 : aw_VS y_Mc_leave 19 [o_ald 0, o_dup, o_getI 3 6, o_c (.int (1 : Int32)), o_i2 (fun x z => x - z), o_putI 3 6, o_ald 0, o_getA 3 5, o_ald 0, o_getI 3 6] 37 := .cons (v_aload_n (i := 0) d_Mc_leave_19 rfl) (.cons (v_dup d_Mc_leave_20) (.cons (v_getI (k := 6) k_Mc (by decide) (Or.inl rfl) (Or.inl w_129) d_Mc_leave_21) (.cons (v_iconst (v := (1 : Int32)) d_Mc_leave_24 (by decide +kernel)) (.cons (v_isub d_Mc_leave_25) (.cons (v_putI (k := 6) k_Mc (by decide) rfl (Or.inl ⟨rfl, Or.inl w_129⟩) d_Mc_leave_26) (.cons (v_aload_n (i := 0) d_Mc_leave_29 rfl) (.cons (v_getA (k := 5) k_Mc (by decide) rfl (Or.inl w_128) d_Mc_leave_30) (.cons (v_aload_n (i := 0) d_Mc_leave_33 rfl) (.cons (v_getI (k := 6) k_Mc (by decide) (Or.inl rfl) (Or.inl w_129) d_Mc_leave_34) .nil)))))))))
theorem d_Mc_leave_37 : decode y_Mc_leave.2.1 37 = .ok (.iaload, 1) := by decide +kernel
theorem d_Mc_leave_38 : decode y_Mc_leave.2.1 38 = .ok (.ireturn, 1) := by decide +kernel
theorem b_Mc_leave_0 {X : aw_X} {d : Nat} {Q : Option Value → aw_H → Prop} {I : Nat → Nat → Int32} {L : Nat → Nat → Int64} {D : Nat → Nat} 
    (h1 : (I 4 6) ≤ 0 → Q (some (.int (-1 : Int32))) (aw_s I L D))
    (h2 : ¬ (I 4 6) ≤ 0 → (4 : Int32) < (I 4 6) → Q (some (.int (-1 : Int32))) (aw_s I L D))
    (h3 : ¬ (I 4 6) ≤ 0 → ¬ (4 : Int32) < (I 4 6) → vp_in ((I 4 6) - (1 : Int32)) 4)
    (h4 : ¬ (I 4 6) ≤ 0 → ¬ (4 : Int32) < (I 4 6) → Q (some (.int (I 8 (((I 4 6) - (1 : Int32)).toNatClampNeg)))) (aw_s (aw_u I 4 6 ((I 4 6) - (1 : Int32))) L D)) :
    aw_z X d y_Mc_leave Q 0 [some (.ref 4)] [] (aw_s I L D) :=
  (s_Mc_leave_0.go [some (.ref 4)] [.int (I 4 6)] (aw_s I L D) rfl (z_if_le (tgt := 39) d_Mc_leave_4 rfl (fun q1 => (s_Mc_leave_39.go [some (.ref 4)] [.int (-1 : Int32)] (aw_s I L D) rfl (z_iret d_Mc_leave_40 rfl rfl (h1 q1)))) (fun q2 => (s_Mc_leave_7.go [some (.ref 4)] [.int (4 : Int32), .int (I 4 6)] (aw_s I L D) rfl (z_icmp_gt (tgt := 39) d_Mc_leave_16 rfl (fun q3 => (s_Mc_leave_39.go [some (.ref 4)] [.int (-1 : Int32)] (aw_s I L D) rfl (z_iret d_Mc_leave_40 rfl rfl (h2 q2 q3)))) (fun q4 => (s_Mc_leave_19.go [some (.ref 4)] [.int ((I 4 6) - (1 : Int32)), .ref 8] (aw_s (aw_u I 4 6 ((I 4 6) - (1 : Int32))) L D) rfl (z_iald (n := 4) rfl (aw_lt (o := 8) rfl) (h3 q2 q4) d_Mc_leave_37 (z_iret d_Mc_leave_38 rfl rfl (h4 q2 q4))))))))))
