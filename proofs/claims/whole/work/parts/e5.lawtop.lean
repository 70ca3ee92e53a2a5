/-! PART e5: the law, from its entry to its loop -/
/-- the references, the last made first -/
def lwCh : List (Nat × Nat × Nat) := [(69, 84, 114), (69, 82, 113), (69, 81, 112), (69, 80, 111), (69, 79, 110), (69, 78, 109), (69, 77, 108), (69, 76, 107), (69, 74, 106), (69, 70, 105), (69, 68, 104), (69, 63, 103), (69, 62, 102), (69, 61, 101), (69, 60, 100), (69, 59, 99), (69, 58, 98), (69, 57, 97), (69, 56, 96), (69, 55, 95), (69, 54, 94), (69, 53, 93), (69, 52, 92), (69, 51, 91), (69, 50, 90), (69, 49, 89), (69, 41, 88), (69, 40, 87), (69, 39, 86), (69, 38, 85), (69, 37, 84), (69, 24, 83), (69, 23, 82), (69, 22, 81), (69, 21, 80), (69, 20, 79), (69, 19, 78), (69, 18, 77), (69, 17, 76), (69, 16, 75), (69, 15, 74), (69, 14, 73), (69, 13, 72), (69, 12, 71), (69, 1, 70), (0, 16, 68), (0, 13, 67), (0, 10, 66), (0, 8, 60), (60, 2, 55), (60, 0, 62), (62, 0, 2), (62, 3, 65), (62, 2, 64), (62, 1, 63), (60, 1, 61), (0, 7, 55), (55, 3, 59), (55, 2, 58), (55, 1, 57), (55, 0, 56), (0, 6, 50), (50, 3, 54), (50, 2, 53), (50, 1, 52), (50, 0, 51), (0, 5, 29), (29, 3, 45), (45, 3, 49), (45, 2, 48), (45, 1, 47), (45, 0, 46), (29, 2, 40), (40, 3, 44), (40, 2, 43), (40, 1, 42), (40, 0, 41), (29, 1, 35), (35, 3, 39), (35, 2, 38), (35, 1, 37), (35, 0, 36), (29, 0, 30), (30, 3, 34), (30, 2, 33), (30, 1, 32), (30, 0, 31), (0, 4, 23), (23, 1, 4), (23, 0, 1), (23, 7, 28), (23, 5, 27), (23, 4, 26), (23, 3, 25), (23, 2, 24), (0, 3, 11), (11, 16, 22), (11, 15, 21), (11, 14, 20), (11, 13, 19), (11, 12, 18), (11, 9, 17), (11, 8, 16), (11, 7, 15), (11, 5, 14), (11, 4, 13), (11, 3, 12), (0, 2, 4), (4, 0, 1), (4, 18, 10), (4, 17, 9), (4, 5, 8), (4, 3, 7), (4, 2, 6), (4, 1, 5), (0, 1, 2), (2, 0, 3), (0, 0, 1)]
def lwFd (l : List (Nat × Nat × Nat)) (o k : Nat) : Option Nat := (l.find? (fun t => Nat.beq t.1 o && Nat.beq t.2.1 k)).map (fun t => t.2.2)
theorem ch_fold (l : List (Nat × Nat × Nat)) (o k : Nat) : l.foldr (fun t R => aw_u R t.1 t.2.1 (some t.2.2)) (fun _ _ => none) o k = lwFd l o k := by
  induction l with
  | nil => rfl
  | cons t l ih =>
    rw [List.foldr_cons]
    unfold lwFd at *
    rw [List.find?_cons]
    by_cases h1 : t.1 = o
    · by_cases h2 : t.2.1 = k
      · subst h1; subst h2
        rw [Nat.beq_refl, Nat.beq_refl]
        exact au_s _ _ _ _
      · rw [show Nat.beq t.2.1 k = false from Bool.eq_false_iff.mpr (fun q => h2 (Nat.eq_of_beq_eq_true q)), Bool.and_false]
        exact (au_ok (Or.inr fun q => h2 q.symm)).trans ih
    · rw [show Nat.beq t.1 o = false from Bool.eq_false_iff.mpr (fun q => h1 (Nat.eq_of_beq_eq_true q)), Bool.false_and]
      exact (au_ok (Or.inl fun q => h1 q.symm)).trans ih
def lxD : Nat → Nat := fun k => [30, 35, 40, 45, 50].getD k 55
def lxI : Nat → Nat → Int32 := (aw_u (aw_u (aw_u (aw_u (aw_u (aw_u (aw_u (aw_u (aw_u (aw_u (aw_u (aw_u (aw_u (aw_u (aw_u (aw_u (aw_u (aw_u (fun _ _ => 0) 1 0 (3 : Int32)) 1 1 (1 : Int32)) 1 2 (0 : Int32)) 0 12 (-1 : Int32)) 0 15 (-1 : Int32)) 69 33 (3 : Int32)) 69 34 (1 : Int32)) 69 72 (-1 : Int32)) 69 73 (-1 : Int32)) 111 0 (1 : Int32)) 111 1 (3 : Int32)) 111 2 (9 : Int32)) 111 3 (27 : Int32)) 111 4 (81 : Int32)) 111 5 (243 : Int32)) 111 6 (729 : Int32)) 111 7 (2187 : Int32)) 111 8 (6561 : Int32))
def lxJ : Nat → Nat → Int64 := fun _ _ => 0
def lxR : Nat → Nat → Option Nat := lwCh.foldr (fun t R => aw_u R t.1 t.2.1 (some t.2.2)) (fun _ _ => none)
def lxO : List Nat := [0, 2, 4, 11, 23, 29, 30, 35, 40, 45, 50, 55, 60, 62]
theorem rs_len {o k N : Nat} (hl : (aw_rl.getD o []).length ≤ N) (h : N ≤ k) : aw_rs o k = none := by
  unfold aw_rs
  rw [List.getD_eq_getElem?_getD, List.getElem?_eq_none (Nat.le_trans hl h)]; rfl
theorem rl_len : ∀ o, o < 116 → (o = 69 ∨ (aw_rl.getD o []).length ≤ (if lxO.contains o then 20 else 0)) := by decide +kernel
theorem rl_69 : (aw_rl.getD 69 []).length ≤ 86 := by decide +kernel
theorem rl_out {o : Nat} (h : 116 ≤ o) : (aw_rl.getD o []).length ≤ 0 := by
  have : aw_rl[o]? = none := List.getElem?_eq_none (Nat.le_trans (show aw_rl.length ≤ 116 by decide +kernel) h)
  rw [show aw_rl.getD o [] = aw_rl[o]?.getD [] from List.getD_eq_getElem?_getD, this]
  exact Nat.le_refl _
theorem fd_in : ∀ o ∈ lxO, ∀ k, k < 20 → lwFd lwCh o k = aw_R lxD o k := by decide +kernel
theorem fd_69 : ∀ k, k < 86 → lwFd lwCh 69 k = aw_R lxD 69 k := by decide +kernel
theorem fd_out {o k : Nat} (h : o ≠ 69 ∧ (o ∉ lxO ∨ 20 ≤ k) ∨ 86 ≤ k) : lwFd lwCh o k = none := by
  unfold lwFd
  have : lwCh.find? (fun t => Nat.beq t.1 o && Nat.beq t.2.1 k) = none := by
    rw [List.find?_eq_none]
    intro t ht hb
    obtain ⟨a, b⟩ := (show ∀ t ∈ lwCh, t.2.1 < 86 ∧ (t.1 = 69 ∨ (t.1 ∈ lxO ∧ t.2.1 < 20)) by decide +kernel) t ht
    rw [Bool.and_eq_true] at hb
    have e1 := Nat.eq_of_beq_eq_true hb.1
    have e2 := Nat.eq_of_beq_eq_true hb.2
    rw [e1, e2] at b
    rw [e2] at a
    rcases h with ⟨h1, h2⟩ | h
    · rcases b with b | ⟨b1, b2⟩
      · exact h1 b
      · rcases h2 with h2 | h2
        · exact h2 b1
        · exact Nat.not_le.mpr b2 h2
    · exact Nat.not_le.mpr a h
  rw [this]; rfl
theorem R_out {o k : Nat} (h : o ≠ 69 ∧ (o ∉ lxO ∨ 20 ≤ k) ∨ 86 ≤ k) : aw_R lxD o k = none := by
  have h0 : o = 0 → 20 ≤ k := fun e => by
    rcases h with ⟨h1, h2⟩ | h
    · rcases h2 with h2 | h2
      · exact absurd (show o ∈ lxO by rw [e]; decide) h2
      · exact h2
    · omega
  have h29 : o = 29 → 20 ≤ k := fun e => by
    rcases h with ⟨h1, h2⟩ | h
    · rcases h2 with h2 | h2
      · exact absurd (show o ∈ lxO by rw [e]; decide) h2
      · exact h2
    · omega
  have h60 : o = 60 → 20 ≤ k := fun e => by
    rcases h with ⟨h1, h2⟩ | h
    · rcases h2 with h2 | h2
      · exact absurd (show o ∈ lxO by rw [e]; decide) h2
      · exact h2
    · omega
  have hs : aw_rs o k = none := by
    by_cases hb : 116 ≤ o
    · exact rs_len (rl_out hb) (Nat.zero_le _)
    · rcases rl_len o (by omega) with q | q
      · subst q
        rcases h with ⟨h1, -⟩ | h
        · exact absurd rfl h1
        · exact rs_len rl_69 h
      · by_cases c : lxO.contains o = true
        · rw [if_pos c] at q
          rcases h with ⟨-, h2⟩ | h
          · rcases h2 with h2 | h2
            · exact absurd (List.contains_iff_mem.mp c) h2
            · exact rs_len q h2
          · exact rs_len q (by omega)
        · rw [if_neg c] at q
          exact rs_len q (Nat.zero_le _)
  unfold aw_R
  by_cases e0 : o = 0
  · have := h0 e0
    rw [if_pos e0, if_neg (by omega), if_neg (by omega), ← e0]; exact hs
  · rw [if_neg e0]
    by_cases e1 : o = 29
    · have := h29 e1
      rw [if_pos e1, if_neg (by omega)]
    · rw [if_neg e1]
      by_cases e2 : o = 60
      · have := h60 e2
        rw [if_pos e2, if_neg (by omega), ← e2]; exact hs
      · rw [if_neg e2]; exact hs
theorem lxR_eq : lxR = aw_R lxD := by
  funext o k
  refine (ch_fold lwCh o k).trans ?_
  by_cases h : o ≠ 69 ∧ (o ∉ lxO ∨ 20 ≤ k) ∨ 86 ≤ k
  · rw [fd_out h, R_out h]
  · by_cases e : o = 69
    · subst e
      exact fd_69 k (by omega)
    · have hm : o ∈ lxO ∧ k < 20 := by
        by_cases m : o ∈ lxO
        · refine ⟨m, ?_⟩
          by_cases q : k < 20
          · exact q
          · exact absurd (Or.inl ⟨e, Or.inr (by omega)⟩) h
        · exact absurd (Or.inl ⟨e, Or.inl m⟩) h
      exact fd_in o hm.1 k hm.2
theorem aw_Z.flag {X : aw_X} {d mc ms : Nat} {y : aw_Y} {Q : Option Value → aw_H → Prop} {kc ks pc : Nat} {ls : aw_L} {st : List Value} {I : Nat → Nat → Int32} {L : Nat → Nat → Int64} {R : Nat → Nat → Option Nat} {n : Nat} (h : aw_Z X d mc ms y Q kc ks pc ls st (I, L, R, n, false)) : aw_Z X d mc ms y Q kc ks pc ls st (I, L, R, n, true) := by
  intro p e s m args below meth c F H locs r hR hS hL h1 h2
  exact h p e s m args below meth c F H locs r ⟨hR.1, hR.2.1, fun q => Bool.noConfusion q⟩ hS hL h1 h2
/-- the relation at the start -/
theorem lw_KCd {c : Nat} (h4 : lxI c 4 = 0) (h5 : lxI c 5 = 0) (h6 : lxI c 6 = 0) (h8 : lxI c 8 = 0) : KCd E0 c lxI lxJ :=
  ⟨⟨0, h4, Or.inr ⟨rfl, rfl⟩, fun j hj => absurd hj (Nat.not_lt_zero _)⟩, h5, h6, h8, rfl, fun j hj => absurd hj (by
    show ¬ j < min 0 20
    omega)⟩
theorem lw_Rel : Rel lxI lxJ lxD := by
  refine ⟨⟨fun _ => E0, ⟨by decide +kernel, fun i j hi hj hn => (show ∀ i, i < 6 → ∀ j, j < 6 → i ≠ j → lxD i ≠ lxD j by decide +kernel) i hi j hj hn⟩, fun k hk => ⟨E0_PG, ?_⟩, Or.inr ⟨rfl, fun k hk => ⟨rfl, rfl, rfl, rfl, rfl⟩⟩, fun j _ => Or.inl rfl⟩, ⟨0, by decide, rfl, rfl, fun j hj => absurd hj (Nat.not_lt_zero _)⟩, fun j _ => ⟨0, by decide, rfl⟩, rfl, ⟨3, 1, 0, by unfold SZok; decide, rfl, rfl, rfl, ⟨rfl, rfl, rfl⟩⟩, Or.inl ⟨rfl, rfl⟩, fun j hj => ?_, Or.inl ⟨rfl, rfl⟩, ⟨0, by decide, rfl, rfl, fun j hj => absurd hj (Nat.not_lt_zero _)⟩, ⟨0, by decide, rfl, rfl, fun j hj => absurd hj (Nat.not_lt_zero _)⟩, ⟨0, by decide, rfl, rfl, fun j hj => absurd hj (Nat.not_lt_zero _)⟩, Or.inl ⟨rfl, rfl⟩, rfl, rfl, rfl, rfl⟩
  · rcases (show k = 0 ∨ k = 1 ∨ k = 2 ∨ k = 3 by omega) with e | e | e | e <;> subst e <;> exact lw_KCd rfl rfl rfl rfl
  · rcases (show j = 0 ∨ j = 1 ∨ j = 2 ∨ j = 3 ∨ j = 4 ∨ j = 5 ∨ j = 6 ∨ j = 7 ∨ j = 8 by omega) with e | e | e | e | e | e | e | e | e <;> subst e <;> rfl
set_option maxRecDepth 100000 in
theorem law_top {X : aw_X} (hl : X.1.stackTraces = false) (hL : aw_xl X ≤ 3072) {Q : Option Value → aw_H → Prop} (hQ : ∀ A, Q (some (.int 1)) A) : aw_Z X 2048 601024 7293034 y_Law_law Q 0 0 0 [some (.ref 1005), none, none, none, none, none, none] [] (fun _ _ => 0, fun _ _ => 0, fun _ _ => none, 0, true) := by
  have f0 : aw_F (fun _ _ => 0) (fun _ _ => 0) (fun _ _ => none) 0 := fun o _ => ⟨fun _ => rfl, fun _ => rfl, fun _ => rfl⟩
  refine z_new (idx := 8) (N := 18) k_AW gt_AW w_156 w_157 w_132 d_Law_law_0 rfl (aw_lt rfl) f0 (Nat.le_of_ble_eq_true rfl) (Nat.le_of_ble_eq_true rfl) (fun f1 => ?_)
  refine s_Law_law_3.go [some (.ref 1005), none, none, none, none, none, none] [.ref 0, .ref 0] _ rfl ?_
  refine z_callI (av := []) (st := [.ref 0]) (mc2 := 68) (ms2 := 64136) ok_AW_init rfl rfl (Or.inl w_158) w_159 d_Law_law_4 (aw_ltn rfl) rfl rfl (Nat.le_of_ble_eq_true rfl) (Nat.le_of_ble_eq_true rfl) (Nat.le_of_ble_eq_true rfl) (ci_0 (d := 2044) f1 (fun f2 => ?_))
  refine s_Law_law_7.go [some (.ref 1005), some (.ref 0), none, none, none, none, none] [] _ rfl ?_
  refine z_new (idx := 16) (N := 86) k_M gt_M w_1455 w_1456 w_141 d_Law_law_8 rfl (aw_lt rfl) f2 (Nat.le_of_ble_eq_true rfl) (Nat.le_of_ble_eq_true rfl) (fun f3 => ?_)
  refine s_Law_law_11.go [some (.ref 1005), some (.ref 0), none, none, none, none, none] [.ref 69, .ref 69] _ rfl ?_
  refine z_callI (av := []) (st := [.ref 69]) (mc2 := 45) (ms2 := 83539) ok_M_init rfl rfl (Or.inl w_1457) w_1458 d_Law_law_12 (aw_ltn rfl) rfl rfl (Nat.le_of_ble_eq_true rfl) (Nat.le_of_ble_eq_true rfl) (Nat.le_of_ble_eq_true rfl) (ci_69 (d := 2046) f3 (fun f4 => ?_))
  refine s_Law_law_15.go [some (.ref 1005), some (.ref 0), some (.ref 69), none, none, none, none] [.int 1] _ rfl ?_
  refine z_newJ (N := 1) w_ac_long d_Law_law_17 rfl (aw_lt rfl) (by decide) (by decide) rfl f4 (Nat.le_of_ble_eq_true rfl) (Nat.le_of_ble_eq_true rfl) (fun _ => ?_)
  refine s_Law_law_19.go (lwL 0) [] _ rfl ?_
  have k := law_loop hl hL hQ (aw_xl X) 0 116 147780 lxI lxJ lxD (by omega) (Nat.zero_le _) (by omega) (by omega) lw_Rel
  unfold aw_s at k
  rw [← lxR_eq] at k
  exact aw_Z.flag k
