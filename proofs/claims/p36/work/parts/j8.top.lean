/-! PART j8: the law, from its entry -/
/-- the references, the last made first -/
def lwCh : List (Nat × Nat × Nat) := [(0, 16, 68), (0, 13, 67), (0, 10, 66), (0, 8, 60), (60, 2, 55), (60, 0, 62), (62, 0, 2), (62, 3, 65), (62, 2, 64), (62, 1, 63), (60, 1, 61), (0, 7, 55), (55, 3, 59), (55, 2, 58), (55, 1, 57), (55, 0, 56), (0, 6, 50), (50, 3, 54), (50, 2, 53), (50, 1, 52), (50, 0, 51), (0, 5, 29), (29, 3, 45), (45, 3, 49), (45, 2, 48), (45, 1, 47), (45, 0, 46), (29, 2, 40), (40, 3, 44), (40, 2, 43), (40, 1, 42), (40, 0, 41), (29, 1, 35), (35, 3, 39), (35, 2, 38), (35, 1, 37), (35, 0, 36), (29, 0, 30), (30, 3, 34), (30, 2, 33), (30, 1, 32), (30, 0, 31), (0, 4, 23), (23, 1, 4), (23, 0, 1), (23, 7, 28), (23, 5, 27), (23, 4, 26), (23, 3, 25), (23, 2, 24), (0, 3, 11), (11, 16, 22), (11, 15, 21), (11, 14, 20), (11, 13, 19), (11, 12, 18), (11, 9, 17), (11, 8, 16), (11, 7, 15), (11, 5, 14), (11, 4, 13), (11, 3, 12), (0, 2, 4), (4, 0, 1), (4, 18, 10), (4, 17, 9), (4, 5, 8), (4, 3, 7), (4, 2, 6), (4, 1, 5), (0, 1, 2), (2, 0, 3), (0, 0, 1)]
def lwFd (l : List (Nat × Nat × Nat)) (o k : Nat) : Option Nat := (l.find? (fun t => Nat.beq t.1 o && Nat.beq t.2.1 k)).map (fun t => t.2.2)
theorem ch_fold (l : List (Nat × Nat × Nat)) (o k : Nat) : l.foldr (fun t R => aw_u R t.1 t.2.1 (some t.2.2)) (fun _ _ => none) o k = lwFd l o k := by
  induction l with
  | nil => rfl
  | cons t l ih =>
    rw [List.foldr_cons]
    unfold lwFd at *
    rw [List.find?_cons]
    by_cases h1 : t.1 = o
    · by_cases h2 : t.2.1 = k
      · subst h1; subst h2
        rw [Nat.beq_refl, Nat.beq_refl]
        exact au_s _ _ _ _
      · rw [show Nat.beq t.2.1 k = false from Bool.eq_false_iff.mpr (fun q => h2 (Nat.eq_of_beq_eq_true q)), Bool.and_false]
        exact (au_ok (Or.inr fun q => h2 q.symm)).trans ih
    · rw [show Nat.beq t.1 o = false from Bool.eq_false_iff.mpr (fun q => h1 (Nat.eq_of_beq_eq_true q)), Bool.false_and]
      exact (au_ok (Or.inl fun q => h1 q.symm)).trans ih
def lxD : Nat → Nat := fun k => [30, 35, 40, 45, 50, 55, 55].getD k 0
def lxI : Nat → Nat → Int32 := (aw_u (aw_u (aw_u (aw_u (aw_u (fun _ _ => 0) 1 0 (3 : Int32)) 1 1 (1 : Int32)) 1 2 (0 : Int32)) 0 12 (-1 : Int32)) 0 15 (-1 : Int32))
def lxJ : Nat → Nat → Int64 := fun _ _ => 0
def lxR : Nat → Nat → Option Nat := lwCh.foldr (fun t R => aw_u R t.1 t.2.1 (some t.2.2)) (fun _ _ => none)
def lxO : List Nat := [0, 2, 4, 11, 23, 29, 30, 35, 40, 45, 50, 55, 60, 62]
theorem rs_len {o k N : Nat} (hl : (aw_rl.getD o []).length ≤ N) (h : N ≤ k) : aw_rs o k = none := by
  unfold aw_rs
  rw [List.getD_eq_getElem?_getD, List.getElem?_eq_none (Nat.le_trans hl h)]; rfl
theorem rl_len : ∀ o, o < 74 → (aw_rl.getD o []).length ≤ (if lxO.contains o then 20 else 0) := by decide +kernel
theorem rl_out {o : Nat} (h : 74 ≤ o) : (aw_rl.getD o []).length ≤ 0 := by
  have : aw_rl[o]? = none := List.getElem?_eq_none (Nat.le_trans (show aw_rl.length ≤ 74 by decide +kernel) h)
  rw [show aw_rl.getD o [] = aw_rl[o]?.getD [] from List.getD_eq_getElem?_getD, this]
  exact Nat.le_refl _
theorem fd_in : ∀ o ∈ lxO, ∀ k, k < 20 → lwFd lwCh o k = aw_R lxD o k := by decide +kernel
theorem fd_out {o k : Nat} (h : o ∉ lxO ∨ 20 ≤ k) : lwFd lwCh o k = none := by
  unfold lwFd
  have : lwCh.find? (fun t => Nat.beq t.1 o && Nat.beq t.2.1 k) = none := by
    rw [List.find?_eq_none]
    intro t ht hb
    obtain ⟨a, b⟩ := (show ∀ t ∈ lwCh, t.1 ∈ lxO ∧ t.2.1 < 20 by decide +kernel) t ht
    rw [Bool.and_eq_true] at hb
    have e1 := Nat.eq_of_beq_eq_true hb.1
    have e2 := Nat.eq_of_beq_eq_true hb.2
    rw [e1] at a
    rw [e2] at b
    rcases h with h | h
    · exact h a
    · exact Nat.not_le.mpr b h
  rw [this]; rfl
theorem R_out {o k : Nat} (h : o ∉ lxO ∨ 20 ≤ k) : aw_R lxD o k = none := by
  have hx : ∀ z, z ∈ lxO → o = z → 20 ≤ k := fun z hz e => by
    rcases h with h2 | h2
    · exact absurd (e ▸ hz) h2
    · exact h2
  have h0 : o = 0 → 20 ≤ k := hx 0 (by decide)
  have h29 : o = 29 → 20 ≤ k := hx 29 (by decide)
  have h60 : o = 60 → 20 ≤ k := hx 60 (by decide)
  have hs : aw_rs o k = none := by
    by_cases hb : 74 ≤ o
    · exact rs_len (rl_out hb) (Nat.zero_le _)
    · have q := rl_len o (by omega)
      by_cases c : lxO.contains o = true
      · rw [if_pos c] at q
        rcases h with h2 | h2
        · exact absurd (List.contains_iff_mem.mp c) h2
        · exact rs_len q h2
      · rw [if_neg c] at q
        exact rs_len q (Nat.zero_le _)
  unfold aw_R
  by_cases e0 : o = 0
  · have := h0 e0
    rw [if_pos e0, if_neg (by omega), if_neg (by omega), ← e0]; exact hs
  · rw [if_neg e0]
    by_cases e1 : o = 29
    · have := h29 e1
      rw [if_pos e1, if_neg (by omega)]
    · rw [if_neg e1]
      by_cases e2 : o = 60
      · have := h60 e2
        rw [if_pos e2, if_neg (by omega), ← e2]; exact hs
      · rw [if_neg e2]; exact hs
theorem lxR_eq : lxR = aw_R lxD := by
  funext o k
  refine (ch_fold lwCh o k).trans ?_
  by_cases h : o ∉ lxO ∨ 20 ≤ k
  · rw [fd_out h, R_out h]
  · have hm : o ∈ lxO ∧ k < 20 := by
      by_cases m : o ∈ lxO
      · refine ⟨m, ?_⟩
        by_cases q : k < 20
        · exact q
        · exact absurd (Or.inr (by omega)) h
      · exact absurd (Or.inl m) h
    exact fd_in o hm.1 k hm.2
theorem bits_v (c : Int32) : ∃ B, (2 ≤ B ∧ B ≤ 4) ∧ (2 : Int32) + ((c &&& 3) - (c &&& 3) / 3 * 3) = nI B := by
  obtain ⟨j, hj, e⟩ := rg_and (B := 2) (g := 3) (by decide) rfl c
  have hj : j < 4 := hj
  rw [e]
  rcases (show j = 0 ∨ j = 1 ∨ j = 2 ∨ j = 3 by omega) with q | q | q | q <;> subst q
  · exact ⟨2, by decide, by decide +kernel⟩
  · exact ⟨3, by decide, by decide +kernel⟩
  · exact ⟨4, by decide, by decide +kernel⟩
  · exact ⟨2, by decide, by decide +kernel⟩
theorem fuel_v (c : Int32) : ∃ F, (1 ≤ F ∧ F ≤ 16) ∧ (1 : Int32) + ((c >>> ((2 : Int32) &&& 31)) &&& 15) = nI F := by
  obtain ⟨j, hj, e⟩ := rg_and (B := 4) (g := 15) (by decide) rfl (c >>> ((2 : Int32) &&& 31))
  have hj : j < 16 := hj
  rw [e, show (1 : Int32) = nI 1 from rfl, nI_add]
  exact ⟨1 + j, by omega, rfl⟩
section LAWT
variable {X : aw_X} {Q : Option Value → aw_H → Prop}
set_option maxRecDepth 100000 in
theorem law_27 (hl : X.1.stackTraces = false) (hL : aw_xl X ≤ 260) (hQ : ∀ A, Q (some (.int 1)) A) (f3 : aw_F lxI lxJ lxR 70) {c : Int32} : aw_Z X 2048 600086 7301442 y_Law_law Q 70 64218 27 [some (.ref 1005), some (.ref 0), some (.ref 69), none, none, none, none, none, none, none, none, none, none, none, none, none, none, none, none, none] [.int c] (lxI, lxJ, lxR, 70, true) := by
  obtain ⟨B, hB, eB⟩ := bits_v c
  obtain ⟨F, hF, eF⟩ := fuel_v c
  refine s_Law_law_27.go [some (.ref 1005), some (.ref 0), some (.ref 69), some (.int c), none, none, none, none, none, none, none, none, none, none, none, none, none, none, none, none] [.int 3, .int (c &&& 3), .int 2] _ rfl ?_
  refine z_irem d_Law_law_33 (by decide) ?_
  refine s_Law_law_34.go [some (.ref 1005), some (.ref 0), some (.ref 69), some (.int c), some (.int (2 + ((c &&& 3) - (c &&& 3) / 3 * 3))), some (.int (1 + ((c >>> ((2 : Int32) &&& 31)) &&& 15))), none, none, none, none, none, none, none, none, none, none, none, none, none, none] [.int 5] _ rfl ?_
  rw [eB, eF]
  refine z_newI (N := 5) w_ac_int d_Law_law_48 rfl (Nat.le_of_ble_eq_true rfl) (by decide +kernel) (by decide +kernel) rfl f3 (Nat.le_of_ble_eq_true rfl) (Nat.le_of_ble_eq_true rfl) (fun f4 => ?_)
  refine s_Law_law_50.go [some (.ref 1005), some (.ref 0), some (.ref 69), some (.int c), some (.int (nI B)), some (.int (nI F)), some (.ref 70), none, none, none, none, none, none, none, none, none, none, none, none, none] [.int 5] _ rfl ?_
  refine z_newI (N := 5) w_ac_int d_Law_law_53 rfl (Nat.le_of_ble_eq_true rfl) (by decide +kernel) (by decide +kernel) rfl f4 (Nat.le_of_ble_eq_true rfl) (Nat.le_of_ble_eq_true rfl) (fun _ => ?_)
  refine s_Law_law_55.go [some (.ref 1005), some (.ref 0), some (.ref 69), some (.int c), some (.int (nI B)), some (.int (nI F)), some (.ref 70), some (.ref 71), some (.int 0), some (.int 0), some (.int 0), some (.int 1), none, none, none, none, none, none, none, none] [] _ rfl ?_
  have k := l_read (X := X) (d := 1748) (mc := 600086) (ms := 7301442) (ks := 64228) (Q := Q) (D := lxD) (L := lxJ) (B := B) (F := F) (z0 := 0) hL (Nat.le_of_ble_eq_true rfl) (Nat.le_of_ble_eq_true rfl) hl hB hF (Nat.zero_le _) (by decide) rfl hQ 5 [] lxI 0 rfl (fun q h => absurd h List.not_mem_nil) ⟨Nat.zero_le _, fun j hj => absurd hj (Nat.not_lt_zero _)⟩ (fun j hj => absurd hj (Nat.not_lt_zero _)) rfl rfl rfl
  unfold aw_s at k
  rw [← lxR_eq] at k
  exact aw_Z.flag (n := 72) (Nat.le_refl _) (aw_Z.weak k (Nat.le_of_ble_eq_true rfl) ⟨Or.inr rfl, Or.inr rfl, Or.inr rfl, Or.inl rfl, Or.inr rfl, Or.inr rfl, Or.inr rfl, Or.inr rfl, Or.inr rfl, Or.inr rfl, Or.inr rfl, Or.inr rfl, Or.inl rfl, Or.inl rfl, Or.inl rfl, Or.inl rfl, Or.inl rfl, Or.inl rfl, Or.inl rfl, Or.inl rfl, trivial⟩)
set_option maxRecDepth 100000 in
theorem law_top (hl : X.1.stackTraces = false) (hL : aw_xl X ≤ 260) (hQ : ∀ A, Q (some (.int 1)) A) : aw_Z X 2048 600086 7301442 y_Law_law Q 0 0 0 [some (.ref 1005), none, none, none, none, none, none, none, none, none, none, none, none, none, none, none, none, none, none, none] [] (fun _ _ => 0, fun _ _ => 0, fun _ _ => none, 0, true) := by
  have f0 : aw_F (fun _ _ => 0) (fun _ _ => 0) (fun _ _ => none) 0 := fun o _ => ⟨fun _ => rfl, fun _ => rfl, fun _ => rfl⟩
  refine z_new (idx := 14) (N := 18) k_AW gt_AW w_73 w_74 w_53 d_Law_law_0 rfl (Nat.le_of_ble_eq_true rfl) f0 (Nat.le_of_ble_eq_true rfl) (Nat.le_of_ble_eq_true rfl) (fun f1 => ?_)
  refine s_Law_law_3.go [some (.ref 1005), none, none, none, none, none, none, none, none, none, none, none, none, none, none, none, none, none, none, none] [.ref 0, .ref 0] _ rfl ?_
  refine z_callI (av := []) (st := [.ref 0]) (mc2 := 68) (ms2 := 64136) ok_AW_init rfl rfl (Or.inl w_75) w_76 d_Law_law_4 (aw_exn rfl) rfl rfl (Nat.le_of_ble_eq_true rfl) (Nat.le_of_ble_eq_true rfl) (Nat.le_of_ble_eq_true rfl) (ci_0 (d := 2044) f1 (fun f2 => ?_))
  refine s_Law_law_7.go [some (.ref 1005), some (.ref 0), none, none, none, none, none, none, none, none, none, none, none, none, none, none, none, none, none, none] [.int 64] _ rfl ?_
  refine z_newI (N := 64) w_ac_int d_Law_law_10 rfl (Nat.le_of_ble_eq_true rfl) (by decide +kernel) (by decide +kernel) rfl f2 (Nat.le_of_ble_eq_true rfl) (Nat.le_of_ble_eq_true rfl) (fun f3 => ?_)
  refine s_Law_law_12.go [some (.ref 1005), some (.ref 0), some (.ref 69), none, none, none, none, none, none, none, none, none, none, none, none, none, none, none, none, none] [.ref 1005] _ rfl ?_
  refine z_slen d_Law_law_14 (z_if_le (tgt := 24) d_Law_law_15 rfl (fun _ => ?_) (fun x => ?_))
  · refine s_Law_law_24.go [some (.ref 1005), some (.ref 0), some (.ref 69), none, none, none, none, none, none, none, none, none, none, none, none, none, none, none, none, none] [.int 291] _ rfl ?_
    exact law_27 hl hL hQ f3
  · have x0 : 0 < aw_xl X := by
      rw [show (0 : Int32) = nI 0 from rfl, nI_leI (by omega) (by decide)] at x
      omega
    refine s_Law_law_18.go [some (.ref 1005), some (.ref 0), some (.ref 69), none, none, none, none, none, none, none, none, none, none, none, none, none, none, none, none, none] [.int 0, .ref 1005] _ rfl ?_
    refine z_sald (aw_in_nI (n := 0) x0 (by omega)) d_Law_law_20 (z_goto (tgt := 27) d_Law_law_21 rfl ?_)
    exact law_27 hl hL hQ f3
end LAWT
