/-! PART 08: the heap once all is made; contracts are monotone; the few references that change -/
abbrev aw_s (I : Nat → Nat → Int32) (L : Nat → Nat → Int64) (D : Nat → Nat) : aw_H := (I, L, aw_R D, 72 + D 7, false)
/-- the first 72 objects stand -/
theorem aw_lt {o : Nat} {I : Nat → Nat → Int32} {L : Nat → Nat → Int64} {D : Nat → Nat} (h : Nat.ble (o + 1) 72 = true) : aw_ex (aw_s I L D) o := Or.inl ⟨Nat.le_of_ble_eq_true h, rfl⟩
/-- all stand -/
theorem aw_lt2 {o : Nat} {I : Nat → Nat → Int32} {L : Nat → Nat → Int64} {D : Nat → Nat} (hD : D 7 = 2) (h : Nat.ble (o + 1) 74 = true) : aw_ex (aw_s I L D) o := Or.inr (by show o < 72 + D 7; rw [hD]; exact Nat.le_of_ble_eq_true h)
abbrev aw_z (X : aw_X) (d : Nat) (y : aw_Y) (Q : Option Value → aw_H → Prop) (pc : Nat) (ls : aw_L) (st : List Value) (A : aw_H) : Prop := aw_Z X d 0 0 y Q 0 0 pc ls st A
abbrev aw_m (X : aw_X) (d : Nat) (y : aw_Y) (av : List Value) (A : aw_H) (Q : Option Value → aw_H → Prop) : Prop := aw_C X d 0 0 y av A Q
theorem aw_C.mono {X : aw_X} {d mc ms : Nat} {y : aw_Y} {av : List Value} {A : aw_H} {Q Q' : Option Value → aw_H → Prop} (h : aw_C X d mc ms y av A Q) (hq : ∀ r A', Q r A' → Q' r A') : aw_C X d mc ms y av A Q' := by
  intro p e ha hc hk s m args below hf happ hP hK
  obtain ⟨n, o, h1, h2, h3, h4, h5⟩ := h p e ha hc hk s m args below hf happ hP hK
  obtain ⟨⟨r, A', e1, e2, e3⟩, h6⟩ := h4
  exact ⟨n, o, h1, h2, h3, ⟨⟨r, A', e1, hq r A' e2, e3⟩, h6⟩, h5⟩
theorem aw_nz {v : Int32} (h : v = 0 ∨ v = 1) : narrow .boolean (.int v) = .int v := by rcases h with rfl | rfl <;> rfl
theorem aw_R_up4 (D : Nat → Nat) (v : Nat) : aw_u (aw_R D) 0 6 (some v) = aw_R (va_up D 4 v) := by
  funext o k
  by_cases ho : o = 0
  · subst ho
    rw [aw_u_same]
    by_cases hk : k = 6
    · subst hk; simp [va_up, aw_R]
    · by_cases hk2 : k = 7
      · subst hk2; simp [va_up, aw_R]
      · simp [va_up, aw_R, hk, hk2]
  · rw [aw_u_ne _ _ _ ho]
    simp only [aw_R, ho, if_false]
    split
    · split
      · simp [va_up]; omega
      · rfl
    · split <;> (try split) <;> simp [va_up]
theorem aw_R_up5 (D : Nat → Nat) (v : Nat) : aw_u (aw_R D) 0 7 (some v) = aw_R (va_up D 5 v) := by
  funext o k
  by_cases ho : o = 0
  · subst ho
    rw [aw_u_same]
    by_cases hk : k = 6
    · subst hk; simp [va_up, aw_R]
    · by_cases hk2 : k = 7
      · subst hk2; simp [va_up, aw_R]
      · simp [va_up, aw_R, hk, hk2]
  · rw [aw_u_ne _ _ _ ho]
    simp only [aw_R, ho, if_false]
    split
    · split
      · simp [va_up]; omega
      · rfl
    · split <;> (try split) <;> simp [va_up]
theorem aw_R_up6 (D : Nat → Nat) (v : Nat) : aw_u (aw_R D) 60 2 (some v) = aw_R (va_up D 6 v) := by
  funext o k
  by_cases ho : o = 60
  · subst ho
    rw [aw_u_same]
    by_cases hk : k = 2
    · subst hk; simp [va_up, aw_R]
    · simp [va_up, aw_R, hk]
  · rw [aw_u_ne _ _ _ ho]
    simp only [aw_R, ho, if_false]
    split
    · split <;> (try split) <;> simp [va_up]
    · split
      · split
        · simp [va_up]; omega
        · rfl
      · rfl
theorem aw_R_upP (D : Nat → Nat) (v j : Nat) (hj : j < 4) : aw_u (aw_R D) 29 j (some v) = aw_R (va_up D j v) := by
  funext o k
  by_cases ho : o = 29
  · subst ho
    rw [aw_u_same]
    by_cases hk : k = j
    · subst hk; simp [va_up, aw_R, hj]
    · simp [va_up, aw_R, hk]
  · rw [aw_u_ne _ _ _ ho]
    simp only [aw_R, ho, if_false]
    split
    · split
      · simp [va_up]; omega
      · split
        · simp [va_up]; omega
        · rfl
    · split
      · split
        · simp [va_up]; omega
        · rfl
      · rfl
theorem aw_R_P (D : Nat → Nat) {j : Nat} (hj : j < 4) : aw_R D 29 j = some (D j) := by simp [aw_R, hj]
theorem aw_code_sh {c : Nat} (h : c ∈ aw_codes) : aw_sh c = (6, 11) ∧ aw_sh (c + 1) = (20, 600) ∧ aw_sh (c + 2) = (20, 600) ∧ aw_sh (c + 3) = (20, 20) ∧ aw_sh (c + 4) = (20, 20) ∧ c + 4 < 72 := by
  simp only [aw_codes, List.mem_cons, List.not_mem_nil, or_false] at h
  rcases h with rfl | rfl | rfl | rfl | rfl | rfl <;> exact ⟨rfl, rfl, rfl, rfl, rfl, by decide⟩
section PUTS
variable {y : aw_Y} {pc : Nat} {X : aw_X} {d : Nat} {Q : Option Value → aw_H → Prop} {ls : aw_L} {st : List Value} {I : Nat → Nat → Int32} {L : Nat → Nat → Int64} {D : Nat → Nat}
theorem z_putR {mc ms kc ks : Nat} {A : aw_H} {ci k idx o v N : Nat} {C : String} {T : u_T} (K : aw_cls ci C T N) (hk : k < N) (ht : aw_isR (aw_ty ci k) = true) (hl : aw_pl y T k idx) (hd : decode y.2.1 pc = .ok (.putfield idx, 3)) (ho : (aw_sh o).1 = ci) (hn : aw_ex A o)
    (kk : aw_Z X d mc ms y Q kc ks (pc + 3) ls st (A.1, A.2.1, aw_u A.2.2.1 o k (some v), A.2.2.2)) : aw_Z X d mc ms y Q kc ks pc ls (.ref v :: .ref o :: st) A :=
  v_putA K hk ht hl hd X d mc ms Q kc ks ls (.ref v :: .ref o :: st) A (ls, st, (A.1, A.2.1, aw_u A.2.2.1 o k (some v), A.2.2.2)) (by unfold o_putA; dsimp only; rw [if_pos ho, if_pos hn]) kk
theorem z_pD4 {v idx : Nat} (hl : aw_pl y T_AW 6 idx) (hd : decode y.2.1 pc = .ok (.putfield idx, 3)) (kk : aw_z X d y Q (pc + 3) ls st (aw_s I L (va_up D 4 v))) : aw_z X d y Q pc ls (.ref v :: .ref 0 :: st) (aw_s I L D) :=
  z_putR k_AW (by decide) rfl hl hd rfl (aw_lt (D := D) rfl) (by show aw_Z _ _ _ _ _ _ _ _ _ _ _ (I, L, aw_u (aw_R D) 0 6 (some v), 72 + D 7, false); rw [aw_R_up4]; exact kk)
theorem z_pD5 {v idx : Nat} (hl : aw_pl y T_AW 7 idx) (hd : decode y.2.1 pc = .ok (.putfield idx, 3)) (kk : aw_z X d y Q (pc + 3) ls st (aw_s I L (va_up D 5 v))) : aw_z X d y Q pc ls (.ref v :: .ref 0 :: st) (aw_s I L D) :=
  z_putR k_AW (by decide) rfl hl hd rfl (aw_lt (D := D) rfl) (by show aw_Z _ _ _ _ _ _ _ _ _ _ _ (I, L, aw_u (aw_R D) 0 7 (some v), 72 + D 7, false); rw [aw_R_up5]; exact kk)
theorem z_pD6 {v idx : Nat} (hl : aw_pl y T_Ps 2 idx) (hd : decode y.2.1 pc = .ok (.putfield idx, 3)) (kk : aw_z X d y Q (pc + 3) ls st (aw_s I L (va_up D 6 v))) : aw_z X d y Q pc ls (.ref v :: .ref 60 :: st) (aw_s I L D) :=
  z_putR k_Ps (by decide) rfl hl hd rfl (aw_lt (D := D) rfl) (by show aw_Z _ _ _ _ _ _ _ _ _ _ _ (I, L, aw_u (aw_R D) 60 2 (some v), 72 + D 7, false); rw [aw_R_up6]; exact kk)
theorem z_pDP {v : Nat} {i : Int32} (hv : v ∈ aw_codes) (hi : vp_in i 4) (hd : decode y.2.1 pc = .ok (.aastore, 1)) (kk : aw_z X d y Q (pc + 1) ls st (aw_s I L (va_up D i.toNatClampNeg v))) : aw_z X d y Q pc ls (.ref v :: .int i :: .ref 29 :: st) (aw_s I L D) := by
  obtain ⟨h1, h2⟩ := aw_code_sh hv
  have hlt : i.toNatClampNeg < 4 := Nat.not_le.mp fun q => hi (Or.inr q)
  refine z_aast (n := 4) rfl (aw_lt (D := D) rfl) (by rw [h1]) (Or.inl ⟨by omega, rfl⟩) hi hd ?_
  show aw_Z _ _ _ _ _ _ _ _ _ _ _ (I, L, aw_u (aw_R D) 29 i.toNatClampNeg (some v), 72 + D 7, false)
  have e : va_up D i.toNatClampNeg v 7 = D 7 := by unfold va_up; rw [if_neg (by omega)]
  rw [aw_R_upP D v _ hlt, ← e]
  exact kk
end PUTS
theorem aw_swout {x k : Int32} {a : Int} (h : ¬ x = k) (hk : k.toInt = a) : ¬ x.toInt = a := lv_neT h hk
theorem aw_lin {i : Int32} {n : Nat} (h1 : ¬ i < 0) (h2 : ¬ n ≤ i.toNatClampNeg) : vp_in i n := fun h => h.elim h1 h2
def aw_ta20 : List Nat := [3, 5, 6, 7, 8, 10, 13, 16, 17, 19, 20, 21, 22, 24, 25, 26, 27, 28, 31, 32, 33, 34, 36, 37, 38, 39, 41, 42, 43, 44, 46, 47, 48, 49, 51, 52, 53, 54, 56, 57, 58, 59, 61, 63, 64, 65, 66, 67, 68]
def aw_ta21 : List Nat := [9, 12, 14, 15, 18]
theorem z_tableD {y : aw_Y} {pc : Nat} {X : aw_X} {d mc ms : Nat} {Q : Option Value → aw_H → Prop} {kc ks : Nat} {ls : aw_L} {st : List Value} {A : aw_H} {dflt lo hi : Int} {offs : Array Int} {len : Nat} {x : Int32} {tgt : Nat} (hd : decode y.2.1 pc = .ok (.tableswitch dflt lo hi offs, len))
    (h : (x.toInt < lo ∨ hi < x.toInt) ∨ (¬ x.toInt < lo ∧ ¬ hi < x.toInt ∧ offs[(x.toInt - lo).toNat]? = some dflt)) (ht : (pc : Int) + dflt = (tgt : Int)) (k : aw_Z X d mc ms y Q kc ks tgt ls st A) : aw_Z X d mc ms y Q kc ks pc ls (.int x :: st) A := by
  rcases h with h | ⟨h1, h2, h3⟩
  · exact z_tableOut hd h ht k
  · exact z_tableIn hd h1 h2 h3 ht k
section GETS
variable {y : aw_Y} {pc : Nat} {X : aw_X} {d : Nat} {Q : Option Value → aw_H → Prop} {ls : aw_L} {st : List Value} {I : Nat → Nat → Int32} {L : Nat → Nat → Int64} {D : Nat → Nat}
theorem z_gD4 {c idx : Nat} (hc : D 4 = c) (hl : aw_lk y idx (T_AW 6).1 (T_AW 6).2.1 (T_AW 6).2.2.1) (hd : decode y.2.1 pc = .ok (.getfield idx, 3)) (kk : aw_z X d y Q (pc + 3) ls (.ref c :: st) (aw_s I L D)) : aw_z X d y Q pc ls (.ref 0 :: st) (aw_s I L D) :=
  z_get k_AW (by decide) hl hd rfl (aw_lt (D := D) rfl) (v := .ref c) (fun X => by show va_rf ((aw_R D 0 6).map (aw_ad X)) = _; rw [show aw_R D 0 6 = some (D 4) from rfl, hc]; rfl) kk
theorem z_gD5 {c idx : Nat} (hc : D 5 = c) (hl : aw_lk y idx (T_AW 7).1 (T_AW 7).2.1 (T_AW 7).2.2.1) (hd : decode y.2.1 pc = .ok (.getfield idx, 3)) (kk : aw_z X d y Q (pc + 3) ls (.ref c :: st) (aw_s I L D)) : aw_z X d y Q pc ls (.ref 0 :: st) (aw_s I L D) :=
  z_get k_AW (by decide) hl hd rfl (aw_lt (D := D) rfl) (v := .ref c) (fun X => by show va_rf ((aw_R D 0 7).map (aw_ad X)) = _; rw [show aw_R D 0 7 = some (D 5) from rfl, hc]; rfl) kk
theorem z_gD6 {c idx : Nat} (hc : D 6 = c) (hl : aw_lk y idx (T_Ps 2).1 (T_Ps 2).2.1 (T_Ps 2).2.2.1) (hd : decode y.2.1 pc = .ok (.getfield idx, 3)) (kk : aw_z X d y Q (pc + 3) ls (.ref c :: st) (aw_s I L D)) : aw_z X d y Q pc ls (.ref 60 :: st) (aw_s I L D) :=
  z_get k_Ps (by decide) hl hd rfl (aw_lt (D := D) rfl) (v := .ref c) (fun X => by show va_rf ((aw_R D 60 2).map (aw_ad X)) = _; rw [show aw_R D 60 2 = some (D 6) from rfl, hc]; rfl) kk
end GETS
def aw_ta72 : List Nat := [72, 73]
theorem z_tableInE {y : aw_Y} {pc : Nat} {X : aw_X} {d mc ms : Nat} {Q : Option Value → aw_H → Prop} {kc ks : Nat} {ls : aw_L} {st : List Value} {A : aw_H} {dflt lo hi off : Int} {offs : Array Int} {len : Nat} {x v : Int32} {tgt : Nat} (hx : x = v) (hd : decode y.2.1 pc = .ok (.tableswitch dflt lo hi offs, len)) (h1 : ¬ v.toInt < lo) (h2 : ¬ hi < v.toInt) (h3 : offs[(v.toInt - lo).toNat]? = some off) (ht : (pc : Int) + off = (tgt : Int)) (k : aw_Z X d mc ms y Q kc ks tgt ls st A) : aw_Z X d mc ms y Q kc ks pc ls (.int x :: st) A :=
  z_tableIn hd (by rw [hx]; exact h1) (by rw [hx]; exact h2) (by rw [hx]; exact h3) ht k
