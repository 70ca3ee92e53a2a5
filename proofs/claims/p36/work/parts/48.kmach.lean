/-! PART 48: the class's machine: its small methods -/
def SCf (f : Nat → Int32) : List Int32 → Prop
  | [] => True
  | v :: st => f st.length = v ∧ SCf f st
theorem SCf_up {f : Nat → Int32} {x : Int32} {k : Nat} : ∀ {st : List Int32}, st.length ≤ k → SCf f st → SCf (va_up f k x) st
  | [], _, _ => trivial
  | v :: st, hk, h => ⟨by rw [ap_n (by simp at hk; omega)]; exact h.1, SCf_up (by simp at hk; omega) h.2⟩
/-- the class's stack -/
def KS (I : Nat → Nat → Int32) (stk : List Int32) : Prop := I 4 4 = nI stk.length ∧ SCf (I 7) stk ∧ stk.length ≤ 40
/-- nothing but the stack differs -/
def KF (I I' : Nat → Nat → Int32) : Prop := (∀ o, o ≠ 4 → o ≠ 7 → I' o = I o) ∧ ∀ k, k ≠ 4 → I' 4 k = I 4 k
theorem KF.tr {I I' I'' : Nat → Nat → Int32} (a : KF I I') (b : KF I' I'') : KF I I'' := ⟨fun o h1 h2 => (b.1 o h1 h2).trans (a.1 o h1 h2), fun k h => (b.2 k h).trans (a.2 k h)⟩
theorem KF.rfl {I : Nat → Nat → Int32} : KF I I := ⟨fun _ _ _ => Eq.refl _, fun _ _ => Eq.refl _⟩
theorem KS_pop {I : Nat → Nat → Int32} {v : Int32} {st : List Int32} (h : KS I (v :: st)) : KF I (aw_u I 4 4 (nI st.length)) ∧ KS (aw_u I 4 4 (nI st.length)) st := by
  obtain ⟨h1, ⟨h2, h3⟩, h4⟩ := h
  refine ⟨⟨fun o a b => au_o a, fun k a => au_k a⟩, au_s _ _ _ _, by rw [au_o (by decide)]; exact h3, ?_⟩
  simp at h4
  omega
theorem KS_push {I : Nat → Nat → Int32} {v : Int32} {st : List Int32} (h : KS I st) (hl : st.length < 40) : KF I (aw_u (aw_u I 7 st.length v) 4 4 (nI (st.length + 1))) ∧ KS (aw_u (aw_u I 7 st.length v) 4 4 (nI (st.length + 1))) (v :: st) := by
  obtain ⟨h1, h2, h3⟩ := h
  refine ⟨⟨fun o a b => by rw [au_o a, au_o b], fun k a => by rw [au_k a, au_o (by decide)]⟩, by rw [au_s]; rfl, ⟨by rw [au_o (by decide), au_s], ?_⟩, by simp; omega⟩
  rw [au_o (by decide), aw_u_same]
  exact SCf_up (Nat.le_refl _) h2
/-- the class's numbers of the orders -/
def opC (o : Nat) : Nat := match o with
  | 0 => 20 | 1 => 21 | 15 => 23 | 16 => 24 | 17 => 25 | 18 => 26 | 19 => 27 | 20 => 28 | 21 => 22 | 22 => 31 | 23 => 29 | 24 => 30 | 25 => 33
  | o => o - 1
/-- the class's code holds the orders; the last one may be left out -/
def CodeC (P : Nat → Nat × Int32) (n c : Nat) (I : Nat → Nat → Int32) : Prop := ∃ m, I c 4 = nI m ∧ (m = n ∨ (m + 1 = n ∧ P m = (25, 0))) ∧ ∀ j, j < m → I (c + 1) j = nI (opC (P j).1) ∧ I (c + 2) j = (P j).2
theorem CodeC.fr {P : Nat → Nat × Int32} {n c : Nat} {I I' : Nat → Nat → Int32} (h : CodeC P n c I) (e0 : I' c 4 = I c 4) (e1 : I' (c + 1) = I (c + 1)) (e2 : I' (c + 2) = I (c + 2)) : CodeC P n c I' := by
  obtain ⟨m, h1, h2, h3⟩ := h
  exact ⟨m, e0.trans h1, h2, fun j hj => by rw [e1, e2]; exact h3 j hj⟩
theorem CodeC.all {P : Nat → Nat × Int32} {n c : Nat} {I : Nat → Nat → Int32} (h1 : I c 4 = nI n) (h2 : ∀ j, j < n → I (c + 1) j = nI (opC (P j).1) ∧ I (c + 2) j = (P j).2) : CodeC P n c I := ⟨n, h1, Or.inl rfl, h2⟩
theorem CodeC.lt {P : Nat → Nat × Int32} {n c j : Nat} {I : Nat → Nat → Int32} (h : CodeC P n c I) (hj : j < n) (ho : (P j).1 ≠ 25) : ∃ m, I c 4 = nI m ∧ m ≤ n ∧ j < m ∧ I (c + 1) j = nI (opC (P j).1) ∧ I (c + 2) j = (P j).2 := by
  obtain ⟨m, h1, h2, h3⟩ := h
  have : j < m := by
    rcases h2 with q | ⟨q, q2⟩
    · omega
    · rcases Nat.lt_or_ge j m with z | z
      · exact z
      · have : j = m := by omega
        rw [this, q2] at ho
        exact absurd rfl ho
  exact ⟨m, h1, by omega, this, h3 j this⟩
section KM
variable {X : aw_X} {d : Nat} {Q : Option Value → aw_H → Prop} {I : Nat → Nat → Int32} {L : Nat → Nat → Int64} {D : Nat → Nat}
theorem c_Mc_push {v : Int32} {st : List Int32} (h : KS I st) (hl : st.length < 40) (hQ : ∀ I', KF I I' → KS I' (v :: st) → Q none (aw_s I' L D)) : aw_m X d y_Mc_push [.ref 4, .int v] (aw_s I L D) Q := by
  have B0 := @b_Mc_push_0 X d Q I L D v
  have c1 : (nI st.length < 0) = False := by simp [nI_pos (show st.length < 2 ^ 31 by omega)]
  have c2 : ((64 : Int32) ≤ nI st.length) = False := by
    have : ((64 : Int32) ≤ nI st.length) = (64 ≤ st.length) := nI_le' (a := 64) (by decide) (by omega)
    rw [this]; simp; omega
  rw [h.1, nI_clamp (show st.length < 2 ^ 31 by omega), nI_1] at B0
  simp only [c1, c2, not_false_eq_true, true_implies, false_implies] at B0
  obtain ⟨a, b⟩ := KS_push (v := v) h hl
  exact aw_go rfl rfl (B0 (aw_in_nI (by omega) (by decide)) (hQ _ a b))
theorem c_Mc_pop {v : Int32} {st : List Int32} (h : KS I (v :: st)) (hQ : ∀ I', KF I I' → KS I' st → Q (some (.int v)) (aw_s I' L D)) : aw_m X d y_Mc_pop [.ref 4] (aw_s I L D) Q := by
  have B0 := @b_Mc_pop_0 X d Q I L D
  obtain ⟨h1, h2, h3⟩ := id h
  simp only [List.length_cons] at h1 h3
  have c1 : (nI (st.length + 1) ≤ 0) = False := by simp [nI_nle (show 0 < st.length + 1 by omega) (by omega)]
  have c2 : (nI (st.length + 1) ≤ (64 : Int32)) = True := by
    have : (nI (st.length + 1) ≤ (64 : Int32)) = (st.length + 1 ≤ 64) := nI_le' (b := 64) (by omega) (by decide)
    rw [this]; simp; omega
  rw [h1, nI_pred, nI_clamp (show st.length < 2 ^ 31 by omega), h2.1] at B0
  simp only [c1, c2, not_false_eq_true, not_true_eq_false, true_implies, false_implies, implies_true] at B0
  obtain ⟨a, b⟩ := KS_pop h
  exact aw_go rfl rfl (B0 (aw_in_nI (by omega) (by decide)) (hQ _ a b))
theorem c_Mc_finish {e s : Int32} (h : Q none (aw_s (aw_u (aw_u I 4 15 e) 4 16 s) L D)) : aw_m X d y_Mc_finish [.ref 4, .int e, .int s] (aw_s I L D) Q := aw_go rfl rfl (b_Mc_finish_0 h)
theorem c_Cd_opAt {c n j : Nat} (hc : c ∈ aw_codes) (hC : I c 4 = nI n) (hn : n ≤ 600) (hj : j < n) (h : Q (some (.int (I (c + 1) j))) (aw_s I L D)) : aw_m X d y_Cd_opAt [.ref c, .int (nI j)] (aw_s I L D) Q := by
  have B0 := @b_Cd_opAt_0 X d Q I L D c (nI j) hc
  have c1 : (nI j < 0) = False := by simp [nI_pos (show j < 2 ^ 31 by omega)]
  have c2 : (nI n ≤ nI j) = False := by rw [nI_le' (by omega) (by omega)]; simp; omega
  have c3 : ((600 : Int32) ≤ nI j) = False := by
    have : ((600 : Int32) ≤ nI j) = (600 ≤ j) := nI_le' (a := 600) (by decide) (by omega)
    rw [this]; simp; omega
  rw [hC, nI_clamp (show j < 2 ^ 31 by omega)] at B0
  simp only [c1, c2, c3, not_false_eq_true, true_implies, false_implies] at B0
  exact aw_go rfl rfl (B0 (aw_in_nI (by omega) (by decide)) h)
theorem c_Cd_argAt {c n j : Nat} (hc : c ∈ aw_codes) (hC : I c 4 = nI n) (hn : n ≤ 600) (hj : j < n) (h : Q (some (.int (I (c + 2) j))) (aw_s I L D)) : aw_m X d y_Cd_argAt [.ref c, .int (nI j)] (aw_s I L D) Q := by
  have B0 := @b_Cd_argAt_0 X d Q I L D c (nI j) hc
  have c1 : (nI j < 0) = False := by simp [nI_pos (show j < 2 ^ 31 by omega)]
  have c2 : (nI n ≤ nI j) = False := by rw [nI_le' (by omega) (by omega)]; simp; omega
  have c3 : ((600 : Int32) ≤ nI j) = False := by
    have : ((600 : Int32) ≤ nI j) = (600 ≤ j) := nI_le' (a := 600) (by decide) (by omega)
    rw [this]; simp; omega
  rw [hC, nI_clamp (show j < 2 ^ 31 by omega)] at B0
  simp only [c1, c2, c3, not_false_eq_true, true_implies, false_implies] at B0
  exact aw_go rfl rfl (B0 (aw_in_nI (by omega) (by decide)) h)
theorem c_opC {P : Nat → Nat × Int32} {c n j : Nat} (hc : c ∈ aw_codes) (hC : CodeC P n c I) (hn : n ≤ 600) (hj : j < n) (h : Q (some (.int (nI (opC (P j).1)))) (aw_s I L D)) : aw_m X d y_Cd_opAt [.ref c, .int (nI j)] (aw_s I L D) Q := by
  obtain ⟨m, h1, h2, h3⟩ := hC
  by_cases g : j < m
  · exact c_Cd_opAt hc h1 (by omega) g (by rw [(h3 j g).1]; exact h)
  · have hm : m = j := by omega
    have hP : P j = (25, 0) := by
      rcases h2 with q | ⟨q, q2⟩
      · omega
      · rw [← hm]; exact q2
    have B0 := @b_Cd_opAt_0 X d Q I L D c (nI j) hc
    have c1 : (nI j < 0) = False := by simp [nI_pos (show j < 2 ^ 31 by omega)]
    rw [h1, hm] at B0
    have c2 : (nI j ≤ nI j) = True := by simp
    simp only [c1, c2, not_false_eq_true, not_true_eq_false, true_implies, false_implies, implies_true] at B0
    rw [hP] at h
    exact aw_go rfl rfl (B0 h)
theorem c_argC {P : Nat → Nat × Int32} {c n j : Nat} (hc : c ∈ aw_codes) (hC : CodeC P n c I) (hn : n ≤ 600) (hj : j < n) (h : Q (some (.int (P j).2)) (aw_s I L D)) : aw_m X d y_Cd_argAt [.ref c, .int (nI j)] (aw_s I L D) Q := by
  obtain ⟨m, h1, h2, h3⟩ := hC
  by_cases g : j < m
  · exact c_Cd_argAt hc h1 (by omega) g (by rw [(h3 j g).2]; exact h)
  · have hm : m = j := by omega
    have hP : P j = (25, 0) := by
      rcases h2 with q | ⟨q, q2⟩
      · omega
      · rw [← hm]; exact q2
    have B0 := @b_Cd_argAt_0 X d Q I L D c (nI j) hc
    have c1 : (nI j < 0) = False := by simp [nI_pos (show j < 2 ^ 31 by omega)]
    rw [h1, hm] at B0
    have c2 : (nI j ≤ nI j) = True := by simp
    simp only [c1, c2, not_false_eq_true, not_true_eq_false, true_implies, false_implies, implies_true] at B0
    rw [hP] at h
    exact aw_go rfl rfl (B0 h)
theorem c_valueAt5 {j : Nat} (hj : j < 8) (h : Q (some (.int (I 5 j))) (aw_s I L D)) : aw_m X d y_AW_valueAt_aII [.ref 5, .int (nI j)] (aw_s I L D) Q := by
  have B0 := @b_AW_valueAt_aII_0 X d Q I L D 5 (nI j) (by decide)
  have c1 : (nI j < 0) = False := by simp [nI_pos (show j < 2 ^ 31 by omega)]
  have c2 : ((Int32.ofNat (aw_sh 5).2) ≤ nI j) = False := by
    have : ((Int32.ofNat (aw_sh 5).2) ≤ nI j) = (8 ≤ j) := nI_le' (a := 8) (by decide) (by omega)
    rw [this]; simp; omega
  rw [nI_clamp (show j < 2 ^ 31 by omega)] at B0
  simp only [c1, c2, not_false_eq_true, true_implies, false_implies] at B0
  exact aw_go rfl rfl (B0 (aw_in_nI hj (by decide)) h)
/-- an order of two values -/
theorem c_Mc_operate {B o : Nat} {a b x : Int32} {st : List Int32} {nm cl : Nat → Int32} (hB : B ≤ 6) (hg : I 4 7 = mk B) (ho : 5 ≤ o ∧ o ≤ 14) (hS : KS I (b :: x :: st))
    (ht : o ≤ 8 → rg B b ∧ rg B x) (ht2 : 13 ≤ o → (b = 0 ∨ b = 1) ∧ (x = 0 ∨ x = 1))
    (hok : ∀ r I', p_work (mk B) nm cl o a (b :: x :: st) = .ok (r :: st) → KF I I' → KS I' (r :: st) → Q none (aw_s I' L D))
    (her : ∀ I', p_work (mk B) nm cl o a (b :: x :: st) = .error 2 → KF I I' → Q none (aw_s (aw_u (aw_u I' 4 15 2) 4 16 (I 4 11)) L D)) :
    aw_m X (d + 1) y_Mc_operate [.ref 4, .int (nI (o - 1))] (aw_s I L D) Q := by
  refine aw_go rfl rfl (b_Mc_operate_0 (c_Mc_pop hS (fun I1 k1 s1 => b_Mc_operate_4 (c_Mc_pop s1 (fun I2 k2 s2 => ?_)))))
  have kf := k1.tr k2
  have hl : st.length < 40 := by have := hS.2.2; simp at this; omega
  have g2 : I2 4 7 = mk B := by rw [kf.2 7 (by decide)]; exact hg
  have calc1 : ∀ r s, p_work (mk B) nm cl o a (b :: x :: st) = .ok (r :: st) → s &&& mk B = r → aw_z X (d + 1) y_Mc_operate Q 55 [some (.ref 4), none, none, none] [.int s, .ref 4] (aw_s I2 L D) := by
    intro r s h1 h2
    refine b_Mc_operate_55 (c_Mc_push s2 hl (fun I3 k3 s3 => b_Mc_operate_63 (b_Mc_operate_84 ?_)))
    rw [g2, h2] at s3
    exact hok r I3 h1 (kf.tr k3) s3
  have tru : ∀ c : Bool, p_work (mk B) nm cl o a (b :: x :: st) = .ok (p_b c :: st) → aw_z X (d + 1) y_Mc_operate Q 73 [none, none, none, none] [.int (p_b c), .ref 4] (aw_s I2 L D) := by
    intro c h1
    refine b_Mc_operate_73 (fun q => ?_) (fun q => ?_)
    · rw [q] at h1
      exact b_Mc_operate_81 (c_Mc_push s2 hl (fun I3 k3 s3 => b_Mc_operate_84 (hok 0 I3 h1 (kf.tr k3) s3)))
    · have : p_b c = 1 := by cases c; exact absurd rfl q; rfl
      rw [this] at h1
      exact b_Mc_operate_81 (c_Mc_push s2 hl (fun I3 k3 s3 => b_Mc_operate_84 (hok 1 I3 h1 (kf.tr k3) s3)))
  have tr2 : ∀ (c : Bool) (r : Int32), p_work (mk B) nm cl o a (b :: x :: st) = .ok (p_b c :: st) → p_b c = r → aw_z X (d + 1) y_Mc_operate Q 73 [none, none, none, none] [.int r, .ref 4] (aw_s I2 L D) := fun c r h1 h2 => h2 ▸ tru c h1
  rcases (show o = 5 ∨ o = 6 ∨ o = 7 ∨ o = 8 ∨ o = 9 ∨ o = 10 ∨ o = 11 ∨ o = 12 ∨ o = 13 ∨ o = 14 by omega) with rfl | rfl | rfl | rfl | rfl | rfl | rfl | rfl | rfl | rfl
  · exact b_Mc_operate_9 (fun _ q => absurd q (by decide)) (fun _ _ => aw_go rfl rfl (b_Mc_calculated_0 (fun _ => calc1 _ _ rfl rfl) (fun q => absurd rfl q) (fun q => absurd rfl q))) (fun q => absurd q (by decide)) (fun q => absurd q (by decide)) (fun q => absurd q (by decide))
  · exact b_Mc_operate_9 (fun _ q => absurd q (by decide)) (fun _ _ => aw_go rfl rfl (b_Mc_calculated_0 (fun q => absurd q (by decide)) (fun _ _ => calc1 _ _ rfl rfl) (fun _ q => absurd rfl q))) (fun q => absurd q (by decide)) (fun q => absurd q (by decide)) (fun q => absurd q (by decide))
  · exact b_Mc_operate_9 (fun _ q => absurd q (by decide)) (fun _ _ => aw_go rfl rfl (b_Mc_calculated_0 (fun q => absurd q (by decide)) (fun _ q => absurd q (by decide)) (fun _ _ => calc1 _ _ rfl rfl))) (fun q => absurd q (by decide)) (fun q => absurd q (by decide)) (fun q => absurd q (by decide))
  · obtain ⟨⟨jb, hb1, hb2⟩, ⟨jx, hx1, hx2⟩⟩ := ht (by decide)
    refine b_Mc_operate_9 (fun q => absurd rfl q) (fun q => absurd rfl q) (fun _ q => q) (fun _ q => ?_) (fun _ q => ?_)
    · have h2B : 2 ^ B ≤ 2 ^ 6 := Nat.pow_le_pow_right (by decide) hB
      have hj0 : 0 < jb := by
        rcases Nat.eq_zero_or_pos jb with h | h
        · subst h; exact absurd hb2 q
        · exact h
      have hd : x / b = nI (jx / jb) := by rw [hx2, hb2]; exact pk_div (by omega) hj0 (by omega)
      have hm : (x / b) &&& mk B = x / b := by
        have hle : jx / jb ≤ jx := Nat.div_le_self _ _
        have e1 : (mk B).toBitVec.toNat = 2 ^ B - 1 := by unfold mk; rw [pk_tn]; omega
        rw [hd, pk_andN (by omega) B e1, Nat.mod_eq_of_lt (by omega)]
      exact c_Mc_push s2 hl (fun I3 k3 s3 => b_Mc_operate_39 (b_Mc_operate_84 (hok _ I3 (by rw [show p_work (mk B) nm cl 8 a (b :: x :: st) = .ok (((x / b) &&& mk B) :: st) from by simp [p_work, q]]; rw [hm]) (kf.tr k3) s3)))
    · have e : p_work (mk B) nm cl 8 a (b :: x :: st) = .error 2 := by simp [p_work, q]
      refine c_Mc_finish (b_Mc_operate_29 (b_Mc_operate_84 ?_))
      rw [kf.2 11 (by decide)]
      exact her I2 e kf
  · refine b_Mc_operate_9 (fun _ _ => aw_go rfl rfl (b_Mc_isTrue_0 (fun _ q => ?_) (fun _ q => ?_) (fun q => absurd rfl q) (fun q => absurd rfl q) (fun q => absurd rfl q) (fun q => absurd rfl q) (fun q => absurd rfl q) (fun q => absurd rfl q) (fun q => absurd rfl q) (fun q => absurd rfl q) (fun q => absurd rfl q) (fun q => absurd rfl q) (fun q => absurd rfl q) (fun q => absurd rfl q))) (fun _ q => absurd (by decide) q) (fun q => absurd q (by decide)) (fun q => absurd q (by decide)) (fun q => absurd q (by decide))
    · exact tr2 _ _ rfl (by simp [p_b, Int32.not_lt.mpr q])
    · exact tr2 _ _ rfl (by simp [p_b, Int32.not_le.mp q])
  · refine b_Mc_operate_9 (fun _ _ => aw_go rfl rfl (b_Mc_isTrue_0 (fun q => absurd q (by decide)) (fun q => absurd q (by decide)) (fun _ _ q => tr2 _ _ rfl (by simp [p_b, q])) (fun _ _ q => tr2 _ _ rfl (by simp [p_b, q])) (fun _ q => absurd rfl q) (fun _ q => absurd rfl q) (fun _ q => absurd rfl q) (fun _ q => absurd rfl q) (fun _ q => absurd rfl q) (fun _ q => absurd rfl q) (fun _ q => absurd rfl q) (fun _ q => absurd rfl q) (fun _ q => absurd rfl q) (fun _ q => absurd rfl q))) (fun _ q => absurd (by decide) q) (fun q => absurd q (by decide)) (fun q => absurd q (by decide)) (fun q => absurd q (by decide))
  · refine b_Mc_operate_9 (fun _ _ => aw_go rfl rfl (b_Mc_isTrue_0 (fun q => absurd q (by decide)) (fun q => absurd q (by decide)) (fun _ q => absurd q (by decide)) (fun _ q => absurd q (by decide)) (fun _ _ _ q => ?_) (fun _ _ _ q => ?_) (fun _ _ q => absurd rfl q) (fun _ _ q => absurd rfl q) (fun _ _ q => absurd rfl q) (fun _ _ q => absurd rfl q) (fun _ _ q => absurd rfl q) (fun _ _ q => absurd rfl q) (fun _ _ q => absurd rfl q) (fun _ _ q => absurd rfl q))) (fun _ q => absurd (by decide) q) (fun q => absurd q (by decide)) (fun q => absurd q (by decide)) (fun q => absurd q (by decide))
    · exact tr2 _ _ rfl (by simp [p_b, Int32.not_lt.mpr q])
    · exact tr2 _ _ rfl (by simp [p_b, Int32.not_le.mp q])
  · refine b_Mc_operate_9 (fun _ _ => aw_go rfl rfl (b_Mc_isTrue_0 (fun q => absurd q (by decide)) (fun q => absurd q (by decide)) (fun _ q => absurd q (by decide)) (fun _ q => absurd q (by decide)) (fun _ _ q => absurd q (by decide)) (fun _ _ q => absurd q (by decide)) (fun _ _ _ _ q => tr2 _ _ rfl (by simp [p_b, q])) (fun _ _ _ _ q => tr2 _ _ rfl (by simp [p_b, q])) (fun _ _ _ q => absurd rfl q) (fun _ _ _ q => absurd rfl q) (fun _ _ _ q => absurd rfl q) (fun _ _ _ q => absurd rfl q) (fun _ _ _ q => absurd rfl q) (fun _ _ _ q => absurd rfl q))) (fun _ q => absurd (by decide) q) (fun q => absurd q (by decide)) (fun q => absurd q (by decide)) (fun q => absurd q (by decide))
  · obtain ⟨hb, hx⟩ := ht2 (by decide)
    refine b_Mc_operate_9 (fun _ _ => aw_go rfl rfl (b_Mc_isTrue_0 (fun q => absurd q (by decide)) (fun q => absurd q (by decide)) (fun _ q => absurd q (by decide)) (fun _ q => absurd q (by decide)) (fun _ _ q => absurd q (by decide)) (fun _ _ q => absurd q (by decide)) (fun _ _ _ q => absurd q (by decide)) (fun _ _ _ q => absurd q (by decide)) (fun _ _ _ _ _ q => tr2 _ _ rfl (by simp [p_b, q])) (fun _ _ _ _ _ q q2 => tr2 _ _ rfl (by simp [p_b, q2])) (fun _ _ _ _ _ q q2 => ?_) (fun _ _ _ _ q => absurd rfl q) (fun _ _ _ _ q => absurd rfl q) (fun _ _ _ _ q => absurd rfl q))) (fun _ q => absurd (by decide) q) (fun q => absurd q (by decide)) (fun q => absurd q (by decide)) (fun q => absurd q (by decide))
    have h1 : x = 1 := hx.resolve_left q
    have h2 : b = 1 := hb.resolve_left q2
    exact tr2 _ _ rfl (by simp [p_b, h1, h2])
  · obtain ⟨hb, hx⟩ := ht2 (by decide)
    refine b_Mc_operate_9 (fun _ _ => aw_go rfl rfl (b_Mc_isTrue_0 (fun q => absurd q (by decide)) (fun q => absurd q (by decide)) (fun _ q => absurd q (by decide)) (fun _ q => absurd q (by decide)) (fun _ _ q => absurd q (by decide)) (fun _ _ q => absurd q (by decide)) (fun _ _ _ q => absurd q (by decide)) (fun _ _ _ q => absurd q (by decide)) (fun _ _ _ _ q => absurd q (by decide)) (fun _ _ _ _ q => absurd q (by decide)) (fun _ _ _ _ q => absurd q (by decide)) (fun _ _ _ _ _ q => ?_) (fun _ _ _ _ _ q q2 => ?_) (fun _ _ _ _ _ q q2 => ?_))) (fun _ q => absurd (by decide) q) (fun q => absurd q (by decide)) (fun q => absurd q (by decide)) (fun q => absurd q (by decide))
    · have h1 : x = 1 := hx.resolve_left q
      exact tr2 _ _ rfl (by simp [p_b, h1])
    · exact tr2 _ _ rfl (by simp [p_b, q, q2])
    · have h2 : b = 1 := hb.resolve_left q2
      exact tr2 _ _ rfl (by simp [p_b, h2])
/-- reading a cell -/
theorem c_Mc_readCell {B : Nat} {v : Int32} {st : List Int32} (hB : B ≤ 6) (hv : rg B v) (hS : KS I (v :: st))
    (hok : ∀ I', v ≤ 7 → KF I I' → KS I' (I 6 v.toNatClampNeg :: st) → Q none (aw_s I' L D))
    (her : ∀ I', ¬ v ≤ 7 → KF I I' → Q none (aw_s (aw_u (aw_u I' 4 15 3) 4 16 (I 4 11)) L D)) :
    aw_m X (d + 1) y_Mc_readCell [.ref 4] (aw_s I L D) Q := by
  refine aw_go rfl rfl (b_Mc_readCell_0 (c_Mc_pop hS (fun I1 k1 s1 => ?_)))
  obtain ⟨j, hj, hj2, rfl⟩ := rg_nat hB hv
  have c1 : (nI j < 0) = False := by simp [nI_pos (show j < 2 ^ 31 by omega)]
  have c2 : (nI j < (8 : Int32)) = (j < 8) := nI_lt' (b := 8) (by omega) (by decide)
  have c3 : (nI j ≤ (7 : Int32)) = (j ≤ 7) := nI_le' (b := 7) (by omega) (by decide)
  have hl : st.length < 40 := by have := hS.2.2; simp at this; omega
  have B0 := @b_Mc_readCell_4 X d Q I1 L D (nI j)
  simp only [c1, c2, not_false_eq_true, true_implies, false_implies] at B0
  rw [c3] at hok her
  refine B0 (fun q => aw_in_nI q (by decide)) (fun q => c_Mc_push s1 hl (fun I2 k2 s2 => b_Mc_readCell_40 ?_)) (fun q => b_Mc_readCell_18 (c_Mc_finish (b_Mc_readCell_27 (b_Mc_readCell_40 ?_))))
  · rw [k1.1 6 (by decide) (by decide)] at s2
    exact hok I2 (by omega) (k1.tr k2) s2
  · rw [k1.2 11 (by decide)]
    exact her I1 (by omega) k1
end KM
