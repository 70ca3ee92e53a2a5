/-! PART 43: the reference's run: its small methods -/
theorem aw_go {X : aw_X} {d : Nat} {y : aw_Y} {av : List Value} {A : aw_H} {Q : Option Value → aw_H → Prop} (hy : plainName y.1.cls = true) (hn : Nat.ble (aw_ent0 av).length y.2.2.1 = true) (h : aw_z X d y Q 0 (aw_en av y.2.2.1) [] A) : aw_m X d y av A Q := aw_C.of hy (Nat.le_of_ble_eq_true hn) h
def mk (B : Nat) : Int32 := nI (2 ^ B - 1)
/-- the reference's sizes -/
def SZ (I : Nat → Nat → Int32) (B T O : Nat) : Prop := I 69 33 = nI B ∧ I 69 34 = nI T ∧ I 69 35 = nI O
def SZok (B T O : Nat) : Prop := 2 ≤ B ∧ B ≤ 6 ∧ 1 ≤ T ∧ T ≤ 3 ∧ O ≤ 2 ∧ B * (T + O) ≤ 12
theorem mk_eq {B : Nat} (h2 : 2 ≤ B) (h6 : B ≤ 6) : ((1 : Int32) <<< ((nI B) &&& 31)) - 1 = mk B := by
  rcases (show B = 2 ∨ B = 3 ∨ B = 4 ∨ B = 5 ∨ B = 6 by omega) with rfl | rfl | rfl | rfl | rfl <;> decide +kernel
theorem ap_s {α : Type} (f : Nat → α) (k : Nat) (v : α) : va_up f k v k = v := by simp [va_up]
theorem ap_n {α : Type} {f : Nat → α} {k k' : Nat} {v : α} (h : k' ≠ k) : va_up f k v k' = f k' := by simp [va_up, h]
theorem au_s {α : Type} (f : Nat → Nat → α) (o k : Nat) (v : α) : aw_u f o k v o k = v := by simp [aw_u, va_up]
theorem au_k {α : Type} {f : Nat → Nat → α} {o k k' : Nat} {v : α} (h : k' ≠ k) : aw_u f o k v o k' = f o k' := by simp [aw_u, va_up, h]
theorem au_o {α : Type} {f : Nat → Nat → α} {o o' k : Nat} {v : α} (h : o' ≠ o) : aw_u f o k v o' = f o' := by simp [aw_u, h]
theorem au_ok {α : Type} {f : Nat → Nat → α} {o o' k k' : Nat} {v : α} (h : o' ≠ o ∨ k' ≠ k) : aw_u f o k v o' k' = f o' k' := by
  rcases h with h | h
  · rw [au_o h]
  · by_cases e : o' = o
    · subst e; exact au_k h
    · rw [au_o e]
/-- the stack's row, from its bottom at 1 on -/
def SRf (f : Nat → Int32) : List Int32 → Prop
  | [] => True
  | v :: st => f (st.length + 1) = v ∧ SRf f st
theorem SRf_up {f : Nat → Int32} {x : Int32} {k : Nat} : ∀ {st : List Int32}, st.length < k → SRf f st → SRf (va_up f k x) st
  | [], _, _ => trivial
  | v :: st, hk, h => ⟨by rw [ap_n (by simp at hk; omega)]; exact h.1, SRf_up (by simp at hk; omega) h.2⟩
def CRf (f : Nat → Int32) : List Nat → Prop
  | [] => True
  | r :: rs => f rs.length = nI r ∧ CRf f rs
theorem CRf_up {f : Nat → Int32} {x : Int32} {k : Nat} : ∀ {cs : List Nat}, cs.length ≤ k → CRf f cs → CRf (va_up f k x) cs
  | [], _, _ => trivial
  | r :: rs, hk, h => ⟨by rw [ap_n (by simp at hk; omega)]; exact h.1, CRf_up (by simp at hk; omega) h.2⟩
section MR
variable {X : aw_X} {d : Nat} {Q : Option Value → aw_H → Prop} {I : Nat → Nat → Int32} {L : Nat → Nat → Int64} {D : Nat → Nat}
theorem c_M_mask {B : Nat} (h2 : 2 ≤ B) (h6 : B ≤ 6) (hs : I 69 33 = nI B) (h : Q (some (.int (mk B))) (aw_s I L D)) : aw_m X d y_M_mask [.ref 69] (aw_s I L D) Q :=
  aw_go rfl rfl (b_M_mask_0 (by rw [hs, mk_eq h2 h6]; exact h))
theorem c_M_isIn {v a b : Int32} (h : Q (some (.int (p_b (decide (a ≤ v) && decide (v ≤ b))))) (aw_s I L D)) : aw_m X d y_M_isIn [.int v, .int a, .int b] (aw_s I L D) Q := by
  have key : ∀ r, p_b (decide (a ≤ v) && decide (v ≤ b)) = r → Q (some (.int r)) (aw_s I L D) := fun r e => e ▸ h
  refine aw_go rfl rfl (b_M_isIn_0 (fun q => key _ ?_) (fun q1 q2 => key _ ?_) (fun q1 q2 => key _ ?_))
  · have : ¬ a ≤ v := Int32.not_le.mpr q
    simp [this, p_b]
  · have : ¬ v ≤ b := Int32.not_le.mpr q2
    simp [this, p_b]
  · have h1 : a ≤ v := Int32.not_lt.mp q1
    have h2 : v ≤ b := Int32.not_lt.mp q2
    simp [h1, h2, p_b]
/-- what the letters of a row are -/
def rowNm (B T : Nat) (row : Int32) (k : Nat) : Int32 := if k < T then (row >>> ((nI (B * k)) &&& 31)) &&& mk B else 0
theorem l_M_layRow {B T O : Nat} {row : Int32} {I0 : Nat → Nat → Int32} (hz : SZ I0 B T O) (hk : SZok B T O)
    (hQ : ∀ I', (∀ o, o ≠ 84 → o ≠ 85 → I' o = I0 o) → (∀ j, j < 8 → I' 84 j = rowNm B T row j) → (∀ j, j < 8 → I' 85 j = 0) → Q none (aw_s I' L D)) :
    ∀ (m k : Nat) (I : Nat → Nat → Int32), k + m = 8 → (∀ o, o ≠ 84 → o ≠ 85 → I o = I0 o) → (∀ j, j < k → I 84 j = rowNm B T row j) → (∀ j, j < k → I 85 j = 0) →
      aw_z X (d + 1) y_M_layRow Q 2 [some (.ref 69), some (.int row), some (.int (nI k))] [] (aw_s I L D) := by
  intro m
  induction m with
  | zero =>
    intro k I e hf h1 h2
    have : k = 8 := by omega
    subst this
    exact b_M_layRow_2 (fun _ => hQ I hf h1 h2) (fun q => absurd (by decide) q) (fun q => absurd (by decide) q)
  | succ m ih =>
    intro k I e hf h1 h2
    have hk8 : k < 8 := by omega
    have h8 : ¬ (8 : Int32) ≤ nI k := by rw [show (8 : Int32) = nI 8 from rfl, nI_leI (by omega) (by omega)]; omega
    have h69 : I 69 = I0 69 := hf 69 (by decide) (by decide)
    have next : ∀ s : Int32, s = rowNm B T row k → aw_z X (d + 1) y_M_layRow Q 38 [some (.ref 69), some (.int row), some (.int (nI k))] [.int s, .int (nI k), .ref 84] (aw_s I L D) := by
      intro s hs
      refine b_M_layRow_38 (aw_in_nI hk8 (by decide)) (aw_in_nI hk8 (by decide)) ?_
      rw [nI_1, nI_clamp (by omega)]
      refine ih (k + 1) _ (by omega) (fun o a b => by rw [au_o b, au_o a]; exact hf o a b) (fun j hj => ?_) (fun j hj => ?_)
      · rw [au_o (by decide)]
        by_cases q : j = k
        · subst q; rw [au_s]; exact hs
        · rw [au_k q]; exact h1 j (by omega)
      · by_cases q : j = k
        · subst q; rw [au_s]
        · rw [au_k q, au_o (by decide)]; exact h2 j (by omega)
    obtain ⟨z1, z2, z3⟩ := hz
    obtain ⟨k1, k2, k3, k4, k5, k6⟩ := hk
    refine b_M_layRow_2 (fun q => absurd q h8) (fun _ q => next 0 ?_) (fun _ q => ?_)
    · rw [h69, z2, nI_leI (by omega) (by omega)] at q
      simp [rowNm, show ¬ k < T by omega]
    · rw [h69, z2, nI_leI (by omega) (by omega)] at q
      refine c_M_mask k1 k2 (by rw [h69]; exact z1) ?_
      refine b_M_layRow_33 (next _ ?_)
      rw [h69, z1, pk_mul, rowNm, if_pos (by omega)]
theorem c_M_layRow {B T O : Nat} {row : Int32} (hz : SZ I B T O) (hk : SZok B T O)
    (hQ : ∀ I', (∀ o, o ≠ 84 → o ≠ 85 → I' o = I o) → (∀ j, j < 8 → I' 84 j = rowNm B T row j) → (∀ j, j < 8 → I' 85 j = 0) → Q none (aw_s I' L D)) : aw_m X (d + 1) y_M_layRow [.ref 69, .int row] (aw_s I L D) Q :=
  aw_go rfl rfl (b_M_layRow_0 (l_M_layRow hz hk hQ 8 0 I rfl (fun _ _ _ => rfl) (fun _ h => by omega) (fun _ h => by omega)))
def SRI (I : Nat → Nat → Int32) (stk : List Int32) : Prop := I 69 25 = nI stk.length ∧ SRf (I 86) stk ∧ stk.length ≤ 40
def FRW (I I' : Nat → Nat → Int32) : Prop := (∀ o, o ≠ 69 → o ≠ 86 → I' o = I o) ∧ ∀ k, k ≠ 25 → I' 69 k = I 69 k
theorem SRI_bin {b x r : Int32} {st : List Int32} (h : SRI I (b :: x :: st)) : FRW I (aw_u (aw_u I 86 (st.length + 1) r) 69 25 (nI (st.length + 1))) ∧ SRI (aw_u (aw_u I 86 (st.length + 1) r) 69 25 (nI (st.length + 1))) (r :: st) := by
  obtain ⟨h1, ⟨h2, h3, h4⟩, h5⟩ := h
  refine ⟨⟨fun o a b => by rw [au_o a, au_o b], fun k hk => by rw [au_k hk, au_o (by decide)]⟩, by rw [au_s]; rfl, ⟨by rw [au_o (by decide), au_s], ?_⟩, by simp at h5 ⊢; omega⟩
  rw [au_o (by decide)]
  show SRf (aw_u I 86 (st.length + 1) r 86) st
  rw [aw_u_same]
  exact SRf_up (by omega) h4
theorem eqI {o k : Nat} (ho : o < 64) (hk : k < 64) : (nI o = nI k) = (o = k) := nI_eq' (by omega) (by omega)
theorem c_M_reckon {B o : Nat} {a b x : Int32} {st : List Int32} {nm cl : Nat → Int32} (h2 : 2 ≤ B) (h6 : B ≤ 6) (hs : I 69 33 = nI B) (ho : 5 ≤ o ∧ o ≤ 8) (hS : SRI I (b :: x :: st))
    (hok : ∀ r I', p_work (mk B) nm cl o a (b :: x :: st) = .ok (r :: st) → FRW I I' → SRI I' (r :: st) → Q (some (.int 0)) (aw_s I' L D)) (her : p_work (mk B) nm cl o a (b :: x :: st) = .error 2 → Q (some (.int 2)) (aw_s I L D)) :
    aw_m X (d + 1) y_M_reckon [.ref 69, .int (nI o)] (aw_s I L D) Q := by
  obtain ⟨t1, ⟨t2, t3, t4⟩, t5⟩ := id hS
  simp only [List.length_cons] at t1 t2 t5
  have i1 : (I 69 25).toNatClampNeg = st.length + 2 := by rw [t1, nI_clamp (by omega)]
  have i2 : I 69 25 - 1 = nI (st.length + 1) := by rw [t1, nI_pred]
  have i3 : (I 69 25 - 1).toNatClampNeg = st.length + 1 := by rw [i2, nI_clamp (by omega)]
  have fin : ∀ r, p_work (mk B) nm cl o a (b :: x :: st) = .ok (r :: st) → ∀ s, s &&& mk B = r → aw_z X (d + 1) y_M_reckon Q 82 [some (.ref 69), none, none, none] [.int s, .int (nI (st.length + 1)), .ref 86] (aw_s I L D) := by
    intro r hr s e
    refine b_M_reckon_82 (c_M_mask h2 h6 hs (b_M_reckon_86 (aw_in_nI (by omega) (by decide)) ?_))
    rw [nI_clamp (by omega), i2, e]
    obtain ⟨f1, f2⟩ := SRI_bin (r := r) hS
    exact hok r _ hr f1 f2
  refine aw_go rfl rfl (b_M_reckon_0 (by rw [t1]; exact aw_in_nI (by omega) (by decide)) (by rw [i2]; exact aw_in_nI (by omega) (by decide)) (fun q => ?_) (fun q q2 => ?_) (fun q q2 => ?_))
  · rw [show (8 : Int32) = nI 8 from rfl, eqI (by omega) (by omega)] at q
    rw [i1, i3, t2, t3]
    refine b_M_reckon_34 (fun a1 a2 a3 => ?_) (fun a1 a2 a3 => ?_) (fun a1 a2 a3 => ?_) (fun a1 a2 => ?_) (fun a1 => ?_)
    · rw [show (5 : Int32) = nI 5 from rfl, eqI (by omega) (by omega)] at a1
      rw [show (6 : Int32) = nI 6 from rfl, eqI (by omega) (by omega)] at a2
      rw [show (7 : Int32) = nI 7 from rfl, eqI (by omega) (by omega)] at a3
      omega
    · rw [show (5 : Int32) = nI 5 from rfl, eqI (by omega) (by omega)] at a1
      rw [show (6 : Int32) = nI 6 from rfl, eqI (by omega) (by omega)] at a2
      rw [show (7 : Int32) = nI 7 from rfl, eqI (by omega) (by omega)] at a3
      omega
    · rw [show (7 : Int32) = nI 7 from rfl, eqI (by omega) (by omega)] at a3
      subst a3; rw [i2]; exact fin _ rfl _ rfl
    · rw [show (6 : Int32) = nI 6 from rfl, eqI (by omega) (by omega)] at a2
      subst a2; rw [i2]; exact fin _ rfl _ rfl
    · rw [show (5 : Int32) = nI 5 from rfl, eqI (by omega) (by omega)] at a1
      subst a1; rw [i2]; exact fin _ rfl _ rfl
  · rw [show (8 : Int32) = nI 8 from rfl, eqI (by omega) (by omega)] at q
    subst q
    rw [i1, t2] at q2
    rw [i1, i3, t2, t3]
    refine b_M_reckon_34 (fun _ _ _ => q2) (fun a1 a2 a3 => ?_) (fun a1 a2 a3 => absurd a3 (by decide)) (fun a1 a2 => absurd a2 (by decide)) (fun a1 => absurd a1 (by decide))
    rw [i2]; exact fin _ (by simp [p_work, q2]) _ rfl
  · rw [show (8 : Int32) = nI 8 from rfl, eqI (by omega) (by omega)] at q
    subst q
    rw [i1, t2] at q2
    exact her (by simp [p_work, q2])
theorem c_M_judge {B o : Nat} {a b x : Int32} {st : List Int32} {nm cl : Nat → Int32} (ho : 9 ≤ o ∧ o ≤ 14) (hS : SRI I (b :: x :: st))
    (hok : ∀ r I', p_work (mk B) nm cl o a (b :: x :: st) = .ok (r :: st) → FRW I I' → SRI I' (r :: st) → Q none (aw_s I' L D)) :
    aw_m X d y_M_judge [.ref 69, .int (nI o)] (aw_s I L D) Q := by
  obtain ⟨t1, ⟨t2, t3, t4⟩, t5⟩ := id hS
  simp only [List.length_cons] at t1 t2 t5
  have i1 : (I 69 25).toNatClampNeg = st.length + 2 := by rw [t1, nI_clamp (by omega)]
  have i2 : I 69 25 - 1 = nI (st.length + 1) := by rw [t1, nI_pred]
  have i3 : (I 69 25 - 1).toNatClampNeg = st.length + 1 := by rw [i2, nI_clamp (by omega)]
  have fin : ∀ r, p_work (mk B) nm cl o a (b :: x :: st) = .ok (r :: st) → aw_z X d y_M_judge Q 173 [some (.ref 69), none, none, none, none] [.int r, .int (nI (st.length + 1)), .ref 86] (aw_s I L D) := by
    intro r hr
    refine b_M_judge_173 (aw_in_nI (by omega) (by decide)) ?_
    rw [nI_clamp (by omega), i2]
    obtain ⟨f1, f2⟩ := SRI_bin (r := r) hS
    exact hok r _ hr f1 f2
  have fin0 : p_work (mk B) nm cl o a (b :: x :: st) = .ok (0 :: st) → aw_z X d y_M_judge Q 153 [some (.ref 69), none, none, none, some (.int 0)] [] (aw_s I L D) :=
    fun hr => b_M_judge_153 (fun _ => by rw [i2]; exact fin 0 hr) (fun q => absurd rfl q)
  have fin1 : p_work (mk B) nm cl o a (b :: x :: st) = .ok (1 :: st) → aw_z X d y_M_judge Q 153 [some (.ref 69), none, none, none, some (.int 1)] [] (aw_s I L D) :=
    fun hr => b_M_judge_153 (fun q => absurd q (by decide)) (fun _ => by rw [i2]; exact fin 1 hr)
  have n9 : (nI o = 9) = (o = 9) := eqI (k := 9) (by omega) (by omega)
  have n10 : (nI o = 10) = (o = 10) := eqI (k := 10) (by omega) (by omega)
  have n11 : (nI o = 11) = (o = 11) := eqI (k := 11) (by omega) (by omega)
  have n12 : (nI o = 12) = (o = 12) := eqI (k := 12) (by omega) (by omega)
  have n13 : (nI o = 13) = (o = 13) := eqI (k := 13) (by omega) (by omega)
  have B0 := @b_M_judge_0 X d Q I L D (nI o)
  simp only [n9, n10, n11, n12, n13, i1, i3, t2, t3] at B0
  refine aw_go rfl rfl (B0 (by rw [t1]; exact aw_in_nI (by omega) (by decide)) (by rw [i2]; exact aw_in_nI (by omega) (by decide)) (fun a1 q => ?_) (fun a1 q => ?_) (fun a1 a2 q => ?_) (fun a1 a2 q => ?_) (fun a1 a2 a3 q => ?_) (fun a1 a2 a3 q => ?_) (fun a1 a2 a3 a4 q => ?_) (fun a1 a2 a3 a4 q => ?_) (fun a1 a2 a3 a4 a5 q => ?_) (fun a1 a2 a3 a4 a5 q q2 => ?_) (fun a1 a2 a3 a4 a5 q q2 => ?_) (fun a1 a2 a3 a4 a5 q => ?_) (fun a1 a2 a3 a4 a5 q q2 => ?_) (fun a1 a2 a3 a4 a5 q q2 => ?_))
  · subst a1; exact b_M_judge_66 (fin0 (by simp [p_work, p_b, Int32.not_lt.mpr q]))
  · subst a1; exact b_M_judge_66 (fin1 (by simp [p_work, p_b, Int32.not_le.mp q]))
  · subst a2; exact fin0 (by simp [p_work, p_b, q])
  · subst a2; exact fin1 (by simp [p_work, p_b, q])
  · subst a3; exact fin0 (by simp [p_work, p_b, Int32.not_lt.mpr q])
  · subst a3; exact fin1 (by simp [p_work, p_b, Int32.not_le.mp q])
  · subst a4; exact fin0 (by simp [p_work, p_b, q])
  · subst a4; exact fin1 (by simp [p_work, p_b, q])
  · subst a5; exact fin0 (by simp [p_work, p_b, q])
  · subst a5; exact fin0 (by simp [p_work, p_b, q2])
  · subst a5; exact fin1 (by simp [p_work, p_b, q, q2])
  · have : o = 14 := by omega
    subst this; exact fin1 (by simp [p_work, p_b, q])
  · have : o = 14 := by omega
    subst this; exact fin0 (by simp [p_work, p_b, q, q2])
  · have : o = 14 := by omega
    subst this; exact fin1 (by simp [p_work, p_b, q2])
theorem isIn_e {lo hi o : Nat} (h1 : lo < 64) (h2 : hi < 64) (h3 : o < 64) : p_b (decide (nI lo ≤ nI o) && decide (nI o ≤ nI hi)) = if lo ≤ o ∧ o ≤ hi then 1 else 0 := by
  have a : (nI lo ≤ nI o) ↔ lo ≤ o := nI_leI (by omega) (by omega)
  have b : (nI o ≤ nI hi) ↔ o ≤ hi := nI_leI (by omega) (by omega)
  by_cases q1 : lo ≤ o <;> by_cases q2 : o ≤ hi <;> simp [p_b, a, b, q1, q2]
theorem SRI_push {v : Int32} {st : List Int32} (h : SRI I st) (hl : st.length ≤ 39) : FRW I (aw_u (aw_u I 69 25 (nI (st.length + 1))) 86 (st.length + 1) v) ∧ SRI (aw_u (aw_u I 69 25 (nI (st.length + 1))) 86 (st.length + 1) v) (v :: st) := by
  obtain ⟨h1, h2, h3⟩ := h
  refine ⟨⟨fun o a b => by rw [au_o b, au_o a], fun k hk => by rw [au_o (by decide), au_k hk]⟩, by rw [au_o (by decide), au_s]; rfl, ⟨by rw [au_s], ?_⟩, by simp; omega⟩
  rw [aw_u_same, au_o (by decide)]
  exact SRf_up (by omega) h2
theorem SRI_top {v w : Int32} {st : List Int32} (h : SRI I (v :: st)) : FRW I (aw_u I 86 (st.length + 1) w) ∧ SRI (aw_u I 86 (st.length + 1) w) (w :: st) := by
  obtain ⟨h1, ⟨h2, h3⟩, h4⟩ := h
  refine ⟨⟨fun o a b => by rw [au_o b], fun k hk => by rw [au_o (by decide)]⟩, by rw [au_o (by decide)]; exact h1, ⟨by rw [au_s], ?_⟩, by simpa using h4⟩
  rw [aw_u_same]
  exact SRf_up (by omega) h3
/-- an order of a sum or a test -/
theorem c_M_work {P : Nat → Nat × Int32} {n pc : Nat} {ty : Nat → List Bool} {sg : Nat → Nat} {B : Nat} {stk : List Int32} {nm cl : Nat → Int32} (h2 : 2 ≤ B) (h6 : B ≤ 6) (hs : I 69 33 = nI B)
    (hok : p_ok P n ty sg pc) (ho : 2 ≤ (P pc).1 ∧ (P pc).1 ≤ 14) (hty : p_ty B (ty pc) stk) (hnr : ∀ k, k < 8 → rg B (nm k)) (hcr : ∀ k, k < 8 → rg B (cl k)) (hn : ∀ k, k < 8 → I 84 k = nm k) (hc : ∀ k, k < 8 → I 85 k = cl k) (hS : SRI I stk) (hlen : stk.length ≤ 30)
    (h0 : ∀ st I', p_work (mk B) nm cl (P pc).1 (P pc).2 stk = .ok st → FRW I I' → SRI I' st → Q (some (.int 0)) (aw_s I' L D))
    (h1 : ∀ e, e = 2 ∨ e = 3 → p_work (mk B) nm cl (P pc).1 (P pc).2 stk = .error e → Q (some (.int e)) (aw_s I L D)) :
    aw_m X (d + 2) y_M_work [.ref 69, .int (nI (P pc).1), .int (P pc).2] (aw_s I L D) Q := by
  obtain ⟨-, -, -, hL⟩ := hok
  generalize (P pc).2 = a at *
  generalize (P pc).1 = o at *
  have t1 := hS.1
  have i0 : I 69 25 + 1 = nI (stk.length + 1) := by rw [t1, nI_1]
  have i1 : (I 69 25).toNatClampNeg = stk.length := by rw [t1, nI_clamp (by omega)]
  have n2 : (nI o = 2) = (o = 2) := eqI (k := 2) (by omega) (by omega)
  have n3 : (nI o = 3) = (o = 3) := eqI (k := 3) (by omega) (by omega)
  have n4 : (nI o = 4) = (o = 4) := eqI (k := 4) (by omega) (by omega)
  have two : ∀ {b c : Bool} {t : List Bool}, ty pc = b :: c :: t → ∃ v w st, stk = v :: w :: st := by
    intro b c t e
    rw [e] at hty
    obtain ⟨v, st, rfl, h1, h2⟩ := p_ty1 hty
    obtain ⟨w, st, rfl, h3, h4⟩ := p_ty1 h2
    exact ⟨v, w, st, rfl⟩
  have push : ∀ v, p_work (mk B) nm cl o a stk = .ok (v :: stk) → aw_z X (d + 2) y_M_work Q 48 [none, none, none] [.int v, .int (nI (stk.length + 1)), .ref 86] (aw_s (aw_u I 69 25 (nI (stk.length + 1))) L D) := by
    intro v hv
    refine b_M_work_48 (aw_in_nI (by omega) (by decide)) ?_
    rw [nI_clamp (by omega)]
    obtain ⟨f1, f2⟩ := SRI_push (v := v) hS (by omega)
    exact h0 _ _ hv f1 f2
  have B0 := @b_M_work_0 X (d + 1) Q I L D (nI o) a
  have B1 := @b_M_work_10 X (d + 1) Q I L D (nI o) a
  simp only [n2, n3, n4, i1] at B0 B1
  refine aw_go rfl rfl (B0 (fun q => B1 (fun q' => absurd q q') (fun q' => absurd q q') (fun _ => ?_)) (fun a1 a2 a3 => ?_) (fun a1 a2 a3 => ?_) (fun a1 a2 a3 a4 => ?_) (fun a1 a2 a3 a4 => ?_) (fun a1 a2 a3 a4 => ?_) (fun a1 a2 a3 a4 => ?_) (fun a1 a2 a3 a4 => ?_) (fun a1 a2 => B1 (fun _ => ?_) (fun _ => ?_) (fun q => absurd q a1)))
  · subst q
    rw [i0]
    exact c_M_mask h2 h6 (by rw [au_k (by decide)]; exact hs) (b_M_work_38 (push _ rfl))
  · refine c_M_isIn ?_
    by_cases h8 : o ≤ 8
    · have e1 : p_b (decide ((5 : Int32) ≤ nI o) && decide (nI o ≤ (8 : Int32))) = 1 := by
        show p_b (decide (nI 5 ≤ nI o) && decide (nI o ≤ nI 8)) = _
        rw [isIn_e (by omega) (by omega) (by omega), if_pos (by omega)]
      rw [e1]
      obtain ⟨v, w, st, rfl⟩ : ∃ v w st, stk = v :: w :: st := by
        split at hL <;> first | (exfalso; omega) | (obtain ⟨t, q, -⟩ := hL; exact two q)
      refine b_M_work_104 (fun q => absurd q (by decide)) (fun _ => ?_)
      refine c_M_reckon h2 h6 hs ⟨by omega, h8⟩ hS (fun r I' e f g => b_M_work_112 (h0 _ _ e f g)) (fun e => b_M_work_112 (h1 2 (Or.inl rfl) e))
    · have e1 : p_b (decide ((5 : Int32) ≤ nI o) && decide (nI o ≤ (8 : Int32))) = 0 := by
        show p_b (decide (nI 5 ≤ nI o) && decide (nI o ≤ nI 8)) = _
        rw [isIn_e (by omega) (by omega) (by omega), if_neg (by omega)]
      have e2 : p_b (decide ((9 : Int32) ≤ nI o) && decide (nI o ≤ (14 : Int32))) = 1 := by
        show p_b (decide (nI 9 ≤ nI o) && decide (nI o ≤ nI 14)) = _
        rw [isIn_e (by omega) (by omega) (by omega), if_pos (by omega)]
      rw [e1]
      obtain ⟨v, w, st, rfl⟩ : ∃ v w st, stk = v :: w :: st := by
        split at hL <;> first | (exfalso; omega) | (obtain ⟨t, q, -⟩ := hL; exact two q)
      refine b_M_work_104 (fun _ => ?_) (fun q => absurd rfl q)
      refine c_M_isIn ?_
      rw [e2]
      refine b_M_work_121 (fun _ => ?_) (fun q => absurd q (by decide))
      exact c_M_judge (B := B) (nm := nm) (cl := cl) (a := a) ⟨by omega, ho.2⟩ hS (fun r I' e f g => b_M_work_131 (h0 _ _ e f g))
  · rw [t1]; exact aw_in_nI (by omega) (by decide)
  · rw [t1]; exact aw_in_nI (by omega) (by decide)
  all_goals (try subst a3)
  · obtain ⟨t, q1, q2⟩ := hL
    rw [q1] at hty
    obtain ⟨v, st, rfl, h3, h4⟩ := p_ty1 hty
    rw [show (v :: st).length = st.length + 1 from rfl, hS.2.1.1] at a4 ⊢
    obtain ⟨j, hj, hj2, rfl⟩ := rg_nat h6 h3
    rw [show (7 : Int32) = nI 7 from rfl, nI_leI (by omega) (by omega)] at a4
    exact aw_in_nI (by omega) (by decide)
  · rw [t1]; exact aw_in_nI (by omega) (by decide)
  · obtain ⟨t, q1, q2⟩ := hL
    rw [q1] at hty
    obtain ⟨v, st, rfl, h3, h4⟩ := p_ty1 hty
    rw [show (v :: st).length = st.length + 1 from rfl, hS.2.1.1] at a4 ⊢
    obtain ⟨f1, f2⟩ := SRI_top (w := I 85 v.toNatClampNeg) hS
    refine h0 _ _ ?_ f1 f2
    simp only [p_work, if_pos a4]
    obtain ⟨j, hj, hj2, rfl⟩ := rg_nat h6 h3
    rw [show (7 : Int32) = nI 7 from rfl, nI_leI (by omega) (by omega)] at a4
    rw [nI_clamp (by omega), hc j (by omega)]
  · obtain ⟨t, q1, q2⟩ := hL
    rw [q1] at hty
    obtain ⟨v, st, rfl, h3, h4⟩ := p_ty1 hty
    rw [show (v :: st).length = st.length + 1 from rfl, hS.2.1.1] at a4
    exact h1 3 (Or.inr rfl) (by simp [p_work, a4])
  · subst a2
    obtain ⟨q1, j, hj, rfl⟩ := hL
    exact aw_in_nI hj (by decide)
  · subst a2
    obtain ⟨q1, j, hj, rfl⟩ := hL
    rw [i0, nI_clamp (by omega), hn j hj]
    exact push _ (by simp only [p_work, nI_clamp (show j < 2 ^ 31 by omega)])
theorem c_M_workN {o : Nat} {a : Int32} (ho : o < 2 ∨ (14 < o ∧ o < 64)) (h : Q (some (.int (-1))) (aw_s I L D)) : aw_m X (d + 2) y_M_work [.ref 69, .int (nI o), .int a] (aw_s I L D) Q := by
  have n2 : (nI o = 2) = (o = 2) := eqI (k := 2) (by omega) (by omega)
  have n3 : (nI o = 3) = (o = 3) := eqI (k := 3) (by omega) (by omega)
  have n4 : (nI o = 4) = (o = 4) := eqI (k := 4) (by omega) (by omega)
  have e1 : p_b (decide ((5 : Int32) ≤ nI o) && decide (nI o ≤ (8 : Int32))) = 0 := by
    show p_b (decide (nI 5 ≤ nI o) && decide (nI o ≤ nI 8)) = _
    rw [isIn_e (by omega) (by omega) (by omega), if_neg (by omega)]
  have e2 : p_b (decide ((9 : Int32) ≤ nI o) && decide (nI o ≤ (14 : Int32))) = 0 := by
    show p_b (decide (nI 9 ≤ nI o) && decide (nI o ≤ nI 14)) = _
    rw [isIn_e (by omega) (by omega) (by omega), if_neg (by omega)]
  have B0 := @b_M_work_0 X (d + 1) Q I L D (nI o) a
  simp only [n2, n3, n4] at B0
  refine aw_go rfl rfl (B0 (fun q => by omega) (fun _ _ _ => ?_) (fun _ _ q => by omega) (fun _ _ q => by omega) (fun _ _ q => by omega) (fun _ _ q => by omega) (fun _ _ q => by omega) (fun _ _ q => by omega) (fun _ q => by omega))
  refine c_M_isIn ?_
  rw [e1]
  refine b_M_work_104 (fun _ => c_M_isIn ?_) (fun q => absurd rfl q)
  rw [e2]
  exact b_M_work_121 (fun q => absurd rfl q) (fun _ => h)
theorem c_M_ends {e s : Int32} (h : Q (some (.int e)) (aw_s (aw_u (aw_u I 69 42 e) 69 43 s) L D)) : aw_m X d y_M_ends [.ref 69, .int e, .int s] (aw_s I L D) Q := aw_go rfl rfl (b_M_ends_0 h)
end MR
