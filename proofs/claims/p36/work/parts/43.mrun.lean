/-! PART 43: the reference's run: its small methods -/
theorem aw_go {X : aw_X} {d : Nat} {y : aw_Y} {av : List Value} {A : aw_H} {Q : Option Value → aw_H → Prop} (hy : plainName y.1.cls = true) (hn : Nat.ble (aw_ent0 av).length y.2.2.1 = true) (h : aw_z X d y Q 0 (aw_en av y.2.2.1) [] A) (hnl : ¬ (y.1.cls = "AllWaysLaw" ∧ y.1.name = "law") := by decide +kernel) : aw_m X d y av A Q := aw_C.of hy (Nat.le_of_ble_eq_true hn) h hnl
def mk (B : Nat) : Int32 := nI (2 ^ B - 1)
/-- the reference's sizes -/
def SZ (I : Nat → Nat → Int32) (B T O : Nat) : Prop := I 69 33 = nI B ∧ I 69 34 = nI T ∧ I 69 35 = nI O
def SZok (B T O : Nat) : Prop := 2 ≤ B ∧ B ≤ 6 ∧ 1 ≤ T ∧ T ≤ 3 ∧ O ≤ 2 ∧ B * (T + O) ≤ 12
theorem mk_eq {B : Nat} (h2 : 2 ≤ B) (h6 : B ≤ 6) : ((1 : Int32) <<< ((nI B) &&& 31)) - 1 = mk B := by
  rcases (show B = 2 ∨ B = 3 ∨ B = 4 ∨ B = 5 ∨ B = 6 by omega) with rfl | rfl | rfl | rfl | rfl <;> decide +kernel
theorem ap_s {α : Type} (f : Nat → α) (k : Nat) (v : α) : va_up f k v k = v := by simp [va_up]
theorem ap_n {α : Type} {f : Nat → α} {k k' : Nat} {v : α} (h : k' ≠ k) : va_up f k v k' = f k' := by simp [va_up, h]
theorem au_s {α : Type} (f : Nat → Nat → α) (o k : Nat) (v : α) : aw_u f o k v o k = v := by simp [aw_u, va_up]
theorem au_k {α : Type} {f : Nat → Nat → α} {o k k' : Nat} {v : α} (h : k' ≠ k) : aw_u f o k v o k' = f o k' := by simp [aw_u, va_up, h]
theorem au_o {α : Type} {f : Nat → Nat → α} {o o' k : Nat} {v : α} (h : o' ≠ o) : aw_u f o k v o' = f o' := by simp [aw_u, h]
theorem au_ok {α : Type} {f : Nat → Nat → α} {o o' k k' : Nat} {v : α} (h : o' ≠ o ∨ k' ≠ k) : aw_u f o k v o' k' = f o' k' := by
  rcases h with h | h
  · rw [au_o h]
  · by_cases e : o' = o
    · subst e; exact au_k h
    · rw [au_o e]
/-- the stack's row, from its bottom at 1 on -/
def SRf (f : Nat → Int32) : List Int32 → Prop
  | [] => True
  | v :: st => f (st.length + 1) = v ∧ SRf f st
theorem SRf_up {f : Nat → Int32} {x : Int32} {k : Nat} : ∀ {st : List Int32}, st.length < k → SRf f st → SRf (va_up f k x) st
  | [], _, _ => trivial
  | v :: st, hk, h => ⟨by rw [ap_n (by simp at hk; omega)]; exact h.1, SRf_up (by simp at hk; omega) h.2⟩
def CRf (f : Nat → Int32) : List Nat → Prop
  | [] => True
  | r :: rs => f rs.length = nI r ∧ CRf f rs
theorem CRf_up {f : Nat → Int32} {x : Int32} {k : Nat} : ∀ {cs : List Nat}, cs.length ≤ k → CRf f cs → CRf (va_up f k x) cs
  | [], _, _ => trivial
  | r :: rs, hk, h => ⟨by rw [ap_n (by simp at hk; omega)]; exact h.1, CRf_up (by simp at hk; omega) h.2⟩
section MR
variable {X : aw_X} {d : Nat} {Q : Option Value → aw_H → Prop} {I : Nat → Nat → Int32} {L : Nat → Nat → Int64} {D : Nat → Nat}
/-- what the letters of a row are -/
def rowNm (B T : Nat) (row : Int32) (k : Nat) : Int32 := if k < T then (row >>> ((nI (B * k)) &&& 31)) &&& mk B else 0
def SRI (I : Nat → Nat → Int32) (stk : List Int32) : Prop := I 69 25 = nI stk.length ∧ SRf (I 86) stk ∧ stk.length ≤ 40
def FRW (I I' : Nat → Nat → Int32) : Prop := (∀ o, o ≠ 69 → o ≠ 86 → I' o = I o) ∧ ∀ k, k ≠ 25 → I' 69 k = I 69 k
theorem SRI_bin {b x r : Int32} {st : List Int32} (h : SRI I (b :: x :: st)) : FRW I (aw_u (aw_u I 86 (st.length + 1) r) 69 25 (nI (st.length + 1))) ∧ SRI (aw_u (aw_u I 86 (st.length + 1) r) 69 25 (nI (st.length + 1))) (r :: st) := by
  obtain ⟨h1, ⟨h2, h3, h4⟩, h5⟩ := h
  refine ⟨⟨fun o a b => by rw [au_o a, au_o b], fun k hk => by rw [au_k hk, au_o (by decide)]⟩, by rw [au_s]; rfl, ⟨by rw [au_o (by decide), au_s], ?_⟩, by simp at h5 ⊢; omega⟩
  rw [au_o (by decide)]
  show SRf (aw_u I 86 (st.length + 1) r 86) st
  rw [aw_u_same]
  exact SRf_up (by omega) h4
theorem eqI {o k : Nat} (ho : o < 64) (hk : k < 64) : (nI o = nI k) = (o = k) := nI_eq' (by omega) (by omega)
theorem isIn_e {lo hi o : Nat} (h1 : lo < 64) (h2 : hi < 64) (h3 : o < 64) : p_b (decide (nI lo ≤ nI o) && decide (nI o ≤ nI hi)) = if lo ≤ o ∧ o ≤ hi then 1 else 0 := by
  have a : (nI lo ≤ nI o) ↔ lo ≤ o := nI_leI (by omega) (by omega)
  have b : (nI o ≤ nI hi) ↔ o ≤ hi := nI_leI (by omega) (by omega)
  by_cases q1 : lo ≤ o <;> by_cases q2 : o ≤ hi <;> simp [p_b, a, b, q1, q2]
theorem SRI_push {v : Int32} {st : List Int32} (h : SRI I st) (hl : st.length ≤ 39) : FRW I (aw_u (aw_u I 69 25 (nI (st.length + 1))) 86 (st.length + 1) v) ∧ SRI (aw_u (aw_u I 69 25 (nI (st.length + 1))) 86 (st.length + 1) v) (v :: st) := by
  obtain ⟨h1, h2, h3⟩ := h
  refine ⟨⟨fun o a b => by rw [au_o b, au_o a], fun k hk => by rw [au_o (by decide), au_k hk]⟩, by rw [au_o (by decide), au_s]; rfl, ⟨by rw [au_s], ?_⟩, by simp; omega⟩
  rw [aw_u_same, au_o (by decide)]
  exact SRf_up (by omega) h2
theorem SRI_top {v w : Int32} {st : List Int32} (h : SRI I (v :: st)) : FRW I (aw_u I 86 (st.length + 1) w) ∧ SRI (aw_u I 86 (st.length + 1) w) (w :: st) := by
  obtain ⟨h1, ⟨h2, h3⟩, h4⟩ := h
  refine ⟨⟨fun o a b => by rw [au_o b], fun k hk => by rw [au_o (by decide)]⟩, by rw [au_o (by decide)]; exact h1, ⟨by rw [au_s], ?_⟩, by simpa using h4⟩
  rw [aw_u_same]
  exact SRf_up (by omega) h3
end MR
