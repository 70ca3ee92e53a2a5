/-! PART 40: rows of objects; small numbers; the first contracts -/
def aw_o {α : Type} (f : Nat → Nat → α) (o : Nat) (g : Nat → α) : Nat → Nat → α := fun o' => if o' = o then g else f o'
theorem aw_u_o {α : Type} (f : Nat → Nat → α) (o k : Nat) (v : α) : aw_u f o k v = aw_o f o (va_up (f o) k v) := rfl
theorem aw_o_s {α : Type} (f : Nat → Nat → α) (o : Nat) (g : Nat → α) : aw_o f o g o = g := by simp [aw_o]
theorem aw_o_n {α : Type} (f : Nat → Nat → α) {o o' : Nat} (g : Nat → α) (h : o' ≠ o) : aw_o f o g o' = f o' := by simp [aw_o, h]
theorem up_s {α : Type} (f : Nat → α) (k : Nat) (v : α) : va_up f k v k = v := by simp [va_up]
theorem up_n {α : Type} (f : Nat → α) {k k' : Nat} (v : α) (h : k' ≠ k) : va_up f k v k' = f k' := by simp [va_up, h]
theorem nI_lt' {a b : Nat} (ha : a < 2 ^ 31) (hb : b < 2 ^ 31) : (nI a < nI b) = (a < b) := propext (nI_ltI ha hb)
theorem nI_le' {a b : Nat} (ha : a < 2 ^ 31) (hb : b < 2 ^ 31) : (nI a ≤ nI b) = (a ≤ b) := propext (nI_leI ha hb)
theorem nI_eq' {a b : Nat} (ha : a < 2 ^ 31) (hb : b < 2 ^ 31) : (nI a = nI b) = (a = b) := propext (nI_eq ha hb)
theorem i32_0 : (0 : Int32) = nI 0 := rfl
theorem aw_in_nI {n N : Nat} (h : n < N) (hN : N < 2 ^ 31) : vp_in (nI n) N := vp_in_nI h hN
/-- the first four bytes of a number, laid from place n on -/
def tp4 (f : Nat → Int32) (n : Nat) (w : Int32) : Nat → Int32 :=
  va_up (va_up (va_up (va_up f n ((w.toUInt32 >>> ((24 : Int32).toUInt32 &&& Int32.toUInt32 31)).toInt32 &&& 255)) (n + 1) ((w.toUInt32 >>> ((16 : Int32).toUInt32 &&& Int32.toUInt32 31)).toInt32 &&& 255)) (n + 2) ((w.toUInt32 >>> ((8 : Int32).toUInt32 &&& Int32.toUInt32 31)).toInt32 &&& 255)) (n + 3) ((w.toUInt32 >>> ((0 : Int32).toUInt32 &&& Int32.toUInt32 31)).toInt32 &&& 255)
section FIRST
variable {X : aw_X} {d : Nat} {Q : Option Value → aw_H → Prop} {I : Nat → Nat → Int32} {L : Nat → Nat → Int64} {D : Nat → Nat}
theorem l_Tp_append {v1 v2 v3 : Int32} {n : Nat} (hn : I 2 1 = nI n) (hl : n < 540) (h2 : ¬ v2 < 0) (h3 : v2 + (-8 : Int32) = v3)
    (k : aw_z X d y_Tp_append Q 3 [some (.ref 2), some (.int v1), some (.int v3)] [] (aw_s (aw_o (aw_o I 3 (va_up (I 3) n ((v1.toUInt32 >>> (v2.toUInt32 &&& Int32.toUInt32 31)).toInt32 &&& 255))) 2 (va_up (I 2) 1 (nI (n + 1)))) L D)) :
    aw_z X d y_Tp_append Q 3 [some (.ref 2), some (.int v1), some (.int v2)] [] (aw_s I L D) := by
  have h0 : ¬ (I 2 1) < 0 := by rw [hn, i32_0, nI_lt' (by omega) (by omega)]; omega
  have h5 : ¬ (540 : Int32) ≤ I 2 1 := by rw [hn, show (540 : Int32) = nI 540 from rfl, nI_le' (by omega) (by omega)]; omega
  refine b_Tp_append_3 (fun q => absurd q h2) (fun _ q => absurd q h0) (fun _ _ q => absurd q h5) (fun _ _ _ => by rw [hn]; exact aw_in_nI hl (by decide)) (fun _ _ _ => ?_)
  rw [h3, aw_u_o, aw_u_o, hn, nI_clamp (by omega), aw_o_n _ _ (by decide), nI_1]
  exact k
theorem c_Tp_append {v1 : Int32} {n : Nat} (hn : I 2 1 = nI n) (hl : n + 4 ≤ 540)
    (h : Q none (aw_s (aw_o (aw_o I 3 (tp4 (I 3) n v1)) 2 (va_up (I 2) 1 (nI (n + 4)))) L D)) : aw_m X d y_Tp_append [.ref 2, .int v1] (aw_s I L D) Q := by
  refine aw_C.of rfl (Nat.le_of_ble_eq_true rfl) (b_Tp_append_0 ?_)
  refine l_Tp_append (v3 := 16) hn (by omega) (by decide) (by decide) ?_
  refine l_Tp_append (v3 := 8) (n := n + 1) (by simp [aw_o, va_up]) (by omega) (by decide) (by decide) ?_
  refine l_Tp_append (v3 := 0) (n := n + 2) (by simp [aw_o, va_up]) (by omega) (by decide) (by decide) ?_
  refine l_Tp_append (v3 := -8) (n := n + 3) (by simp [aw_o, va_up]) (by omega) (by decide) (by decide) ?_
  refine b_Tp_append_3 (fun _ => ?_) (fun q => absurd (by decide) q) (fun q => absurd (by decide) q) (fun q => absurd (by decide) q) (fun q => absurd (by decide) q)
  have e : ∀ (g1 g2 : Nat → Nat → Int32), g1 = g2 → Q none (aw_s g2 L D) → Q none (aw_s g1 L D) := fun _ _ e h => e ▸ h
  refine e _ _ ?_ h
  funext o
  by_cases h3 : o = 3
  · subst h3; simp [aw_o, tp4]
  · by_cases h2 : o = 2
    · subst h2; simp [aw_o]; funext k; simp [va_up]; split <;> rfl
    · simp [aw_o, h3, h2]
end FIRST
