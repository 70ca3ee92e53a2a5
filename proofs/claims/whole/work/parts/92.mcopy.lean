/-! PART 92: the reference copies a program -/
/-- m values from s on, also from t on -/
def cpy (f : Nat → Int32) (s t m : Nat) : Nat → Int32 := fun x => if t ≤ x ∧ x < t + m then f (s + (x - t)) else f x
theorem cpy_0 (f : Nat → Int32) (s t : Nat) : cpy f s t 0 = f := by
  funext x
  exact if_neg (by omega)
theorem cpy_s {f : Nat → Int32} {s t m : Nat} (h : ¬ (t ≤ s + m ∧ s + m < t + m)) : va_up (cpy f s t m) (t + m) (cpy f s t m (s + m)) = cpy f s t (m + 1) := by
  funext x
  have e : cpy f s t m (s + m) = f (s + m) := if_neg h
  by_cases g : x = t + m
  · subst g
    rw [up_s, e]
    have : cpy f s t (m + 1) (t + m) = f (s + (t + m - t)) := if_pos (by omega)
    rw [this, show s + (t + m - t) = s + m by omega]
  · rw [up_n _ _ g]
    by_cases q : t ≤ x ∧ x < t + m
    · have e1 : cpy f s t m x = f (s + (x - t)) := if_pos q
      have e2 : cpy f s t (m + 1) x = f (s + (x - t)) := if_pos (by omega)
      rw [e1, e2]
    · have e1 : cpy f s t m x = f x := if_neg q
      have e2 : cpy f s t (m + 1) x = f x := if_neg (by omega)
      rw [e1, e2]
theorem cpy_i {f : Nat → Int32} {s t m j : Nat} (h : j < m) : cpy f s t m (t + j) = f (s + j) := by
  have : cpy f s t m (t + j) = f (s + (t + j - t)) := if_pos (by omega)
  rw [this, show s + (t + j - t) = s + j by omega]
theorem cpy_o {f : Nat → Int32} {s t m x : Nat} (h : ¬ (t ≤ x ∧ x < t + m)) : cpy f s t m x = f x := if_neg h
theorem cpy_b {f : Nat → Int32} {s t m : Nat} {N : Nat} (hf : ∀ j, j < N → f j = 0 ∨ f j = 1) (hs : s + m ≤ N) : ∀ j, j < N → cpy f s t m j = 0 ∨ cpy f s t m j = 1 := fun j hj => by
  by_cases q : t ≤ j ∧ j < t + m
  · have e : cpy f s t m j = f (s + (j - t)) := if_pos q
    rw [e]; exact hf _ (by omega)
  · rw [cpy_o q]; exact hf j hj
theorem ixC (c a i : Nat) (v : Int32) (hv : v = nI c) : v * nI a + nI i = nI (c * a + i) := by rw [hv, pk_mul, nI_add]
/-- the reference's slot holds a program -/
def MCd (S : PT) (k : Nat) (I : Nat → Nat → Int32) : Prop := I 73 k = nI (cn S) ∧ I 74 k = nI (cB S) ∧ I 75 k = nI (cS S) ∧ I 76 k = nI (cM S) ∧ (∀ j, j < cn S → I 71 (800 * k + j) = nI (cP S j).1 ∧ I 72 (800 * k + j) = (cP S j).2) ∧ (∀ s, s < cS S → I 77 (60 * k + s) = p_b (cW S s)) ∧ (∀ j, j < min (cM S) 20 → I 78 (20 * k + j) = nI (cA S j))
def MBo (I : Nat → Nat → Int32) : Prop := ∀ j, j < 420 → I 77 j = 0 ∨ I 77 j = 1
/-- only one slot differs -/
def FRS (b : Nat) (I0 I : Nat → Nat → Int32) : Prop := (∀ o, ¬ (71 ≤ o ∧ o ≤ 78) → I o = I0 o) ∧ (∀ x, ¬ (800 * b ≤ x ∧ x < 800 * b + 800) → I 71 x = I0 71 x ∧ I 72 x = I0 72 x) ∧ (∀ x, x ≠ b → I 73 x = I0 73 x ∧ I 74 x = I0 74 x ∧ I 75 x = I0 75 x ∧ I 76 x = I0 76 x) ∧ (∀ x, ¬ (60 * b ≤ x ∧ x < 60 * b + 60) → I 77 x = I0 77 x) ∧ (∀ x, ¬ (20 * b ≤ x ∧ x < 20 * b + 20) → I 78 x = I0 78 x)
theorem MCd.frs {S : PT} {k b : Nat} {I I' : Nat → Nat → Int32} (h : MCd S k I) (f : FRS b I I') (hk : k ≠ b) (hn : cn S ≤ 600) (hs : cS S ≤ 60) : MCd S k I' := by
  obtain ⟨h1, h2, h3, h4, h5, h6, h7⟩ := h
  obtain ⟨-, f1, f2, f3, f4⟩ := f
  obtain ⟨e1, e2, e3, e4⟩ := f2 k hk
  refine ⟨by rw [e1]; exact h1, by rw [e2]; exact h2, by rw [e3]; exact h3, by rw [e4]; exact h4, fun j hj => ?_, fun s hs' => ?_, fun j hj => ?_⟩
  · obtain ⟨q1, q2⟩ := f1 (800 * k + j) (by omega)
    rw [q1, q2]; exact h5 j hj
  · rw [f3 (60 * k + s) (by omega)]; exact h6 s hs'
  · rw [f4 (20 * k + j) (by omega)]; exact h7 j hj
section MCP
variable {X : aw_X} {d : Nat} {Q : Option Value → aw_H → Prop} {I : Nat → Nat → Int32} {L : Nat → Nat → Int64} {D : Nat → Nat}
theorem l_copy3 {a b : Nat} (ha : a < 7) (hb : b < 7) (hne : a ≠ b) {I0 : Nat → Nat → Int32} (hQ : ∀ I', I' 78 = cpy (I0 78) (20 * a) (20 * b) 20 → (∀ o, o ≠ 78 → I' o = I0 o) → Q none (aw_s (aw_u (aw_u (aw_u (aw_u I' 73 b (I0 73 a)) 74 b (I0 74 a)) 75 b (I0 75 a)) 76 b (I0 76 a)) L D)) :
    ∀ (m i : Nat) (I : Nat → Nat → Int32), i + m = 20 → I 78 = cpy (I0 78) (20 * a) (20 * b) i → (∀ o, o ≠ 78 → I o = I0 o) → aw_z X d y_M_copy Q 104 [some (.ref 69), some (.int (nI a)), some (.int (nI b)), some (.int (nI i))] [] (aw_s I L D) := by
  intro m
  have va := aw_in_nI ha (N := 7) (by decide)
  have vb := aw_in_nI hb (N := 7) (by decide)
  induction m with
  | zero =>
    intro i I e h8 hf
    have ei : i = 20 := by omega
    subst ei
    have B0 := @b_M_copy_104 X d Q I L D (nI a) (nI b) (nI 20)
    rw [nI_clamp (show a < 2 ^ 31 by omega), nI_clamp (show b < 2 ^ 31 by omega), hf 73 (by decide), hf 74 (by decide), hf 75 (by decide), hf 76 (by decide)] at B0
    exact B0 (fun _ => va) (fun _ => vb) (fun _ => va) (fun _ => vb) (fun _ => va) (fun _ => vb) (fun _ => va) (fun _ => vb) (fun _ => hQ I h8 hf) (fun q => absurd (by decide) q) (fun q => absurd (by decide) q) (fun q => absurd (by decide) q)
  | succ m ih =>
    intro i I e h8 hf
    have c1 : ((20 : Int32) ≤ nI i) = False := by
      have : ((20 : Int32) ≤ nI i) = (20 ≤ i) := nI_le' (a := 20) (by decide) (by omega)
      rw [this]; simp; omega
    have B0 := @b_M_copy_104 X d Q I L D (nI a) (nI b) (nI i)
    rw [ixC 20 a i 20 rfl, ixC 20 b i 20 rfl, nI_clamp (show 20 * a + i < 2 ^ 31 by omega), nI_clamp (show 20 * b + i < 2 ^ 31 by omega), nI_1] at B0
    simp only [c1, not_false_eq_true, true_implies, false_implies, implies_true] at B0
    refine B0 (aw_in_nI (by omega) (by decide)) (aw_in_nI (by omega) (by decide)) (ih (i + 1) _ (by omega) ?_ (fun o ho => by rw [au_o ho]; exact hf o ho))
    rw [aw_u_same, h8]
    exact cpy_s (by omega)
theorem l_copy2 {a b : Nat} (ha : a < 7) (hb : b < 7) (hne : a ≠ b) {I0 : Nat → Nat → Int32} (hbo : MBo I0) (hQ : ∀ I', I' 77 = cpy (I0 77) (60 * a) (60 * b) 60 → (∀ o, o ≠ 77 → I' o = I0 o) → aw_z X d y_M_copy Q 104 [some (.ref 69), some (.int (nI a)), some (.int (nI b)), some (.int 0)] [] (aw_s I' L D)) :
    ∀ (m i : Nat) (I : Nat → Nat → Int32), i + m = 60 → I 77 = cpy (I0 77) (60 * a) (60 * b) i → (∀ o, o ≠ 77 → I o = I0 o) → aw_z X d y_M_copy Q 68 [some (.ref 69), some (.int (nI a)), some (.int (nI b)), some (.int (nI i))] [] (aw_s I L D) := by
  intro m
  induction m with
  | zero =>
    intro i I e h8 hf
    have ei : i = 60 := by omega
    subst ei
    exact b_M_copy_68 (fun _ => hQ I h8 hf) (fun q => absurd (by decide) q) (fun q => absurd (by decide) q) (fun q => absurd (by decide) q) (fun q => absurd (by decide) q)
  | succ m ih =>
    intro i I e h8 hf
    have c1 : ((60 : Int32) ≤ nI i) = False := by
      have : ((60 : Int32) ≤ nI i) = (60 ≤ i) := nI_le' (a := 60) (by decide) (by omega)
      rw [this]; simp; omega
    have B0 := @b_M_copy_68 X d Q I L D (nI a) (nI b) (nI i)
    rw [ixC 60 a i 60 rfl, ixC 60 b i 60 rfl, nI_clamp (show 60 * a + i < 2 ^ 31 by omega), nI_clamp (show 60 * b + i < 2 ^ 31 by omega), nI_1] at B0
    simp only [c1, not_false_eq_true, true_implies, false_implies, implies_true] at B0
    refine B0 (aw_in_nI (by omega) (by decide)) (aw_in_nI (by omega) (by decide)) (by rw [h8]; exact cpy_b hbo (by omega) _ (by omega)) (ih (i + 1) _ (by omega) ?_ (fun o ho => by rw [au_o ho]; exact hf o ho))
    rw [aw_u_same, h8]
    exact cpy_s (by omega)
theorem l_copy1 {a b n : Nat} (ha : a < 7) (hb : b < 7) (hne : a ≠ b) {I0 : Nat → Nat → Int32} (hn : n ≤ 600) (h73 : I0 73 a = nI n) (hQ : ∀ I', I' 71 = cpy (I0 71) (800 * a) (800 * b) n → I' 72 = cpy (I0 72) (800 * a) (800 * b) n → (∀ o, o ≠ 71 → o ≠ 72 → I' o = I0 o) → aw_z X d y_M_copy Q 68 [some (.ref 69), some (.int (nI a)), some (.int (nI b)), some (.int 0)] [] (aw_s I' L D)) :
    ∀ (m i : Nat) (I : Nat → Nat → Int32), i + m = n → I 71 = cpy (I0 71) (800 * a) (800 * b) i → I 72 = cpy (I0 72) (800 * a) (800 * b) i → (∀ o, o ≠ 71 → o ≠ 72 → I o = I0 o) → aw_z X d y_M_copy Q 2 [some (.ref 69), some (.int (nI a)), some (.int (nI b)), some (.int (nI i))] [] (aw_s I L D) := by
  intro m
  have va := aw_in_nI ha (N := 7) (by decide)
  induction m with
  | zero =>
    intro i I e h1 h2 hf
    have ei : i = n := by omega
    subst ei
    have B0 := @b_M_copy_2 X d Q I L D (nI a) (nI b) (nI i)
    rw [nI_clamp (show a < 2 ^ 31 by omega), hf 73 (by decide) (by decide), h73] at B0
    have c1 : (nI i ≤ nI i) = True := by simp
    simp only [c1, not_true_eq_false, true_implies, false_implies, implies_true] at B0
    exact B0 va (hQ I h1 h2 hf)
  | succ m ih =>
    intro i I e h1 h2 hf
    have B0 := @b_M_copy_2 X d Q I L D (nI a) (nI b) (nI i)
    rw [nI_clamp (show a < 2 ^ 31 by omega), hf 73 (by decide) (by decide), h73, ixC 800 a i 800 rfl, ixC 800 b i 800 rfl, nI_clamp (show 800 * a + i < 2 ^ 31 by omega), nI_clamp (show 800 * b + i < 2 ^ 31 by omega), nI_1] at B0
    have c1 : (nI n ≤ nI i) = False := by rw [nI_le' (by omega) (by omega)]; simp; omega
    simp only [c1, not_false_eq_true, true_implies, false_implies, implies_true] at B0
    have xa := aw_in_nI (show 800 * a + i < 5600 by omega) (by decide)
    have xb := aw_in_nI (show 800 * b + i < 5600 by omega) (by decide)
    refine B0 va xa xb xa xb (ih (i + 1) _ (by omega) ?_ ?_ (fun o ho ho2 => by rw [au_o ho2, au_o ho]; exact hf o ho ho2))
    · rw [au_o (by decide), aw_u_same, h1]
      exact cpy_s (by omega)
    · rw [aw_u_same, au_o (by decide), h2]
      exact cpy_s (by omega)
theorem c_M_copy {S : PT} {a b : Nat} (ha : a < 7) (hb : b < 7) (hne : a ≠ b) (h : MCd S a I) (hn : cn S ≤ 600) (hs : cS S ≤ 60) (hbo : MBo I) (hQ : ∀ I', MCd S b I' → FRS b I I' → MBo I' → Q none (aw_s I' L D)) : aw_m X d y_M_copy [.ref 69, .int (nI a), .int (nI b)] (aw_s I L D) Q := by
  obtain ⟨h1, h2, h3, h4, h5, h6, h7⟩ := h
  refine aw_go rfl rfl (b_M_copy_0 (l_copy1 (n := cn S) (I0 := I) ha hb hne hn h1 (fun I1 p1 p2 pf => l_copy2 (I0 := I1) ha hb hne (fun j hj => by rw [pf 77 (by decide) (by decide)]; exact hbo j hj) (fun I2 q1 qf => l_copy3 (I0 := I2) ha hb hne (fun I3 r1 rf => ?_) 20 0 I2 rfl (cpy_0 _ _ _).symm (fun _ _ => rfl)) 60 0 I1 rfl (cpy_0 _ _ _).symm (fun _ _ => rfl)) (cn S) 0 I (by omega) (cpy_0 _ _ _).symm (cpy_0 _ _ _).symm (fun _ _ _ => rfl)))
  have e2 : ∀ o, o ≠ 71 → o ≠ 72 → o ≠ 77 → I2 o = I o := fun o x y z => (qf o z).trans (pf o x y)
  have e3 : ∀ o, o ≠ 71 → o ≠ 72 → o ≠ 77 → o ≠ 78 → I3 o = I o := fun o x y z w => (rf o w).trans (e2 o x y z)
  have k1 : I3 71 = cpy (I 71) (800 * a) (800 * b) (cn S) := by rw [rf 71 (by decide), qf 71 (by decide)]; exact p1
  have k2 : I3 72 = cpy (I 72) (800 * a) (800 * b) (cn S) := by rw [rf 72 (by decide), qf 72 (by decide)]; exact p2
  have k7 : I3 77 = cpy (I 77) (60 * a) (60 * b) 60 := by rw [rf 77 (by decide), q1, pf 77 (by decide) (by decide)]
  have k8 : I3 78 = cpy (I 78) (20 * a) (20 * b) 20 := by rw [r1, qf 78 (by decide), pf 78 (by decide) (by decide)]
  rw [e2 73 (by decide) (by decide) (by decide), e2 74 (by decide) (by decide) (by decide), e2 75 (by decide) (by decide) (by decide), e2 76 (by decide) (by decide) (by decide)]
  generalize eI : aw_u (aw_u (aw_u (aw_u I3 73 b (I 73 a)) 74 b (I 74 a)) 75 b (I 75 a)) 76 b (I 76 a) = I4
  have f4 : ∀ o, o ≠ 73 → o ≠ 74 → o ≠ 75 → o ≠ 76 → I4 o = I3 o := fun o w x y z => by rw [← eI, au_o z, au_o y, au_o x, au_o w]
  have g3 : I4 73 = va_up (I 73) b (I 73 a) := by rw [← eI, au_o (by decide), au_o (by decide), au_o (by decide), aw_u_same, e3 73 (by decide) (by decide) (by decide) (by decide)]
  have g4 : I4 74 = va_up (I 74) b (I 74 a) := by rw [← eI, au_o (by decide), au_o (by decide), aw_u_same, au_o (by decide), e3 74 (by decide) (by decide) (by decide) (by decide)]
  have g5 : I4 75 = va_up (I 75) b (I 75 a) := by rw [← eI, au_o (by decide), aw_u_same, au_o (by decide), au_o (by decide), e3 75 (by decide) (by decide) (by decide) (by decide)]
  have g6 : I4 76 = va_up (I 76) b (I 76 a) := by rw [← eI, aw_u_same, au_o (by decide), au_o (by decide), au_o (by decide), e3 76 (by decide) (by decide) (by decide) (by decide)]
  have g1 := (f4 71 (by decide) (by decide) (by decide) (by decide)).trans k1
  have g2 := (f4 72 (by decide) (by decide) (by decide) (by decide)).trans k2
  have g7 := (f4 77 (by decide) (by decide) (by decide) (by decide)).trans k7
  have g8 := (f4 78 (by decide) (by decide) (by decide) (by decide)).trans k8
  refine hQ I4 ⟨by rw [g3, up_s]; exact h1, by rw [g4, up_s]; exact h2, by rw [g5, up_s]; exact h3, by rw [g6, up_s]; exact h4, fun j hj => by rw [g1, g2, cpy_i hj, cpy_i hj]; exact h5 j hj, fun s hs' => by rw [g7, cpy_i (by omega)]; exact h6 s hs', fun j hj => by rw [g8, cpy_i (by omega)]; exact h7 j hj⟩ ⟨fun o ho => ?_, fun x hx => ?_, fun x hx => ?_, fun x hx => ?_, fun x hx => ?_⟩ ?_
  · rw [f4 o (by omega) (by omega) (by omega) (by omega), e3 o (by omega) (by omega) (by omega) (by omega)]
  · rw [g1, g2, cpy_o (by omega), cpy_o (by omega)]; exact ⟨rfl, rfl⟩
  · rw [g3, g4, g5, g6, up_n _ _ hx, up_n _ _ hx, up_n _ _ hx, up_n _ _ hx]; exact ⟨rfl, rfl, rfl, rfl⟩
  · rw [g7, cpy_o hx]
  · rw [g8, cpy_o hx]
  · intro j hj
    rw [g7]; exact cpy_b hbo (by omega) j hj
end MCP
