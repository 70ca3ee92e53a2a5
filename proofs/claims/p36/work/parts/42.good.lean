/-! PART 42: what holds at each step of the machine, and that it ends -/
def p_chain (P : Nat → Nat × Int32) (n : Nat) (ty : Nat → List Bool) (sg : Nat → Nat) : Nat → List Nat → Prop
  | s, [] => s = 4
  | s, r :: rs => s < sg r ∧ r < n ∧ ty r = [] ∧ (P r).1 ≠ 23 ∧ sg r ≤ 4 ∧ p_dc P r = false ∧ p_chain P n ty sg (sg r) rs
def p_good (P : Nat → Nat × Int32) (n : Nat) (ty : Nat → List Bool) (sg : Nat → Nat) (B F : Nat) : PS → Prop
  | (pc, stk, cs, nm, cl, sp, bg, ds, _, _, tr) => pc < n ∧ p_ty B (ty pc) stk ∧ p_chain P n ty sg (sg pc) cs ∧ (∀ k, k < 8 → rg B (nm k)) ∧ (∀ k, k < 8 → rg B (cl k)) ∧ bg ≤ 1000 ∧ ds.length ≤ F ∧ (bg = 0 → ((P pc).1 = 0 ∨ (P pc).1 = 1 ∨ (P pc).1 = 25)) ∧ (0 < bg → ∃ j, j < 60 ∧ sp = nI j) ∧ tr.length = bg ∧ (bg = 0 → sp = -1) ∧ (p_dc P pc = true → ds.length < F)
def p_acn (P : Nat → Nat × Int32) (n pc : Nat) : Nat := p_ac P (n - pc) pc
def p_V (P : Nat → Nat × Int32) (n : Nat) : PS → Nat
  | (pc, _, cs, _, _, _, bg, _, _, _, _) => (1001 - bg) * 256 + (cs.map (p_acn P n)).sum + (if (P pc).1 = 0 ∨ (P pc).1 = 1 then 0 else p_acn P n pc + (if (P pc).1 = 23 then 130 else 0))
def p_end (B F : Nat) : PE → Prop
  | (e, sp, (_, _, _, nm, cl, _, bg, ds, _, _, tr)) => (∃ j, j ≤ 5 ∧ e = nI j) ∧ (sp = -1 ∨ ∃ j, j < 60 ∧ sp = nI j) ∧ (∀ k, k < 8 → rg B (nm k)) ∧ (∀ k, k < 8 → rg B (cl k)) ∧ bg ≤ 1001 ∧ ds.length ≤ F ∧ tr.length = bg
theorem p_acn_s {P : Nat → Nat × Int32} {n pc : Nat} (h : pc < n) : p_acn P n pc = (if 15 ≤ (P pc).1 then 1 else 0) + p_acn P n (pc + 1) := by
  unfold p_acn
  rw [show n - pc = (n - (pc + 1)) + 1 by omega]
  rfl
theorem p_acn_m {P : Nat → Nat × Int32} {n : Nat} : ∀ (k pc : Nat), pc + k ≤ n → p_acn P n (pc + k) ≤ p_acn P n pc
  | 0, pc, _ => Nat.le_refl _
  | k + 1, pc, h => by
    have h1 := p_acn_m (P := P) (n := n) k (pc + 1) (by omega)
    rw [p_acn_s (P := P) (show pc < n by omega), show pc + (k + 1) = pc + 1 + k by omega]
    omega
theorem p_acn_le {P : Nat → Nat × Int32} {n a b : Nat} (h : a ≤ b) (hb : b ≤ n) : p_acn P n b ≤ p_acn P n a := by
  have := p_acn_m (P := P) (n := n) (b - a) a (by omega)
  rwa [show a + (b - a) = b by omega] at this
theorem rg_and {B : Nat} {g : Int32} (hB : B ≤ 6) (hg : g = nI (2 ^ B - 1)) (x : Int32) : rg B (x &&& g) := by
  have : g.toBitVec.toNat = 2 ^ B - 1 := by
    rw [hg, pk_tn]
    have : 2 ^ B ≤ 2 ^ 6 := Nat.pow_le_pow_right (by decide) hB
    omega
  obtain ⟨j, h1, h2⟩ := pk_andE x B this
  exact ⟨j, h1, h2⟩
theorem rg_nat {B : Nat} (hB : B ≤ 6) {v : Int32} (h : rg B v) : ∃ j, j < 64 ∧ j < 2 ^ B ∧ v = nI j := by
  obtain ⟨j, h1, h2⟩ := h
  have : 2 ^ B ≤ 2 ^ 6 := Nat.pow_le_pow_right (by decide) hB
  exact ⟨j, by omega, h1, h2⟩
theorem p_b_01 (c : Bool) : p_b c = 0 ∨ p_b c = 1 := by cases c; exact Or.inl rfl; exact Or.inr rfl
theorem up_rg {B : Nat} {f : Nat → Int32} {k : Nat} {v : Int32} (h : ∀ k, k < 8 → rg B (f k)) (hv : rg B v) : ∀ j, j < 8 → rg B (va_up f k v j) := by
  intro j hj
  unfold va_up
  split
  · exact hv
  · exact h j hj
theorem p_ty1 {B : Nat} {b : Bool} {stk : List Int32} {t : List Bool} (h : p_ty B (b :: t) stk) : ∃ v st, stk = v :: st ∧ (if b = true then (v = 0 ∨ v = 1) else rg B v) ∧ p_ty B t st := by
  cases stk with
  | nil => exact absurd h (by unfold p_ty; exact id)
  | cons v st => exact ⟨v, st, rfl, h⟩
theorem p_ty0 {B : Nat} {stk : List Int32} (h : p_ty B [] stk) : stk = [] := by
  cases stk with
  | nil => rfl
  | cons v st => exact absurd h (by unfold p_ty; exact id)
/-- a sum's order is done, or comes to harm -/
theorem p_work_good {P : Nat → Nat × Int32} {n : Nat} {ty : Nat → List Bool} {sg : Nat → Nat} {B pc : Nat} {g : Int32} {nm cl : Nat → Int32} {stk : List Int32} (hB : B ≤ 6) (hg : g = nI (2 ^ B - 1)) (hok : p_ok P n ty sg pc) (h2 : 2 ≤ (P pc).1) (h14 : (P pc).1 ≤ 14) (hst : p_ty B (ty pc) stk)
    (hn : ∀ k, k < 8 → rg B (nm k)) (hc : ∀ k, k < 8 → rg B (cl k)) :
    (∃ st, p_work g nm cl (P pc).1 (P pc).2 stk = .ok st ∧ p_ty B (ty (pc + 1)) st ∧ ∃ b t, ty (pc + 1) = b :: t) ∨ p_work g nm cl (P pc).1 (P pc).2 stk = .error 2 ∨ p_work g nm cl (P pc).1 (P pc).2 stk = .error 3 := by
  obtain ⟨-, -, -, hL⟩ := hok
  have two : ∀ {b c : Bool} {t : List Bool}, ty pc = b :: c :: t → ∃ v w st, stk = v :: w :: st ∧ (if b = true then (v = 0 ∨ v = 1) else rg B v) ∧ (if c = true then (w = 0 ∨ w = 1) else rg B w) ∧ p_ty B t st := by
    intro b c t e
    rw [e] at hst
    obtain ⟨v, st, rfl, h1, h2⟩ := p_ty1 hst
    obtain ⟨w, st, rfl, h3, h4⟩ := p_ty1 h2
    exact ⟨v, w, st, rfl, h1, h3, h4⟩
  have fin : ∀ {b : Bool} {t : List Bool} {v : Int32} {st : List Int32}, ty (pc + 1) = b :: t → p_work g nm cl (P pc).1 (P pc).2 stk = .ok (v :: st) → (if b = true then (v = 0 ∨ v = 1) else rg B v) → p_ty B t st → _ := fun {b t v st} e1 e2 h3 h4 =>
    show (∃ st, p_work g nm cl (P pc).1 (P pc).2 stk = .ok st ∧ p_ty B (ty (pc + 1)) st ∧ ∃ b t, ty (pc + 1) = b :: t) ∨ p_work g nm cl (P pc).1 (P pc).2 stk = .error 2 ∨ p_work g nm cl (P pc).1 (P pc).2 stk = .error 3 from Or.inl ⟨v :: st, e2, by rw [e1]; exact ⟨h3, h4⟩, b, t, e1⟩
  split at hL <;> (try omega)
  · next e => exact fin hL (by rw [e]; rfl) (rg_and hB hg _) hst
  · next e =>
    obtain ⟨h, j, hj, hj2⟩ := hL
    exact fin h (by rw [e]; rfl) (by rw [hj2, nI_clamp (by omega)]; exact hn j hj) hst
  · next e =>
    obtain ⟨t, h1, h2⟩ := hL
    rw [h1] at hst
    obtain ⟨v, st, rfl, h3, h4⟩ := p_ty1 hst
    by_cases h7 : v ≤ 7
    · refine fin h2 (v := cl v.toNatClampNeg) (by rw [e]; simp [p_work, h7]) ?_ h4
      obtain ⟨j, hj, hj2, rfl⟩ := rg_nat hB h3
      rw [show (7 : Int32) = nI 7 from rfl, nI_leI (by omega) (by omega)] at h7
      rw [nI_clamp (by omega)]
      exact hc j (by omega)
    · exact Or.inr (Or.inr (by rw [e]; simp [p_work, h7]))
  all_goals first
    | exact False.elim hL
    | (rename_i e; obtain ⟨t, h1, h2⟩ := hL; obtain ⟨v, w, st, rfl, g1, g2, g3⟩ := two h1
       first
        | exact fin h2 (by rw [e]; rfl) (rg_and hB hg _) g3
        | exact fin h2 (by rw [e]; rfl) (p_b_01 _) g3
        | (by_cases h0 : v = 0
           · exact Or.inr (Or.inl (by rw [e]; simp [p_work, h0]))
           · exact fin h2 (by rw [e]; simp [p_work, h0]; rfl) (rg_and hB hg _) g3))

section STEPS
variable {P : Nat → Nat × Int32} {g : Int32} {F : Nat} {an : Nat → Int32} {pc : Nat} {stk st : List Int32} {cs : List Nat} {nm cl : Nat → Int32} {sp v i : Int32} {bg ak r : Nat} {ds : List Bool} {ys : Nat → Nat} {tr : List (Nat × (Nat → Int32))}
theorem p_st_0x (e : (P pc).1 = 0) (h : 1000 < bg + 1) : p_step P g F an (pc, stk, cs, nm, cl, sp, bg, ds, ak, ys, tr) = .inr (5, (P pc).2, (pc, stk, cs, nm, cl, (P pc).2, bg + 1, ds, ak, ys, tr ++ [((P pc).2.toNatClampNeg, nm)])) := by
  simp [p_step, e, h]
theorem p_st_0 (e : (P pc).1 = 0) (h : ¬ 1000 < bg + 1) : p_step P g F an (pc, stk, cs, nm, cl, sp, bg, ds, ak, ys, tr) = .inl (pc + 1, stk, cs, nm, cl, (P pc).2, bg + 1, ds, ak, ys, tr ++ [((P pc).2.toNatClampNeg, nm)]) := by
  simp [p_step, e, h]
theorem p_st_1x (e : (P pc).1 = 1) (h : 1000 < bg + 1 ∨ ds.length = F) : p_step P g F an (pc, stk, cs, nm, cl, sp, bg, ds, ak, ys, tr) = .inr (5, (P pc).2, (pc, stk, cs, nm, cl, (P pc).2, bg + 1, ds, ak, ys, tr ++ [((P pc).2.toNatClampNeg, nm)])) := by
  simp [p_step, e, h]
theorem p_st_1 (e : (P pc).1 = 1) (h : ¬ (1000 < bg + 1 ∨ ds.length = F)) : p_step P g F an (pc, stk, cs, nm, cl, sp, bg, ds, ak, ys, tr) = .inl (pc + 1, stk, cs, nm, cl, (P pc).2, bg + 1, ds, ak, ys, tr ++ [((P pc).2.toNatClampNeg, nm)]) := by
  simp [p_step, e, h]
theorem p_st_15 (e : (P pc).1 = 15) : p_step P g F an (pc, v :: st, cs, nm, cl, sp, bg, ds, ak, ys, tr) = .inl (pc + 1, st, cs, va_up nm (P pc).2.toNatClampNeg v, cl, sp, bg, ds, ak, ys, tr) := by
  simp [p_step, e]
theorem p_st_16 (e : (P pc).1 = 16) (h : i ≤ 7) : p_step P g F an (pc, v :: i :: st, cs, nm, cl, sp, bg, ds, ak, ys, tr) = .inl (pc + 1, st, cs, nm, va_up cl i.toNatClampNeg v, sp, bg, ds, ak, ys, tr) := by
  simp [p_step, e, h]
theorem p_st_16x (e : (P pc).1 = 16) (h : ¬ i ≤ 7) : p_step P g F an (pc, v :: i :: st, cs, nm, cl, sp, bg, ds, ak, ys, tr) = .inr (3, sp, (pc, v :: i :: st, cs, nm, cl, sp, bg, ds, ak, ys, tr)) := by
  simp [p_step, e, h]
theorem p_st_17 (e : (P pc).1 = 17) (h : ¬ v = 0) : p_step P g F an (pc, v :: st, cs, nm, cl, sp, bg, ds, ak, ys, tr) = .inl (pc + 1, st, cs, nm, cl, sp, bg, ds, ak, ys, tr) := by
  simp [p_step, e, h]
theorem p_st_17x (e : (P pc).1 = 17) (h : v = 0) : p_step P g F an (pc, v :: st, cs, nm, cl, sp, bg, ds, ak, ys, tr) = .inr (1, sp, (pc, v :: st, cs, nm, cl, sp, bg, ds, ak, ys, tr)) := by
  simp [p_step, e, h]
theorem p_st_18 (e : (P pc).1 = 18) (h : ¬ v = 0) : p_step P g F an (pc, v :: st, cs, nm, cl, sp, bg, ds, ak, ys, tr) = .inl (pc + 1, st, cs, nm, cl, sp, bg, ds, ak, ys, tr) := by
  simp [p_step, e, h]
theorem p_st_18x (e : (P pc).1 = 18) (h : v = 0) : p_step P g F an (pc, v :: st, cs, nm, cl, sp, bg, ds, ak, ys, tr) = .inr (4, sp, (pc, v :: st, cs, nm, cl, sp, bg, ds, ak, ys, tr)) := by
  simp [p_step, e, h]
theorem p_st_19 (e : (P pc).1 = 19) : p_step P g F an (pc, stk, cs, nm, cl, sp, bg, ds, ak, ys, tr) = .inl (pc + 1, stk, cs, va_up nm (P pc).2.toNatClampNeg (an ak), cl, sp, bg, ds, ak + 1, ys, tr) := by
  simp [p_step, e]
theorem p_st_20 (e : (P pc).1 = 20) : p_step P g F an (pc, stk, cs, nm, cl, sp, bg, ds, ak, ys, tr) = .inr (0, sp, (pc, stk, cs, nm, cl, sp, bg, ds, ak, ys, tr)) := by
  simp [p_step, e]
theorem p_st_21 (e : (P pc).1 = 21) (h : v = 1) : p_step P g F an (pc, v :: st, cs, nm, cl, sp, bg, ds, ak, ys, tr) = .inl (pc + 1, st, cs, nm, cl, sp, bg, ds ++ [true], ak, va_up ys sp.toNatClampNeg (ys sp.toNatClampNeg + 1), tr) := by
  simp [p_step, e, h]
theorem p_st_21n (e : (P pc).1 = 21) (h : ¬ v = 1) : p_step P g F an (pc, v :: st, cs, nm, cl, sp, bg, ds, ak, ys, tr) = .inl ((P pc).2.toNatClampNeg, st, cs, nm, cl, sp, bg, ds ++ [false], ak, ys, tr) := by
  simp [p_step, e, h]
theorem p_st_22 (e : (P pc).1 = 22) : p_step P g F an (pc, stk, cs, nm, cl, sp, bg, ds, ak, ys, tr) = .inl ((P pc).2.toNatClampNeg, stk, cs, nm, cl, sp, bg, ds, ak, ys, tr) := by
  simp [p_step, e]
theorem p_st_23 (e : (P pc).1 = 23) : p_step P g F an (pc, stk, cs, nm, cl, sp, bg, ds, ak, ys, tr) = .inl ((P pc).2.toNatClampNeg, stk, (pc + 1) :: cs, nm, cl, sp, bg, ds, ak, ys, tr) := by
  simp [p_step, e]
theorem p_st_24 (e : (P pc).1 = 24) : p_step P g F an (pc, stk, r :: cs, nm, cl, sp, bg, ds, ak, ys, tr) = .inl (r, stk, cs, nm, cl, sp, bg, ds, ak, ys, tr) := by
  simp [p_step, e]
theorem p_st_25 (e : (P pc).1 = 25) : p_step P g F an (pc, stk, cs, nm, cl, sp, bg, ds, ak, ys, tr) = .inr (0, -1, (pc, stk, cs, nm, cl, sp, bg, ds, ak, ys, tr)) := by
  simp [p_step, e]
theorem p_st_w (h : 2 ≤ (P pc).1 ∧ (P pc).1 ≤ 14) (hw : p_work g nm cl (P pc).1 (P pc).2 stk = .ok st) : p_step P g F an (pc, stk, cs, nm, cl, sp, bg, ds, ak, ys, tr) = .inl (pc + 1, st, cs, nm, cl, sp, bg, ds, ak, ys, tr) := by
  simp only [p_step, if_pos h, hw]
theorem p_st_wx {e : Int32} (h : 2 ≤ (P pc).1 ∧ (P pc).1 ≤ 14) (hw : p_work g nm cl (P pc).1 (P pc).2 stk = .error e) : p_step P g F an (pc, stk, cs, nm, cl, sp, bg, ds, ak, ys, tr) = .inr (e, sp, (pc, stk, cs, nm, cl, sp, bg, ds, ak, ys, tr)) := by
  simp only [p_step, if_pos h, hw]
end STEPS
theorem p_V_mono1 {P : Nat → Nat × Int32} {n pc : Nat} (h : pc < n) : p_acn P n (pc + 1) ≤ p_acn P n pc := p_acn_le (Nat.le_succ _) h
theorem p_step_good {P : Nat → Nat × Int32} {n st0 : Nat} {ty : Nat → List Bool} {sg : Nat → Nat} {B F : Nat} {g : Int32} {an : Nat → Int32} (hW : p_WF P n st0 ty sg) (hB : B ≤ 6) (hg : g = nI (2 ^ B - 1)) (han : ∀ k, rg B (an k)) {S : PS} (hG : p_good P n ty sg B F S) :
    (∃ S', p_step P g F an S = .inl S' ∧ p_good P n ty sg B F S' ∧ (if 2 ≤ (P S.1).1 ∧ (P S.1).1 ≤ 14 then S'.1 = S.1 + 1 ∧ p_V P n S' ≤ p_V P n S else p_V P n S' < p_V P n S)) ∨ (∃ E, p_step P g F an S = .inr E ∧ p_end B F E) := by
  obtain ⟨pc, stk, cs, nm, cl, sp, bg, ds, ak, ys, tr⟩ := S
  obtain ⟨g1, g2, g3, g4, g5, g6, g7, g8, g9, g10, g11, g12⟩ := hG
  obtain ⟨w1, w2, w3, w4, w0, w5, w6, w7⟩ := hW
  have hok := w7 pc g1
  have hac : ∀ t, t ≤ n → p_acn P n t ≤ 125 := fun t ht => Nat.le_trans (p_acn_le (Nat.zero_le _) ht) w6
  by_cases hs : 2 ≤ (P pc).1 ∧ (P pc).1 ≤ 14
  · obtain ⟨q1, q2, q3, -⟩ := id hok
    obtain ⟨q4, q5, q6⟩ := q3 ⟨by omega, by omega, by omega, by omega⟩
    have hz : ¬ bg = 0 := fun h => by rcases g8 h with h | h | h <;> omega
    have hsp : sp = -1 ∨ ∃ j, j < 60 ∧ sp = nI j := Or.inr (g9 (by omega))
    rcases p_work_good hB hg hok hs.1 hs.2 g2 g4 g5 with ⟨st, h1, h2, b, t, h3⟩ | h | h
    · refine Or.inl ⟨(pc + 1, st, cs, nm, cl, sp, bg, ds, ak, ys, tr), p_st_w hs h1, ⟨q4, h2, by rw [q5]; exact g3, g4, g5, g6, g7, fun h => absurd h hz, g9, g10, g11, fun h => g12 (by unfold p_dc at h; rw [if_pos hs] at h; exact h)⟩, ?_⟩
      rw [if_pos hs]
      refine ⟨rfl, ?_⟩
      have hok1 := (w7 (pc + 1) q4).2.2.2
      have n0 : (P (pc + 1)).1 ≠ 0 ∧ (P (pc + 1)).1 ≠ 1 := by
        refine ⟨fun e => ?_, fun e => ?_⟩ <;> rw [e] at hok1 <;> have := hok1.1 <;> rw [h3] at this <;> cases this
      have n1 : (P (pc + 1)).1 ≠ 23 := q6 (by omega)
      have := p_V_mono1 (P := P) g1
      simp only [p_V]
      rw [if_neg (by omega), if_neg n1, if_neg (by omega), if_neg (by omega)]
      omega
    · exact Or.inr ⟨_, by exact p_st_wx hs h, ⟨2, by decide, rfl⟩, hsp, g4, g5, Nat.le_succ_of_le g6, g7, g10⟩
    · exact Or.inr ⟨_, by exact p_st_wx hs h, ⟨3, by decide, rfl⟩, hsp, g4, g5, Nat.le_succ_of_le g6, g7, g10⟩
  · have hS1 : ∀ S' : PS, p_V P n S' < p_V P n (pc, stk, cs, nm, cl, sp, bg, ds, ak, ys, tr) → (if 2 ≤ (P pc).1 ∧ (P pc).1 ≤ 14 then S'.1 = pc + 1 ∧ p_V P n S' ≤ p_V P n (pc, stk, cs, nm, cl, sp, bg, ds, ak, ys, tr) else p_V P n S' < p_V P n (pc, stk, cs, nm, cl, sp, bg, ds, ak, ys, tr)) := fun S' h => by rw [if_neg hs]; exact h
    obtain ⟨q1, q2, q3, hL⟩ := id hok
    have ha := p_acn_s (P := P) g1
    have hb := hac (pc + 1) g1
    have cons1 : ∀ {b : Bool} {t : List Bool}, ty pc = b :: t → ∃ v st, stk = v :: st ∧ (if b = true then (v = 0 ∨ v = 1) else rg B v) ∧ p_ty B t st := fun e => p_ty1 (by rw [e] at g2; exact g2)
    have nxt : (P pc).1 ≠ 20 → (P pc).1 ≠ 22 → (P pc).1 ≠ 24 → (P pc).1 ≠ 25 → pc + 1 < n ∧ sg (pc + 1) = sg pc ∧ ((P pc).1 ≠ 0 → (P (pc + 1)).1 ≠ 23) := fun a b c d => q3 ⟨a, b, c, d⟩
    have hz : (P pc).1 ≠ 0 → (P pc).1 ≠ 1 → (P pc).1 ≠ 25 → ¬ bg = 0 := fun a b c h => by rcases g8 h with h | h | h <;> contradiction
    have hzs : (P pc).1 ≠ 0 → (P pc).1 ≠ 1 → (P pc).1 ≠ 25 → sp = -1 ∨ ∃ j, j < 60 ∧ sp = nI j := fun a b c => Or.inr (g9 (by have := hz a b c; omega))
    split at hL <;> (try (exfalso; omega))
    · -- 0
      next e =>
      obtain ⟨h1, h2, j, hj, hj2⟩ := hL
      obtain ⟨q4, q5, q6⟩ := nxt (by omega) (by omega) (by omega) (by omega)
      rw [h1] at g2
      have := p_ty0 g2; subst this
      by_cases hk : 1000 < bg + 1
      · exact Or.inr ⟨_, (by first | exact p_st_0x e hk | exact p_st_1x e hk), ⟨5, by decide, rfl⟩, Or.inr ⟨j, hj, hj2⟩, g4, g5, Nat.succ_le_succ g6, g7, by simp [g10]⟩
      · refine Or.inl ⟨(pc + 1, [], cs, nm, cl, (P pc).2, bg + 1, ds, ak, ys, tr ++ [((P pc).2.toNatClampNeg, nm)]), (by first | exact p_st_0 e hk | exact p_st_1 e hk), ⟨q4, by rw [h2]; trivial, by rw [q5]; exact g3, g4, g5, by omega, g7, fun h => by omega, fun _ => ⟨j, hj, hj2⟩, by simp [g10], fun h => by omega, fun h => by unfold p_dc at h; rw [if_neg hs, e] at h; simp at h⟩, hS1 _ ?_⟩
        simp only [p_V, e]
        repeat' split
        all_goals omega
    · -- 1
      next e =>
      obtain ⟨h1, h2, j, hj, hj2⟩ := hL
      obtain ⟨q4, q5, q6⟩ := nxt (by omega) (by omega) (by omega) (by omega)
      rw [h1] at g2
      have := p_ty0 g2; subst this
      by_cases hk : 1000 < bg + 1 ∨ ds.length = F
      · exact Or.inr ⟨_, (by first | exact p_st_0x e hk | exact p_st_1x e hk), ⟨5, by decide, rfl⟩, Or.inr ⟨j, hj, hj2⟩, g4, g5, Nat.succ_le_succ g6, g7, by simp [g10]⟩
      · refine Or.inl ⟨(pc + 1, [], cs, nm, cl, (P pc).2, bg + 1, ds, ak, ys, tr ++ [((P pc).2.toNatClampNeg, nm)]), (by first | exact p_st_0 e hk | exact p_st_1 e hk), ⟨q4, by rw [h2]; trivial, by rw [q5]; exact g3, g4, g5, by omega, g7, fun h => by omega, fun _ => ⟨j, hj, hj2⟩, by simp [g10], fun h => by omega, fun _ => by omega⟩, hS1 _ ?_⟩
        simp only [p_V, e]
        repeat' split
        all_goals omega
    · -- 15
      next e =>
      obtain ⟨h1, h2, j, hj, hj2⟩ := hL
      obtain ⟨q4, q5, q6⟩ := nxt (by omega) (by omega) (by omega) (by omega)
      obtain ⟨v, st, rfl, h3, h4⟩ := cons1 h1
      have := p_ty0 h4; subst this
      refine Or.inl ⟨(pc + 1, [], cs, va_up nm (P pc).2.toNatClampNeg v, cl, sp, bg, ds, ak, ys, tr), p_st_15 e, ⟨q4, by rw [h2]; trivial, by rw [q5]; exact g3, up_rg g4 h3, g5, g6, g7, fun h => absurd h (hz (by omega) (by omega) (by omega)), g9, g10, g11, fun h => by unfold p_dc at h; rw [if_neg hs, e] at h; simp at h⟩, hS1 _ ?_⟩
      have := q6 (by omega)
      rw [if_pos (by omega)] at ha
      simp only [p_V, e]
      repeat' split
      all_goals omega
    · -- 16
      next e =>
      obtain ⟨h1, h2⟩ := hL
      obtain ⟨q4, q5, q6⟩ := nxt (by omega) (by omega) (by omega) (by omega)
      obtain ⟨v, st, rfl, h3, h4⟩ := cons1 h1
      obtain ⟨i, st, rfl, h5, h6⟩ := p_ty1 h4
      have := p_ty0 h6; subst this
      by_cases h7 : i ≤ 7
      · refine Or.inl ⟨(pc + 1, [], cs, nm, va_up cl i.toNatClampNeg v, sp, bg, ds, ak, ys, tr), p_st_16 e h7, ⟨q4, by rw [h2]; trivial, by rw [q5]; exact g3, g4, up_rg g5 h3, g6, g7, fun h => absurd h (hz (by omega) (by omega) (by omega)), g9, g10, g11, fun h => by unfold p_dc at h; rw [if_neg hs, e] at h; simp at h⟩, hS1 _ ?_⟩
        have := q6 (by omega)
        rw [if_pos (by omega)] at ha
        simp only [p_V, e]
        repeat' split
        all_goals omega
      · exact Or.inr ⟨_, p_st_16x e h7, ⟨3, by decide, rfl⟩, hzs (by omega) (by omega) (by omega), g4, g5, Nat.le_succ_of_le g6, g7, g10⟩
    · -- 17
      next e =>
      obtain ⟨h1, h2⟩ := hL
      obtain ⟨q4, q5, q6⟩ := nxt (by omega) (by omega) (by omega) (by omega)
      obtain ⟨v, st, rfl, h3, h4⟩ := cons1 h1
      have := p_ty0 h4; subst this
      by_cases h7 : v = 0
      · exact Or.inr ⟨_, p_st_17x e h7, ⟨1, by decide, rfl⟩, hzs (by omega) (by omega) (by omega), g4, g5, Nat.le_succ_of_le g6, g7, g10⟩
      · refine Or.inl ⟨(pc + 1, [], cs, nm, cl, sp, bg, ds, ak, ys, tr), p_st_17 e h7, ⟨q4, by rw [h2]; trivial, by rw [q5]; exact g3, g4, g5, g6, g7, fun h => absurd h (hz (by omega) (by omega) (by omega)), g9, g10, g11, fun h => by unfold p_dc at h; rw [if_neg hs, e] at h; simp at h⟩, hS1 _ ?_⟩
        have := q6 (by omega)
        rw [if_pos (by omega)] at ha
        simp only [p_V, e]
        repeat' split
        all_goals omega
    · -- 18
      next e =>
      obtain ⟨h1, h2⟩ := hL
      obtain ⟨q4, q5, q6⟩ := nxt (by omega) (by omega) (by omega) (by omega)
      obtain ⟨v, st, rfl, h3, h4⟩ := cons1 h1
      have := p_ty0 h4; subst this
      by_cases h7 : v = 0
      · exact Or.inr ⟨_, p_st_18x e h7, ⟨4, by decide, rfl⟩, hzs (by omega) (by omega) (by omega), g4, g5, Nat.le_succ_of_le g6, g7, g10⟩
      · refine Or.inl ⟨(pc + 1, [], cs, nm, cl, sp, bg, ds, ak, ys, tr), p_st_18 e h7, ⟨q4, by rw [h2]; trivial, by rw [q5]; exact g3, g4, g5, g6, g7, fun h => absurd h (hz (by omega) (by omega) (by omega)), g9, g10, g11, fun h => by unfold p_dc at h; rw [if_neg hs, e] at h; simp at h⟩, hS1 _ ?_⟩
        have := q6 (by omega)
        rw [if_pos (by omega)] at ha
        simp only [p_V, e]
        repeat' split
        all_goals omega
    · -- 19
      next e =>
      obtain ⟨h1, h2, j, hj, hj2⟩ := hL
      obtain ⟨q4, q5, q6⟩ := nxt (by omega) (by omega) (by omega) (by omega)
      rw [h1] at g2
      have := p_ty0 g2; subst this
      refine Or.inl ⟨(pc + 1, [], cs, va_up nm (P pc).2.toNatClampNeg (an ak), cl, sp, bg, ds, ak + 1, ys, tr), p_st_19 e, ⟨q4, by rw [h2]; trivial, by rw [q5]; exact g3, up_rg g4 (han ak), g5, g6, g7, fun h => absurd h (hz (by omega) (by omega) (by omega)), g9, g10, g11, fun h => by unfold p_dc at h; rw [if_neg hs, e] at h; simp at h⟩, hS1 _ ?_⟩
      have := q6 (by omega)
      rw [if_pos (by omega)] at ha
      simp only [p_V, e]
      repeat' split
      all_goals omega
    · -- 20
      next e =>
      exact Or.inr ⟨_, p_st_20 e, ⟨0, by decide, rfl⟩, hzs (by omega) (by omega) (by omega), g4, g5, Nat.le_succ_of_le g6, g7, g10⟩
    · -- 21
      next e =>
      obtain ⟨h1, h2, hdc, t, ht, ht1, ht2, ht3, ht4, ht5, ht6⟩ := hL
      obtain ⟨q4, q5, q6⟩ := nxt (by omega) (by omega) (by omega) (by omega)
      obtain ⟨v, st, rfl, h3, h4⟩ := cons1 h1
      have := p_ty0 h4; subst this
      have hF : ds.length + 1 ≤ F := g12 hdc
      have n23 := q6 (by omega)
      rw [if_pos (by omega)] at ha
      by_cases h7 : v = 1
      · refine Or.inl ⟨(pc + 1, [], cs, nm, cl, sp, bg, ds ++ [true], ak, va_up ys sp.toNatClampNeg (ys sp.toNatClampNeg + 1), tr), p_st_21 e h7, ⟨q4, by rw [h2]; trivial, by rw [q5]; exact g3, g4, g5, g6, by simp; exact hF, fun h => absurd h (hz (by omega) (by omega) (by omega)), g9, g10, g11, fun h => by unfold p_dc at h; rw [if_neg hs, e] at h; simp at h⟩, hS1 _ ?_⟩
        simp only [p_V, e]
        repeat' split
        all_goals omega
      · have hm := p_acn_le (P := P) (show pc + 1 ≤ t from ht1) (Nat.le_of_lt ht2)
        refine Or.inl ⟨(t, [], cs, nm, cl, sp, bg, ds ++ [false], ak, ys, tr), (by rw [p_st_21n e h7, ht, nI_clamp (show t < 2 ^ 31 by omega)]), ⟨ht2, by rw [ht3]; trivial, by rw [ht4]; exact g3, g4, g5, g6, by simp; exact hF, fun h => absurd h (hz (by omega) (by omega) (by omega)), g9, g10, g11, fun h => by rw [ht6] at h; cases h⟩, hS1 _ ?_⟩
        simp only [p_V, e]
        repeat' split
        all_goals omega
    · -- 22
      next e =>
      obtain ⟨h1, t, ht, ht2, ht3, ht4, ht5, ht7, ht6⟩ := hL
      rw [h1] at g2
      have := p_ty0 g2; subst this
      rw [if_pos (by omega)] at ha
      refine Or.inl ⟨(t, [], cs, nm, cl, sp, bg, ds, ak, ys, tr), (by rw [p_st_22 e, ht, nI_clamp (show t < 2 ^ 31 by omega)]), ⟨ht2, by rw [ht3]; trivial, by rw [ht4]; exact g3, g4, g5, g6, g7, fun h => absurd h (hz (by omega) (by omega) (by omega)), g9, g10, g11, fun h => by rw [ht7] at h; cases h⟩, hS1 _ ?_⟩
      rcases ht6 with h6 | h6
      · have hm := p_acn_le (P := P) (show pc + 1 ≤ t from h6) (Nat.le_of_lt ht2)
        simp only [p_V, e]
        repeat' split
        all_goals omega
      · simp only [p_V]
        rw [if_pos (Or.inr h6), if_neg (show ¬ ((P pc).1 = 0 ∨ (P pc).1 = 1) by omega)]
        omega
    · -- 23
      next e =>
      obtain ⟨h1, h2, t, ht, ht2, ht3, ht4, ht5, ht6⟩ := hL
      obtain ⟨q4, q5, q6⟩ := nxt (by omega) (by omega) (by omega) (by omega)
      rw [h1] at g2
      have := p_ty0 g2; subst this
      rw [if_pos (by omega)] at ha
      have htt := hac t (Nat.le_of_lt ht2)
      refine Or.inl ⟨(t, [], (pc + 1) :: cs, nm, cl, sp, bg, ds, ak, ys, tr), (by rw [p_st_23 e, ht, nI_clamp (show t < 2 ^ 31 by omega)]), ⟨ht2, by rw [ht3]; trivial, ⟨by omega, q4, h2, q6 (by omega), by omega, by unfold p_dc; rw [if_neg hs, e]; rfl, by rw [q5]; exact g3⟩, g4, g5, g6, g7, fun h => absurd h (hz (by omega) (by omega) (by omega)), g9, g10, g11, fun h => by rw [ht6] at h; cases h⟩, hS1 _ ?_⟩
      simp only [p_V, List.map_cons, List.sum_cons]
      rw [if_neg (show ¬ ((P pc).1 = 0 ∨ (P pc).1 = 1) by omega), if_pos e, if_neg ht5]
      have hcs : (if (P t).1 = 0 ∨ (P t).1 = 1 then 0 else p_acn P n t + 0) ≤ 125 := by split <;> omega
      omega
    · -- 24
      next e =>
      obtain ⟨h1, h2⟩ := hL
      rw [h1] at g2
      have := p_ty0 g2; subst this
      rw [if_pos (by omega)] at ha
      cases cs with
      | nil => have : sg pc = 4 := g3; omega
      | cons r rs =>
        obtain ⟨c1, c2, c3, c4, c5, c7, c6⟩ := g3
        refine Or.inl ⟨(r, [], rs, nm, cl, sp, bg, ds, ak, ys, tr), p_st_24 e, ⟨c2, by rw [c3]; trivial, c6, g4, g5, g6, g7, fun h => absurd h (hz (by omega) (by omega) (by omega)), g9, g10, g11, fun h => by rw [c7] at h; cases h⟩, hS1 _ ?_⟩
        simp only [p_V, List.map_cons, List.sum_cons]
        rw [if_neg (show ¬ ((P pc).1 = 0 ∨ (P pc).1 = 1) by omega), if_neg (show ¬ (P pc).1 = 23 by omega), if_neg c4]
        have hcs : (if (P r).1 = 0 ∨ (P r).1 = 1 then 0 else p_acn P n r + 0) ≤ p_acn P n r := by split <;> omega
        omega
    · -- 25
      next e =>
      exact Or.inr ⟨_, p_st_25 e, ⟨0, by decide, rfl⟩, Or.inl rfl, g4, g5, Nat.le_succ_of_le g6, g7, g10⟩
theorem p_meas1 {a b c n M : Nat} (h : a ≤ b) (hn : c < n) (h6 : n ≤ 600) (hM : b * 1000 + (600 - c) ≤ M + 1) : a * 1000 + (600 - (c + 1)) ≤ M := by
  have h1 := Nat.mul_le_mul_right 1000 h
  have k : ∀ x z : Nat, x ≤ z → z + (600 - c) ≤ M + 1 → x + (600 - (c + 1)) ≤ M := by intro x z; omega
  exact k _ _ h1 hM
theorem p_meas2 {a b c e n M : Nat} (h : a < b) (hn : c < n) (h6 : n ≤ 600) (hM : b * 1000 + (600 - c) ≤ M + 1) (he : e < n) : a * 1000 + (600 - e) ≤ M := by
  have h1 := Nat.mul_le_mul_right 1000 (Nat.succ_le_of_lt h)
  rw [Nat.succ_mul] at h1
  have k : ∀ x z : Nat, x + 1000 ≤ z → z + (600 - c) ≤ M + 1 → x + (600 - e) ≤ M := by intro x z; omega
  exact k _ _ h1 hM
theorem p_meas0 {b c n : Nat} (hn : c < n) (h6 : n ≤ 600) (hM : b * 1000 + (600 - c) ≤ 0) : False := by omega
theorem p_run_ends {P : Nat → Nat × Int32} {n st0 : Nat} {ty : Nat → List Bool} {sg : Nat → Nat} {B F : Nat} {g : Int32} {an : Nat → Int32} (hW : p_WF P n st0 ty sg) (hB : B ≤ 6) (hg : g = nI (2 ^ B - 1)) (han : ∀ k, rg B (an k)) :
    ∀ (M : Nat) (S : PS), p_good P n ty sg B F S → p_V P n S * 1000 + (600 - S.1) ≤ M → ∃ N E, p_run P g F an N S = some E ∧ p_end B F E := by
  intro M
  induction M with
  | zero =>
    intro S hG hM
    rcases p_step_good hW hB hg han hG with ⟨S', h1, h2, h3⟩ | ⟨E, h1, h2⟩
    · exact (p_meas0 (show S.1 < n from hG.1) hW.1 hM).elim
    · exact ⟨1, E, by simp [p_run, h1], h2⟩
  | succ M ih =>
    intro S hG hM
    rcases p_step_good hW hB hg han hG with ⟨S', h1, h2, h3⟩ | ⟨E, h1, h2⟩
    · have hn : S.1 < n := hG.1
      have h6 := hW.1
      obtain ⟨N, E, e1, e2⟩ := ih S' h2 (by
        split at h3
        · rw [h3.1]; exact p_meas1 h3.2 hn h6 hM
        · exact p_meas2 h3 hn h6 hM (show S'.1 < n from h2.1))
      exact ⟨N + 1, E, by simp only [p_run, h1]; exact e1, e2⟩
    · exact ⟨1, E, by simp [p_run, h1], h2⟩
/-- one more turn does no harm -/
theorem p_run_more {P : Nat → Nat × Int32} {g : Int32} {F : Nat} {an : Nat → Int32} : ∀ {N : Nat} {S : PS} {E : PE}, p_run P g F an N S = some E → ∀ k, p_run P g F an (N + k) S = some E
  | 0, S, E, h, k => by cases h
  | N + 1, S, E, h, k => by
    rw [show N + 1 + k = (N + k) + 1 by omega]
    unfold p_run at h ⊢
    split at h
    · exact p_run_more h k
    · exact h
theorem p_run_one {P : Nat → Nat × Int32} {g : Int32} {F : Nat} {an : Nat → Int32} {N M : Nat} {S : PS} {E E' : PE} (h : p_run P g F an N S = some E) (h' : p_run P g F an M S = some E') : E = E' := by
  have a := p_run_more h M
  have b := p_run_more h' N
  rw [Nat.add_comm] at b
  rw [a] at b
  exact Option.some.inj b
