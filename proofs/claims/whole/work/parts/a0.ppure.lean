/-! PART a0: parts of all rows, by digits to the base 3; the least proof -/
def dg (p j : Nat) : Nat := p / 3 ^ j % 3
theorem dg_lt (p j : Nat) : dg p j < 3 := Nat.mod_lt _ (by decide)
theorem dg_le {p j a : Nat} (h : a ≤ dg p j) : a * 3 ^ j ≤ p := by
  have h1 : dg p j ≤ p / 3 ^ j := Nat.mod_le _ _
  exact Nat.le_trans (Nat.mul_le_mul_right _ (Nat.le_trans h h1)) (Nat.div_mul_le_self _ _)
theorem p3 (j : Nat) : 0 < 3 ^ j := Nat.pow_pos (by decide)
theorem dg_self {p j a : Nat} (h : a ≤ dg p j) : dg (p - a * 3 ^ j) j = dg p j - a := by
  unfold dg at h ⊢
  rw [Nat.mul_comm, Nat.sub_mul_div]
  generalize p / 3 ^ j = x at *
  omega
theorem dg_lo {p i j : Nat} (hij : i < j) : dg p i = dg (p % 3 ^ j) i := by
  unfold dg
  rw [← Nat.mod_mul_right_div_self, ← Nat.mod_mul_right_div_self, ← Nat.pow_succ, Nat.mod_mod_of_dvd _ (Nat.pow_dvd_pow 3 hij)]
theorem dg_hi {p i j : Nat} (hij : j < i) : dg p i = p / 3 ^ j / 3 / 3 ^ (i - (j + 1)) % 3 := by
  unfold dg
  have e : 3 ^ i = 3 ^ j * 3 * 3 ^ (i - (j + 1)) := by rw [← Nat.pow_succ, ← Nat.pow_add, show j + 1 + (i - (j + 1)) = i by omega]
  rw [e, ← Nat.div_div_eq_div_mul, ← Nat.div_div_eq_div_mul]
theorem dg_other {p i j a : Nat} (h : a ≤ dg p j) (hij : i ≠ j) : dg (p - a * 3 ^ j) i = dg p i := by
  have hle := dg_le h
  rcases Nat.lt_or_ge i j with g | g
  · rw [dg_lo g, dg_lo (p := p) g, Nat.mul_comm a, Nat.sub_mul_mod (by rw [Nat.mul_comm]; exact hle)]
  · have g : j < i := by omega
    rw [dg_hi g, dg_hi (p := p) g, Nat.mul_comm a, Nat.sub_mul_div]
    unfold dg at h
    have e : (p / 3 ^ j - a) / 3 = p / 3 ^ j / 3 := by
      clear hle
      generalize p / 3 ^ j = x at *
      omega
    rw [e]
/-- the halves of a part -/
def h0 (p j : Nat) : Nat := p - 2 * 3 ^ j
def h1 (p j : Nat) : Nat := p - 3 ^ j
theorem h1_e (p j : Nat) : h1 p j = p - 1 * 3 ^ j := by unfold h1; rw [Nat.one_mul]
theorem h0_lt {p j : Nat} (h : dg p j = 2) : h0 p j < p := by
  have := dg_le (a := 2) (Nat.le_of_eq h.symm)
  have := p3 j
  unfold h0; omega
theorem h1_lt {p j : Nat} (h : dg p j = 2) : h1 p j < p := by
  have := dg_le (a := 1) (p := p) (j := j) (by omega)
  have := p3 j
  rw [h1_e]; omega
/-- how many digits are 2 -/
def fcn (p : Nat) : Nat → Nat
  | 0 => 0
  | j + 1 => fcn p j + (if dg p j = 2 then 1 else 0)
theorem fcn_le (p : Nat) : ∀ n, fcn p n ≤ n
  | 0 => Nat.le_refl _
  | n + 1 => by
    have := fcn_le p n
    rw [fcn]; split <;> omega
theorem fcn_half {p q j : Nat} (h : dg p j = 2) (hq : dg q j ≠ 2) (ho : ∀ i, i ≠ j → dg q i = dg p i) : ∀ n, fcn q n + (if j < n then 1 else 0) = fcn p n
  | 0 => rfl
  | n + 1 => by
    have ih := fcn_half h hq ho n
    rw [fcn, fcn]
    by_cases g : n = j
    · subst g
      rw [if_neg (Nat.lt_irrefl _)] at ih
      rw [if_neg hq, if_pos h, if_pos (Nat.lt_succ_self _)]; omega
    · rw [ho n g]
      by_cases g2 : j < n
      · rw [if_pos g2] at ih
        rw [if_pos (show j < n + 1 by omega)]; omega
      · rw [if_neg g2] at ih
        rw [if_neg (show ¬ j < n + 1 by omega)]; omega
theorem fcn_h0 {p j n : Nat} (h : dg p j = 2) (hj : j < n) : fcn (h0 p j) n + 1 = fcn p n := by
  have := fcn_half (q := h0 p j) h (by unfold h0; rw [dg_self (Nat.le_of_eq h.symm), h]; decide) (fun i hi => dg_other (Nat.le_of_eq h.symm) hi) n
  rwa [if_pos hj] at this
theorem fcn_h1 {p j n : Nat} (h : dg p j = 2) (hj : j < n) : fcn (h1 p j) n + 1 = fcn p n := by
  have := fcn_half (q := h1 p j) h (by rw [h1_e, dg_self (by omega), h]; decide) (fun i hi => by rw [h1_e]; exact dg_other (by omega) hi) n
  rwa [if_pos hj] at this
/-- a function by what it is below -/
theorem rec_ex {α : Type} (a0 : α) (G : Nat → (Nat → α) → α) (hG : ∀ p f g, (∀ q, q < p → f q = g q) → G p f = G p g) : ∃ f : Nat → α, ∀ p, f p = G p f := by
  let FF : Nat → Nat → α := fun k => Nat.rec (fun _ => a0) (fun _ f p => G p f) k
  have step : ∀ k p, FF (k + 1) p = G p (FF k) := fun _ _ => rfl
  have st : ∀ p k, p < k → FF k p = FF (p + 1) p := by
    intro p
    induction p using Nat.strongRecOn with
    | ind p ih =>
      intro k hk
      obtain ⟨m, rfl⟩ : ∃ m, k = m + 1 := ⟨k - 1, by omega⟩
      rw [step, step]
      refine hG p _ _ (fun q hq => ?_)
      rw [ih q hq m (by omega), ih q hq p hq]
  refine ⟨fun p => FF (p + 1) p, fun p => ?_⟩
  show FF (p + 1) p = _
  rw [step]
  exact hG p _ _ (fun q hq => st q p hq)
/-- the lowest digit 2 from j on, or where it ends -/
def fre (p : Nat) : Nat → Nat → Nat
  | 0, j => j
  | m + 1, j => if dg p j = 2 then j else fre p m (j + 1)
theorem fre_sp (p : Nat) : ∀ m j, j ≤ fre p m j ∧ fre p m j ≤ j + m ∧ (fre p m j < j + m → dg p (fre p m j) = 2) ∧ ∀ i, j ≤ i → i < fre p m j → dg p i ≠ 2
  | 0, j => ⟨Nat.le_refl _, Nat.le_refl _, fun h => absurd h (Nat.lt_irrefl _), fun i h1 h2 => absurd h1 (Nat.not_le.mpr h2)⟩
  | m + 1, j => by
    rw [fre]
    by_cases g : dg p j = 2
    · rw [if_pos g]
      exact ⟨Nat.le_refl _, by omega, fun _ => g, fun i h1 h2 => by omega⟩
    · rw [if_neg g]
      obtain ⟨a, b, c, e⟩ := fre_sp p m (j + 1)
      refine ⟨by omega, by omega, fun h => c (by omega), fun i h1 h2 => ?_⟩
      by_cases q : i = j
      · subst q; exact g
      · exact e i (by omega) h2
/-- the row of a part without digits 2 -/
def rowF (p : Nat) : Nat → Nat
  | 0 => 0
  | j + 1 => if dg p j = 1 then rowF p j + 2 ^ j else rowF p j
theorem rowF_lt (p : Nat) : ∀ j, rowF p j < 2 ^ j
  | 0 => Nat.one_pos
  | j + 1 => by
    have := rowF_lt p j
    rw [rowF, Nat.pow_succ]
    split <;> omega
theorem rowF_or (p j : Nat) : rowF p j ||| 2 ^ j = rowF p j + 2 ^ j := by
  have := Nat.two_pow_add_eq_or_of_lt (rowF_lt p j) 1
  rw [Nat.mul_one] at this
  rw [Nat.or_comm, ← this, Nat.add_comm]
/-- which tests hold for no row of a part -/
def nnG (n : Nat) (H : Nat → Nat) (p : Nat) (f : Nat → Nat) : Nat := if fre p n 0 < n then f (h0 p (fre p n 0)) &&& f (h1 p (fre p n 0)) else H (rowF p n)
def isNN (n : Nat) (H : Nat → Nat) (f : Nat → Nat) : Prop := ∀ p, f p = nnG n H p f
theorem nn_ex (n : Nat) (H : Nat → Nat) : ∃ f, isNN n H f := rec_ex 0 (nnG n H) (fun p f g h => by
  unfold nnG
  split
  · next q =>
    have h2 := (fre_sp p n 0).2.2.1 (by omega)
    rw [h _ (h0_lt h2), h _ (h1_lt h2)]
  · rfl)
theorem nn_lt {n k : Nat} {H f : Nat → Nat} (hH : ∀ r, H r < 2 ^ k) (hf : isNN n H f) : ∀ p, f p < 2 ^ k := by
  intro p
  induction p using Nat.strongRecOn with
  | ind p ih =>
    rw [hf p]
    unfold nnG
    split
    · next q =>
      have h2 := (fre_sp p n 0).2.2.1 (by omega)
      exact Nat.lt_of_le_of_lt Nat.and_le_left (ih _ (h0_lt h2))
    · exact hH _
/-- how few leaves, and by which digit it is parted: the loop -/
def lvL (f : Nat → Nat × Nat) (p : Nat) : Nat → Nat → Nat × Nat → Nat × Nat
  | 0, _, a => a
  | m + 1, j, a => lvL f p m (j + 1) (if dg p j = 2 then (if (f (h0 p j)).1 + (f (h1 p j)).1 < a.1 then ((f (h0 p j)).1 + (f (h1 p j)).1, j) else a) else a)
theorem lvL_c {f g : Nat → Nat × Nat} {p : Nat} (h : ∀ q, q < p → f q = g q) : ∀ m j a, lvL f p m j a = lvL g p m j a
  | 0, _, _ => rfl
  | m + 1, j, a => by
    rw [lvL, lvL]
    by_cases q : dg p j = 2
    · rw [if_pos q, if_pos q, h _ (h0_lt q), h _ (h1_lt q)]; exact lvL_c h m _ _
    · rw [if_neg q, if_neg q]; exact lvL_c h m _ _
def lvG (n W : Nat) (N : Nat → Nat) (p : Nat) (f : Nat → Nat × Nat) : Nat × Nat := if N p ≠ 0 then (1, 0) else lvL f p n 0 (W, 99)
def isLV (n W : Nat) (N : Nat → Nat) (f : Nat → Nat × Nat) : Prop := ∀ p, f p = lvG n W N p f
theorem lv_ex (n W : Nat) (N : Nat → Nat) : ∃ f, isLV n W N f := rec_ex (0, 0) (lvG n W N) (fun p f g h => by
  unfold lvG
  split
  · rfl
  · exact lvL_c h n 0 _)
/-- two readings of one table: with another number where there is no proof -/
def lvP (n A B : Nat) (N : Nat → Nat) (f g : Nat → Nat × Nat) (p : Nat) : Prop :=
  (f p = (A, 99) ∧ g p = (B, 99) ∧ N p = 0) ∨ (f p = g p ∧ 1 ≤ (f p).1 ∧ (f p).1 ≤ 2 ^ fcn p n ∧ (f p).2 < 99 ∧ (N p = 0 → (f p).2 < n ∧ dg p (f p).2 = 2 ∧ (f (h0 p (f p).2)).1 < A ∧ (f (h1 p (f p).2)).1 < A))
theorem two_fc {p n : Nat} (hn : n ≤ 8) : 2 ^ fcn p n ≤ 256 := Nat.le_trans (Nat.pow_le_pow_right (by decide) (Nat.le_trans (fcn_le p n) hn)) (show 2 ^ 8 ≤ 256 by decide)
theorem lv_two {n A B : Nat} {N : Nat → Nat} {f g : Nat → Nat × Nat} (hn : n ≤ 8) (hA : 1000 ≤ A) (hB : 1000 ≤ B) (hf : isLV n A N f) (hg : isLV n B N g) : ∀ p, lvP n A B N f g p := by
  intro p
  induction p using Nat.strongRecOn with
  | ind p ih =>
    have ef := hf p
    have eg := hg p
    unfold lvG at ef eg
    by_cases q : N p ≠ 0
    · rw [if_pos q] at ef eg
      have := Nat.two_pow_pos (fcn p n)
      exact Or.inr ⟨ef.trans eg.symm, by rw [ef]; exact Nat.le_refl _, by rw [ef]; exact this, by rw [ef]; decide, fun h => absurd h q⟩
    · rw [if_neg q] at ef eg
      have q := Classical.not_not.mp q
      have loop : ∀ m j a b, j + m = n → ((a = (A, 99) ∧ b = (B, 99)) ∨ (a = b ∧ 1 ≤ a.1 ∧ a.1 ≤ 2 ^ fcn p n ∧ a.2 < n ∧ dg p a.2 = 2 ∧ (f (h0 p a.2)).1 < A ∧ (f (h1 p a.2)).1 < A)) →
          ((lvL f p m j a = (A, 99) ∧ lvL g p m j b = (B, 99)) ∨ (lvL f p m j a = lvL g p m j b ∧ 1 ≤ (lvL f p m j a).1 ∧ (lvL f p m j a).1 ≤ 2 ^ fcn p n ∧ (lvL f p m j a).2 < n ∧ dg p (lvL f p m j a).2 = 2 ∧ (f (h0 p (lvL f p m j a).2)).1 < A ∧ (f (h1 p (lvL f p m j a).2)).1 < A)) := by
        intro m
        induction m with
        | zero => intro j a b e h; exact h
        | succ m ihm =>
          intro j a b e h
          rw [lvL, lvL]
          refine ihm (j + 1) _ _ (by omega) ?_
          by_cases d2 : dg p j = 2
          · rw [if_pos d2, if_pos d2]
            have c0 := fcn_h0 (n := n) d2 (by omega)
            have c1 := fcn_h1 (n := n) d2 (by omega)
            have t0 := two_fc (p := h0 p j) hn
            have t1 := two_fc (p := h1 p j) hn
            have tp := two_fc (p := p) hn
            have e0 : 2 ^ fcn p n = 2 * 2 ^ fcn (h0 p j) n := by rw [← c0, Nat.pow_succ, Nat.mul_comm]
            have e1 : 2 ^ fcn (h1 p j) n = 2 ^ fcn (h0 p j) n := by rw [show fcn (h1 p j) n = fcn (h0 p j) n by omega]
            rcases ih _ (h0_lt d2) with ⟨x1, x2, -⟩ | ⟨x1, x2, x3, -, -⟩ <;> rcases ih _ (h1_lt d2) with ⟨y1, y2, -⟩ | ⟨y1, y2, y3, -, -⟩
            · -- neither
              rw [x1, x2, y1, y2]
              have na : ¬ (A + A < a.1) := by
                rcases h with ⟨z, -⟩ | ⟨-, -, z, -⟩
                · rw [z]; show ¬ A + A < A; omega
                · omega
              have nb : ¬ (B + B < b.1) := by
                rcases h with ⟨-, z⟩ | ⟨z1, -, z, -⟩
                · rw [z]; show ¬ B + B < B; omega
                · rw [← z1]; omega
              show (((if A + A < a.1 then (A + A, j) else a) = (A, 99) ∧ (if B + B < b.1 then (B + B, j) else b) = (B, 99)) ∨ _)
              rw [if_neg na, if_neg nb]; exact h
            · rw [x1, x2]
              have na : ¬ (A + (f (h1 p j)).1 < a.1) := by
                rcases h with ⟨z, -⟩ | ⟨-, -, z, -⟩
                · rw [z]; show ¬ _ < A; omega
                · omega
              have nb : ¬ (B + (g (h1 p j)).1 < b.1) := by
                rcases h with ⟨-, z⟩ | ⟨z1, -, z, -⟩
                · rw [z]; show ¬ _ < B; omega
                · rw [← z1]; omega
              show (((if A + (f (h1 p j)).1 < a.1 then (A + (f (h1 p j)).1, j) else a) = (A, 99) ∧ (if B + (g (h1 p j)).1 < b.1 then (B + (g (h1 p j)).1, j) else b) = (B, 99)) ∨ _)
              rw [if_neg na, if_neg nb]; exact h
            · rw [y1, y2]
              have na : ¬ ((f (h0 p j)).1 + A < a.1) := by
                rcases h with ⟨z, -⟩ | ⟨-, -, z, -⟩
                · rw [z]; show ¬ _ < A; omega
                · omega
              have nb : ¬ ((g (h0 p j)).1 + B < b.1) := by
                rcases h with ⟨-, z⟩ | ⟨z1, -, z, -⟩
                · rw [z]; show ¬ _ < B; omega
                · rw [← z1]; omega
              show (((if (f (h0 p j)).1 + A < a.1 then ((f (h0 p j)).1 + A, j) else a) = (A, 99) ∧ (if (g (h0 p j)).1 + B < b.1 then ((g (h0 p j)).1 + B, j) else b) = (B, 99)) ∨ _)
              rw [if_neg na, if_neg nb]; exact h
            · rw [← x1, ← y1]
              have s1 : 1 ≤ (f (h0 p j)).1 + (f (h1 p j)).1 := by omega
              have s2 : (f (h0 p j)).1 + (f (h1 p j)).1 ≤ 2 ^ fcn p n := by omega
              have fa : (f (h0 p j)).1 < A := by omega
              have fb : (f (h1 p j)).1 < A := by omega
              rcases h with ⟨z, z'⟩ | z
              · rw [z, z']
                show (_ ∨ (_ ∧ _))
                rw [if_pos (show (f (h0 p j)).1 + (f (h1 p j)).1 < A by omega), if_pos (show (f (h0 p j)).1 + (f (h1 p j)).1 < B by omega)]
                exact Or.inr ⟨rfl, s1, s2, by show j < n; omega, d2, fa, fb⟩
              · rw [← z.1]
                by_cases w : (f (h0 p j)).1 + (f (h1 p j)).1 < a.1
                · rw [if_pos w]
                  exact Or.inr ⟨rfl, s1, s2, by show j < n; omega, d2, fa, fb⟩
                · rw [if_neg w]
                  exact Or.inr ⟨rfl, z.2⟩
          · rw [if_neg d2, if_neg d2]; exact h
      rcases loop n 0 (A, 99) (B, 99) (Nat.zero_add n) (Or.inl ⟨rfl, rfl⟩) with ⟨x, y⟩ | ⟨x, x1, x2, x3, x4, x5, x6⟩
      · exact Or.inl ⟨ef.trans x, eg.trans y, q⟩
      · rw [← ef] at x x1 x2 x3 x4 x5 x6
        rw [← eg] at x
        exact Or.inr ⟨x, x1, x2, by omega, fun _ => ⟨x3, x4, x5, x6⟩⟩
