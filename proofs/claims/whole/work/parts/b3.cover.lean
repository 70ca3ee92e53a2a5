/-! PART b3: covers: what the class tries, and what is found -/
theorem leastN {P : Nat → Prop} : ∀ n, P n → ∃ m, P m ∧ ∀ k, P k → m ≤ k := by
  intro n
  induction n using Nat.strongRecOn with
  | ind n ih =>
    intro h
    by_cases g : ∃ k, k < n ∧ P k
    · obtain ⟨k, a, b⟩ := g
      exact ih k a b
    · exact ⟨n, h, fun k hk => Nat.le_of_not_lt fun q => g ⟨k, q, hk⟩⟩
def isC (E : Nat → PE) (r : Nat) : Prop := bsW E r ≠ 0 ∧ ∀ q, q < r → keyN (E q) ≠ keyN (E r)
def CDs (E : Nat → PE) (R n : Nat) (c : Nat → Nat) : Prop := (∀ i, i < n → c i < R ∧ isC E (c i)) ∧ (∀ i j, i < j → j < n → c i < c j) ∧ ∀ r, r < R → isC E r → ∃ i, i < n ∧ c i = r
def oneC (E : Nat → PE) (R r : Nat) : Prop := eE (E r) ≠ 4 ∧ setL (eT (E r)) = allB E R
theorem CDs.no {E : Nat → PE} {r n : Nat} {c : Nat → Nat} (h : CDs E r n c) (g : ¬ isC E r) : CDs E (r + 1) n c :=
  ⟨fun i hi => ⟨Nat.lt_succ_of_lt (h.1 i hi).1, (h.1 i hi).2⟩, h.2.1, fun q hq hc => by
    by_cases e : q = r
    · subst e; exact absurd hc g
    · exact h.2.2 q (by omega) hc⟩
theorem CDs.yes {E : Nat → PE} {r n : Nat} {c : Nat → Nat} (h : CDs E r n c) (g : isC E r) : CDs E (r + 1) (n + 1) (va_up c n r) := by
  refine ⟨fun i hi => ?_, fun i j hij hj => ?_, fun q hq hc => ?_⟩
  · by_cases e : i = n
    · subst e; rw [up_s]; exact ⟨by omega, g⟩
    · rw [up_n _ _ e]; obtain ⟨a, b⟩ := h.1 i (by omega); exact ⟨by omega, b⟩
  · rw [up_n _ _ (show i ≠ n by omega)]
    by_cases e : j = n
    · subst e; rw [up_s]; exact (h.1 i (by omega)).1
    · rw [up_n _ _ e]; exact h.2.1 i j hij (by omega)
  · by_cases e : q = r
    · subst e; exact ⟨n, by omega, up_s _ _ _⟩
    · obtain ⟨i, a, b⟩ := h.2.2 q (by omega) hc
      exact ⟨i, by omega, by rw [up_n _ _ (show i ≠ n by omega)]; exact b⟩
theorem bs_one {E : Nat → PE} {R r : Nat} (h : allB E R ≠ 0) : bsW E r = allB E R ↔ oneC E R r := by
  unfold bsW oneC
  by_cases q : eE (E r) = 4
  · rw [if_pos q]; exact ⟨fun e => absurd e.symm h, fun e => absurd q e.1⟩
  · rw [if_neg q]; exact ⟨fun e => ⟨q, e⟩, fun e => e.2⟩
theorem WE.bs {B F cs : Nat} {E : Nat → PE} (hF : F ≤ 40) (h : WE B F cs E) {a b : Nat} (hk : keyN (E a) = keyN (E b)) : bsW E a = bsW E b := by
  unfold bsW
  rw [(h.same hF hk).2, h.set hF hk]
theorem isC_least {B F cs : Nat} {E : Nat → PE} (hF : F ≤ 40) (h : WE B F cs E) {r : Nat} (hb : bsW E r ≠ 0) : ∃ q, q ≤ r ∧ isC E q ∧ bsW E q = bsW E r := by
  obtain ⟨q, a, b⟩ := leastN (P := fun q => keyN (E q) = keyN (E r)) r rfl
  have e := h.bs hF a
  refine ⟨q, b r rfl, ⟨by rw [e]; exact hb, fun p hp x => ?_⟩, e⟩
  have := b p (x.trans a)
  omega
theorem bs_sub (E : Nat → PE) {r : Nat} : ∀ R, r < R → bsW E r ||| allB E R = allB E R
  | 0, h => absurd h (Nat.not_lt_zero r)
  | R + 1, h => by
    by_cases e : r = R
    · subst e
      rw [allB, bsW]
      by_cases q : eE (E r) = 4
      · rw [if_pos q, if_pos q, or_cm, or_z]
      · rw [if_neg q, if_neg q]
        refine lb_ext (fun v _ => ?_)
        rw [lb_or, lb_or]
        cases lb (setL (eT (E r))) v <;> cases lb (allB E r) v <;> rfl
    · have ih := bs_sub E R (show r < R by omega)
      rw [allB]
      by_cases q : eE (E R) = 4
      · rw [if_pos q]; exact ih
      · rw [if_neg q]
        refine lb_ext (fun v _ => ?_)
        have ihv : lb (bsW E r ||| allB E R) v = lb (allB E R) v := by rw [ih]
        rw [lb_or] at ihv
        rw [lb_or, lb_or]
        revert ihv
        cases lb (setL (eT (E R))) v <;> cases lb (allB E R) v <;> cases lb (bsW E r) v <;> intro ihv <;> first | rfl | exact absurd ihv (by decide)
theorem pair_eq {a b c : Int64} (ha : a ||| c = c) (hb : b ||| c = c) : (c &&& (a ^^^ (-1))) &&& (b ^^^ (-1)) = 0 ↔ a ||| b = c := by
  have hav : ∀ v, (lb a v || lb c v) = lb c v := fun v => by rw [← lb_or, ha]
  have hbv : ∀ v, (lb b v || lb c v) = lb c v := fun v => by rw [← lb_or, hb]
  constructor
  · intro h
    refine lb_ext (fun v hv => ?_)
    have hz : ((lb c v && !lb a v) && !lb b v) = false := by rw [← lb_not hv, ← lb_not hv, ← lb_and, ← lb_and, h, lb_0]
    have x := hav v
    have y := hbv v
    rw [lb_or]
    revert hz x y
    cases lb a v <;> cases lb b v <;> cases lb c v <;> intro hz x y <;> first | rfl | exact absurd x (by decide) | exact absurd y (by decide) | exact absurd hz (by decide)
  · intro h
    refine lb_ext (fun v hv => ?_)
    have hz : (lb a v || lb b v) = lb c v := by rw [← lb_or, h]
    rw [lb_and, lb_and, lb_not hv, lb_not hv, lb_0, ← hz]
    cases lb a v <;> cases lb b v <;> rfl
theorem CPr.bs {E : Nat → PE} {R v w : Nat} (h0 : allB E R ≠ 0) : CPr E R v w → v < w ∧ w < R ∧ bsW E v ||| bsW E w = allB E R := by
  rintro ⟨a, b, c, e, f⟩
  refine ⟨a, b, ?_⟩
  unfold bsW
  rw [if_neg c, if_neg e]; exact f
theorem CPr.of {E : Nat → PE} {R v w : Nat} (a : v < w) (b : w < R) (c : bsW E v ≠ 0) (e : bsW E w ≠ 0) (f : bsW E v ||| bsW E w = allB E R) : CPr E R v w := by
  have g1 : eE (E v) ≠ 4 := fun z => c (by unfold bsW; rw [if_pos z])
  have g2 : eE (E w) ≠ 4 := fun z => e (by unfold bsW; rw [if_pos z])
  refine ⟨a, b, g1, g2, ?_⟩
  unfold bsW at f
  rw [if_neg g1, if_neg g2] at f; exact f
def CPf (E : Nat → PE) (R v w : Nat) : Prop := CPr E R v w ∧ ∀ v' w', CPr E R v' w' → v < v' ∨ (v = v' ∧ w ≤ w')
theorem CPr.ex {E : Nat → PE} {R v w : Nat} (h : CPr E R v w) : ∃ v0 w0, CPf E R v0 w0 := by
  obtain ⟨v0, ⟨w1, h1⟩, h2⟩ := leastN (P := fun v => ∃ w, CPr E R v w) v ⟨w, h⟩
  obtain ⟨w0, h3, h4⟩ := leastN (P := fun w => CPr E R v0 w) w1 h1
  refine ⟨v0, w0, h3, fun v' w' g => ?_⟩
  have a := h2 v' ⟨w', g⟩
  by_cases e : v0 = v'
  · subst e; exact Or.inr ⟨rfl, h4 w' g⟩
  · exact Or.inl (by omega)
/-- the first pair is one of what the class tries -/
theorem CPf.cand {B F cs R n : Nat} {E : Nat → PE} {c : Nat → Nat} (hF : F ≤ 40) (hE : WE B F cs E) (hC : CDs E R n c) (no : ∀ r, r < R → ¬ oneC E R r) {v w : Nat} (h : CPf E R v w) : ∃ i j, i < j ∧ j < n ∧ c i = v ∧ c j = w := by
  obtain ⟨a1, a2, a3, a4⟩ := cover_least hF hE (fun r hr x y => no r hr ⟨x, y⟩) h.1 h.2
  obtain ⟨b1, b2, b3, b4, b5⟩ := h.1
  obtain ⟨i, hi, ei⟩ := hC.2.2 v (by omega) ⟨by unfold bsW; rw [if_neg b3]; exact a3, a1⟩
  obtain ⟨j, hj, ej⟩ := hC.2.2 w b2 ⟨by unfold bsW; rw [if_neg b4]; exact a4, a2⟩
  refine ⟨i, j, ?_, hj, ei, ej⟩
  rcases Nat.lt_trichotomy i j with g | g | g
  · exact g
  · subst g; omega
  · have := hC.2.1 j i g hi; omega
theorem CPf.of {B F cs R n : Nat} {E : Nat → PE} {c : Nat → Nat} (hF : F ≤ 40) (hE : WE B F cs E) (h0 : allB E R ≠ 0) (hC : CDs E R n c) (no : ∀ r, r < R → ¬ oneC E R r) {i j : Nat} (hij : i < j) (hj : j < n) (hp : bsW E (c i) ||| bsW E (c j) = allB E R)
    (first : ∀ i' j', i' < j' → j' < n → bsW E (c i') ||| bsW E (c j') = allB E R → i < i' ∨ (i = i' ∧ j ≤ j')) : CPf E R (c i) (c j) := by
  have hc : CPr E R (c i) (c j) := CPr.of (hC.2.1 i j hij hj) (hC.1 j hj).1 (hC.1 i (by omega)).2.1 (hC.1 j hj).2.1 hp
  refine ⟨hc, fun v' w' g => ?_⟩
  obtain ⟨v0, w0, k⟩ := g.ex
  obtain ⟨i0, j0, x1, x2, x3, x4⟩ := k.cand hF hE hC no
  have p0 := (k.1.bs h0).2.2
  rw [← x3, ← x4] at p0
  have f := first i0 j0 x1 x2 p0
  have s := k.2 v' w' g
  have m1 : i < i0 → c i < v0 := fun q => by rw [← x3]; exact hC.2.1 i i0 q (by omega)
  have m2 : j < j0 → c j < w0 := fun q => by rw [← x4]; exact hC.2.1 j j0 q x2
  rcases f with f | ⟨f1, f2⟩
  · have := m1 f
    omega
  · subst f1
    by_cases e : j = j0
    · subst e; omega
    · have := m2 (by omega)
      omega
theorem CPf.none {B F cs R n : Nat} {E : Nat → PE} {c : Nat → Nat} (hF : F ≤ 40) (hE : WE B F cs E) (h0 : allB E R ≠ 0) (hC : CDs E R n c) (no : ∀ r, r < R → ¬ oneC E R r) (h : ∀ i j, i < j → j < n → bsW E (c i) ||| bsW E (c j) ≠ allB E R) : ∀ v w, ¬ CPr E R v w := fun v w g => by
  obtain ⟨v0, w0, k⟩ := g.ex
  obtain ⟨i0, j0, x1, x2, x3, x4⟩ := k.cand hF hE hC no
  have p0 := (k.1.bs h0).2.2
  rw [← x3, ← x4] at p0
  exact h i0 j0 x1 x2 p0
theorem CPf.u {E : Nat → PE} {R v w v' w' : Nat} (h : CPf E R v w) (h' : CPf E R v' w') : v = v' ∧ w = w' := by
  have a := h.2 v' w' h'.1
  have b := h'.2 v w h.1
  omega
def Onf (E : Nat → PE) (R v : Nat) : Prop := v < R ∧ oneC E R v ∧ ∀ r, r < v → ¬ oneC E R r
theorem Onf.u {E : Nat → PE} {R v v' : Nat} (h : Onf E R v) (h' : Onf E R v') : v = v' := by
  rcases Nat.lt_trichotomy v v' with g | g | g
  · exact absurd h.2.1 (h'.2.2 v g)
  · exact g
  · exact absurd h'.2.1 (h.2.2 v' g)
theorem one_cand {B F cs R n r : Nat} {E : Nat → PE} {c : Nat → Nat} (hF : F ≤ 40) (hE : WE B F cs E) (h0 : allB E R ≠ 0) (hC : CDs E R n c) (hr : r < R) (h : oneC E R r) : ∃ i, i < n ∧ c i ≤ r ∧ bsW E (c i) = allB E R := by
  have e := (bs_one h0).mpr h
  obtain ⟨q, a, b, d⟩ := isC_least hF hE (show bsW E r ≠ 0 by rw [e]; exact h0)
  obtain ⟨i, hi, ei⟩ := hC.2.2 q (by omega) b
  exact ⟨i, hi, by omega, by rw [ei, d]; exact e⟩
theorem Onf.of {B F cs R n i : Nat} {E : Nat → PE} {c : Nat → Nat} (hF : F ≤ 40) (hE : WE B F cs E) (h0 : allB E R ≠ 0) (hC : CDs E R n c) (hi : i < n) (h : bsW E (c i) = allB E R) (first : ∀ j, j < i → bsW E (c j) ≠ allB E R) : Onf E R (c i) := by
  refine ⟨(hC.1 i hi).1, (bs_one h0).mp h, fun r hr x => ?_⟩
  obtain ⟨j, hj, a, b⟩ := one_cand hF hE h0 hC (show r < R by have := (hC.1 i hi).1; omega) x
  have : ¬ j < i := fun z => first j z b
  by_cases e : j = i
  · subst e; omega
  · have := hC.2.1 i j (by omega) hj; omega
