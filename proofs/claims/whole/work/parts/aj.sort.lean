/-! PART aj: merging sorted stretches, as functions -/
def ltK (K : Nat → Nat) (x y : Nat) : Prop := K x < K y ∨ (K x = K y ∧ x < y)
theorem ltK.tr {K : Nat → Nat} {x y z : Nat} (a : ltK K x y) (b : ltK K y z) : ltK K x z := by
  unfold ltK at *; omega
/-- how many of a stretch have a value -/
def cnR (h : Nat → Nat) (k a : Nat) : Nat → Nat
  | 0 => 0
  | m + 1 => cnR h k a m + (if h (a + m) = k then 1 else 0)
theorem cnR_c {h h' : Nat → Nat} {k a : Nat} : ∀ m, (∀ i, i < m → h (a + i) = h' (a + i)) → cnR h k a m = cnR h' k a m
  | 0, _ => rfl
  | m + 1, e => by rw [cnR, cnR, cnR_c m (fun i hi => e i (by omega)), e m (by omega)]
theorem cnR_add {h : Nat → Nat} {k a m : Nat} : ∀ n, cnR h k a (m + n) = cnR h k a m + cnR h k (a + m) n
  | 0 => rfl
  | n + 1 => by rw [show m + (n + 1) = (m + n) + 1 by omega, cnR, cnR, cnR_add n, Nat.add_assoc a m n]; omega
theorem cnR_pos {h : Nat → Nat} {k a : Nat} : ∀ m, 0 < cnR h k a m → ∃ i, i < m ∧ h (a + i) = k
  | 0, p => absurd p (Nat.lt_irrefl _)
  | m + 1, p => by
    rw [cnR] at p
    by_cases g : h (a + m) = k
    · exact ⟨m, Nat.lt_succ_self _, g⟩
    · rw [if_neg g] at p
      obtain ⟨i, hi, e⟩ := cnR_pos m p
      exact ⟨i, by omega, e⟩
theorem cnR_mem {h : Nat → Nat} {k a i : Nat} : ∀ m, i < m → h (a + i) = k → 0 < cnR h k a m
  | 0, p, _ => absurd p (Nat.not_lt_zero _)
  | m + 1, p, e => by
    rw [cnR]
    by_cases g : i = m
    · subst g; rw [if_pos e]; omega
    · have := cnR_mem m (show i < m by omega) e; omega
theorem cntK_R (K : Nat → Nat) (k : Nat) : ∀ r, cntK K k r = cnR K k 0 r
  | 0 => rfl
  | r + 1 => by rw [cntK, cnR, cntK_R K k r, Nat.zero_add]
/-- a stretch is sorted: rows of the stretch, each once -/
def SG (K f : Nat → Nat) (a w : Nat) : Prop := (∀ i, i < w → a ≤ f (a + i) ∧ f (a + i) < a + w) ∧ (∀ i j, i < j → j < w → ltK K (f (a + i)) (f (a + j))) ∧ ∀ (h : Nat → Nat) k, cnR (fun x => h (f x)) k a w = cnR h k a w
theorem SG.one {K f : Nat → Nat} {a : Nat} (h : f a = a) : SG K f a 1 := by
  refine ⟨fun i hi => ?_, fun i j p q => by omega, fun g k => ?_⟩
  · have : i = 0 := by omega
    subst this
    rw [Nat.add_zero, h]; omega
  · rw [cnR, cnR, cnR, cnR, Nat.add_zero]
    show 0 + (if g (f a) = k then 1 else 0) = _
    rw [h]
theorem SG.c {K f f' : Nat → Nat} {a w : Nat} (h : SG K f a w) (e : ∀ i, i < w → f' (a + i) = f (a + i)) : SG K f' a w :=
  ⟨fun i hi => by rw [e i hi]; exact h.1 i hi, fun i j p q => by rw [e i (by omega), e j q]; exact h.2.1 i j p q, fun g k => (cnR_c w (fun i hi => by show g (f' (a + i)) = g (f (a + i)); rw [e i hi])).trans (h.2.2 g k)⟩
theorem SG.mem {K f : Nat → Nat} {a w x : Nat} (h : SG K f a w) (h1 : a ≤ x) (h2 : x < a + w) : ∃ i, i < w ∧ f (a + i) = x := by
  have := h.2.2 (fun y => y) x
  exact cnR_pos w (by rw [this]; exact cnR_mem (i := x - a) w (by omega) (by show a + (x - a) = x; omega))
/-- merging is under way: p of the left, q of the right are taken -/
def MG (K f g : Nat → Nat) (a w p q : Nat) : Prop := (∀ i, i < p + q → a ≤ g (a + i) ∧ g (a + i) < a + (w + w)) ∧ (∀ i j, i < j → j < p + q → ltK K (g (a + i)) (g (a + j))) ∧ (∀ i, i < p + q → (∀ j, p ≤ j → j < w → ltK K (g (a + i)) (f (a + j))) ∧ ∀ j, q ≤ j → j < w → ltK K (g (a + i)) (f (a + w + j))) ∧ ∀ (h : Nat → Nat) k, cnR (fun x => h (g x)) k a (p + q) = cnR (fun x => h (f x)) k a p + cnR (fun x => h (f x)) k (a + w) q
theorem MG.z {K f g : Nat → Nat} {a w : Nat} : MG K f g a w 0 0 := ⟨fun i h => by omega, fun i j p q => by omega, fun i h => by omega, fun h k => rfl⟩
theorem MG.stepL {K f g : Nat → Nat} {a w p q : Nat} (h : MG K f g a w p q) (hl : SG K f a w) (hr : SG K f (a + w) w) (hp : p < w) (hq : q < w → ltK K (f (a + p)) (f (a + w + q))) : MG K f (va_up g (a + (p + q)) (f (a + p))) a w (p + 1) q := by
  obtain ⟨h1, h2, h3, h4⟩ := h
  have ne : ∀ i, i < p + q → va_up g (a + (p + q)) (f (a + p)) (a + i) = g (a + i) := fun i hi => up_n _ _ (by omega)
  have new : va_up g (a + (p + q)) (f (a + p)) (a + (p + q)) = f (a + p) := up_s _ _ _
  refine ⟨fun i hi => ?_, fun i j hij hj => ?_, fun i hi => ?_, fun e k => ?_⟩
  · by_cases c : i = p + q
    · subst c; rw [new]; have := hl.1 p hp; omega
    · rw [ne i (by omega)]; exact h1 i (by omega)
  · by_cases c : j = p + q
    · subst c; rw [new, ne i hij]; exact (h3 i hij).1 p (Nat.le_refl _) hp
    · rw [ne i (by omega), ne j (by omega)]; exact h2 i j hij (by omega)
  · by_cases c : i = p + q
    · subst c
      rw [new]
      refine ⟨fun j a1 a2 => hl.2.1 p j a1 a2, fun j a1 a2 => ?_⟩
      have b := hq (by omega)
      by_cases g2 : j = q
      · subst g2; exact b
      · exact b.tr (hr.2.1 q j (by omega) a2)
    · rw [ne i (by omega)]
      exact ⟨fun j a1 a2 => (h3 i (by omega)).1 j (by omega) a2, (h3 i (by omega)).2⟩
  · rw [show p + 1 + q = (p + q) + 1 by omega, cnR, cnR]
    show cnR (fun x => e (va_up g (a + (p + q)) (f (a + p)) x)) k a (p + q) + (if e (va_up g (a + (p + q)) (f (a + p)) (a + (p + q))) = k then 1 else 0) = _
    rw [new, cnR_c (h' := fun x => e (g x)) (p + q) (fun i hi => by show e _ = e _; rw [ne i hi]), h4 e k]
    show _ + (if e (f (a + p)) = k then 1 else 0) = _
    omega
theorem MG.stepR {K f g : Nat → Nat} {a w p q : Nat} (h : MG K f g a w p q) (hl : SG K f a w) (hr : SG K f (a + w) w) (hq : q < w) (hp : p < w → ltK K (f (a + w + q)) (f (a + p))) : MG K f (va_up g (a + (p + q)) (f (a + w + q))) a w p (q + 1) := by
  obtain ⟨h1, h2, h3, h4⟩ := h
  have ne : ∀ i, i < p + q → va_up g (a + (p + q)) (f (a + w + q)) (a + i) = g (a + i) := fun i hi => up_n _ _ (by omega)
  have new : va_up g (a + (p + q)) (f (a + w + q)) (a + (p + q)) = f (a + w + q) := up_s _ _ _
  refine ⟨fun i hi => ?_, fun i j hij hj => ?_, fun i hi => ?_, fun e k => ?_⟩
  · by_cases c : i = p + q
    · subst c; rw [new]; have := hr.1 q hq; omega
    · rw [ne i (by omega)]; exact h1 i (by omega)
  · by_cases c : j = p + q
    · subst c; rw [new, ne i hij]; exact (h3 i hij).2 q (Nat.le_refl _) hq
    · rw [ne i (by omega), ne j (by omega)]; exact h2 i j hij (by omega)
  · by_cases c : i = p + q
    · subst c
      rw [new]
      refine ⟨fun j a1 a2 => ?_, fun j a1 a2 => hr.2.1 q j a1 a2⟩
      have b := hp (by omega)
      by_cases g2 : j = p
      · subst g2; exact b
      · exact b.tr (hl.2.1 p j (by omega) a2)
    · rw [ne i (by omega)]
      exact ⟨(h3 i (by omega)).1, fun j a1 a2 => (h3 i (by omega)).2 j (by omega) a2⟩
  · rw [show p + (q + 1) = (p + q) + 1 by omega, cnR, cnR]
    show cnR (fun x => e (va_up g (a + (p + q)) (f (a + w + q)) x)) k a (p + q) + (if e (va_up g (a + (p + q)) (f (a + w + q)) (a + (p + q))) = k then 1 else 0) = _
    rw [new, cnR_c (h' := fun x => e (g x)) (p + q) (fun i hi => by show e _ = e _; rw [ne i hi]), h4 e k]
    show _ + (if e (f (a + w + q)) = k then 1 else 0) = _
    omega
theorem MG.done {K f g : Nat → Nat} {a w : Nat} (h : MG K f g a w w w) (hl : SG K f a w) (hr : SG K f (a + w) w) : SG K g a (w + w) :=
  ⟨h.1, h.2.1, fun e k => by rw [h.2.2.2 e k, hl.2.2 e k, hr.2.2 e k, cnR_add]⟩
/-- the ways of the first places of a sorted row of rows -/
def WO (K f : Nat → Nat) (i n : Nat) (wl wc wi : Nat → Nat) : Prop :=
  (0 < i → 0 < n ∧ K (wl (n - 1)) = K (f (i - 1))) ∧ (∀ j, j < n → ∃ x, x < i ∧ wl j = f x) ∧ (∀ j l, j < l → l < n → K (wl j) < K (wl l)) ∧ (∀ x, x < i → wi (f x) < n ∧ K (wl (wi (f x))) = K (f x) ∧ wl (wi (f x)) ≤ f x) ∧ ∀ j, j < n → wc j = cnR (fun x => K (f x)) (K (wl j)) 0 i
theorem WO.z {K f wl wc wi : Nat → Nat} : WO K f 0 0 wl wc wi := ⟨fun h => absurd h (Nat.lt_irrefl _), fun j h => absurd h (Nat.not_lt_zero j), fun j l _ h => absurd h (Nat.not_lt_zero l), fun x h => absurd h (Nat.not_lt_zero x), fun j h => absurd h (Nat.not_lt_zero j)⟩
theorem SG.inj {K f : Nat → Nat} {R : Nat} (hf : SG K f 0 R) {x y : Nat} (hx : x < R) (hy : y < R) (e : f x = f y) : x = y := by
  have irr : ∀ i j, i < j → j < R → f i ≠ f j := fun i j p q z => by
    have := hf.2.1 i j p q
    rw [Nat.zero_add, Nat.zero_add, z] at this
    unfold ltK at this; omega
  rcases Nat.lt_trichotomy x y with g | g | g
  · exact absurd e (irr x y g hy)
  · exact g
  · exact absurd e.symm (irr y x g hx)
theorem WO.le {K f : Nat → Nat} {R i n : Nat} {wl wc wi : Nat → Nat} (hf : SG K f 0 R) (hi : i ≤ R) (h : WO K f i n wl wc wi) (h0 : 0 < i) : ∀ j, j < n → K (wl j) ≤ K (f (i - 1)) := fun j hj => by
  obtain ⟨x, hx, e⟩ := h.2.1 j hj
  rw [e]
  by_cases g : x = i - 1
  · rw [g]; exact Nat.le_refl _
  · have := hf.2.1 x (i - 1) (by omega) (by omega)
    rw [Nat.zero_add, Nat.zero_add] at this
    unfold ltK at this; omega
theorem WO.old {K f : Nat → Nat} {R i n : Nat} {wl wc wi : Nat → Nat} (hf : SG K f 0 R) (h : WO K f i n wl wc wi) (hi : i < R) (h0 : 0 < i) (e : K (f (i - 1)) = K (f i)) : WO K f (i + 1) n wl (va_up wc (n - 1) (wc (n - 1) + 1)) (va_up wi (f i) (n - 1)) := by
  obtain ⟨a1, a2, a3, a4, a5⟩ := h
  obtain ⟨n0, b1⟩ := a1 h0
  refine ⟨fun _ => ⟨n0, by rw [b1, e]; rfl⟩, fun j hj => ?_, a3, fun x hx => ?_, fun j hj => ?_⟩
  · obtain ⟨x, p, q⟩ := a2 j hj
    exact ⟨x, by omega, q⟩
  · by_cases g : x = i
    · subst g
      rw [up_s]
      refine ⟨by omega, b1.trans e, ?_⟩
      obtain ⟨y, p, q⟩ := a2 (n - 1) (by omega)
      have := hf.2.1 y x p hi
      rw [Nat.zero_add, Nat.zero_add] at this
      unfold ltK at this
      rw [q] at b1 ⊢
      omega
    · have : f x ≠ f i := fun z => g (hf.inj (by omega) hi z)
      rw [up_n _ _ this]; exact a4 x (by omega)
  · rw [cnR, Nat.zero_add]
    show _ = _ + (if K (f i) = K (wl j) then 1 else 0)
    by_cases g : j = n - 1
    · subst g
      rw [up_s, a5 _ (by omega), if_pos (by rw [b1, e])]
    · have z : ¬ K (f i) = K (wl j) := fun z => by
        have := a3 j (n - 1) (by omega) (by omega)
        omega
      rw [up_n _ _ g, a5 j hj, if_neg z]; rfl
theorem WO.new {K f : Nat → Nat} {R i n : Nat} {wl wc wi : Nat → Nat} (hf : SG K f 0 R) (h : WO K f i n wl wc wi) (hi : i < R) (e : i = 0 ∨ K (f (i - 1)) ≠ K (f i)) (hn : i = 0 → n = 0) : WO K f (i + 1) (n + 1) (va_up wl n (f i)) (va_up wc n 1) (va_up wi (f i) n) := by
  have lt : ∀ j, j < n → K (wl j) < K (f i) := fun j hj => by
    have h0 : 0 < i := Nat.pos_of_ne_zero (fun z => by have := hn z; omega)
    have := h.le hf (by omega) h0 j hj
    have s := hf.2.1 (i - 1) i (by omega) hi
    rw [Nat.zero_add, Nat.zero_add] at s
    unfold ltK at s
    rcases e with e | e <;> omega
  obtain ⟨a1, a2, a3, a4, a5⟩ := h
  have wo : ∀ j, j < n → va_up wl n (f i) j = wl j := fun j hj => up_n _ _ (by omega)
  refine ⟨fun _ => ⟨by omega, by show K (va_up wl n (f i) n) = K (f i); rw [up_s]⟩, fun j hj => ?_, fun j l p q => ?_, fun x hx => ?_, fun j hj => ?_⟩
  · by_cases g : j = n
    · subst g; exact ⟨i, by omega, up_s _ _ _⟩
    · obtain ⟨x, p, q⟩ := a2 j (by omega)
      exact ⟨x, by omega, (wo j (by omega)).trans q⟩
  · by_cases g : l = n
    · subst g; rw [up_s, wo j p]; exact lt j p
    · rw [wo j (by omega), wo l (by omega)]; exact a3 j l p (by omega)
  · by_cases g : x = i
    · subst g
      rw [up_s, up_s]
      exact ⟨by omega, rfl, Nat.le_refl _⟩
    · have : f x ≠ f i := fun z => g (hf.inj (by omega) hi z)
      obtain ⟨b1, b2, b3⟩ := a4 x (by omega)
      rw [up_n _ _ this, wo _ b1]
      exact ⟨by omega, b2, b3⟩
  · rw [cnR, Nat.zero_add]
    show _ = _ + (if K (f i) = K (va_up wl n (f i) j) then 1 else 0)
    by_cases g : j = n
    · subst g
      rw [up_s, up_s, if_pos rfl]
      have z : cnR (fun x => K (f x)) (K (f i)) 0 i = 0 := by
        rcases Nat.eq_zero_or_pos (cnR (fun x => K (f x)) (K (f i)) 0 i) with g | g
        · exact g
        · obtain ⟨x, hx, ex⟩ := cnR_pos i g
          have ex : K (f x) = K (f i) := by rw [Nat.zero_add] at ex; exact ex
          obtain ⟨b1, b2, -⟩ := a4 x hx
          have := lt _ b1
          omega
      rw [z]
    · have z : ¬ K (f i) = K (wl j) := fun z => by
        have := lt j (by omega)
        omega
      rw [up_n _ _ g, a5 j (by omega), wo j (by omega), if_neg z]; rfl
theorem WO.wy {K f : Nat → Nat} {R n : Nat} {wl wc wi : Nat → Nat} (hf : SG K f 0 R) (h : WO K f R n wl wc wi) : WY K R n wl wc ∧ ∀ q, q < R → wi q < n ∧ K (wl (wi q)) = K q := by
  obtain ⟨a1, a2, a3, a4, a5⟩ := h
  have back : ∀ q, q < R → ∃ x, x < R ∧ f x = q := fun q hq => by
    obtain ⟨x, p, e⟩ := hf.mem (Nat.zero_le _) (show q < 0 + R by omega)
    exact ⟨x, p, by rw [Nat.zero_add] at e; exact e⟩
  refine ⟨⟨fun j hj => ?_, a3, fun q hq => ?_, fun j hj => ?_⟩, fun q hq => ?_⟩
  · obtain ⟨x, p, e⟩ := a2 j hj
    have := (hf.1 x p).2
    rw [Nat.zero_add, Nat.zero_add] at this
    rw [e]; exact this
  · obtain ⟨x, p, e⟩ := back q hq
    obtain ⟨b1, b2, b3⟩ := a4 x p
    rw [e] at b1 b2 b3
    exact ⟨_, b1, b2, b3⟩
  · rw [a5 j hj, hf.2.2 K (K (wl j)), cntK_R]
  · obtain ⟨x, p, e⟩ := back q hq
    obtain ⟨b1, b2, b3⟩ := a4 x p
    rw [e] at b1 b2
    exact ⟨b1, b2⟩
