/-! PART as: what was gathered, bit by bit -/
theorem rg_v1 {B : Nat} {y : Int32} (hB : B ≤ 6) (h : rg B y) : ∃ w, w < 2 ^ B ∧ w < 64 ∧ y = nI w := by
  obtain ⟨j, h1, h2⟩ := h
  have : 2 ^ B ≤ 2 ^ 6 := Nat.pow_le_pow_right (n := 2) (by decide) hB
  exact ⟨j, h1, by omega, h2⟩
theorem mayL_at {f : Nat → Int64} {s s' a : Nat} {nm : Nat → Int32} (ha : a < 8) : ∀ m, m ≤ 8 → mayL f s nm m (8 * s' + a) = if s' = s ∧ a < m then f (8 * s' + a) ||| ((1 : Int64) <<< ((nm a).toInt64 &&& 63)) else f (8 * s' + a)
  | 0, _ => by rw [if_neg (by omega)]; rfl
  | m + 1, hm => by
    have ih := mayL_at (f := f) (s := s) (s' := s') (nm := nm) ha m (by omega)
    rw [mayL]
    by_cases q : 8 * s' + a = 8 * s + m
    · have es : s' = s := by omega
      have em : a = m := by omega
      subst es
      subst em
      rw [up_s, ih, if_neg (by omega), if_pos ⟨rfl, by omega⟩]
    · rw [up_n _ _ q, ih]
      by_cases g : s' = s ∧ a < m
      · rw [if_pos g, if_pos ⟨g.1, by omega⟩]
      · rw [if_neg g, if_neg (fun z => g ⟨z.1, by omega⟩)]
theorem mayT_lb {B cs s a v : Nat} (hB : B ≤ 6) (ha : a < 8) (hv : v < 64) : ∀ (tr : List (Nat × (Nat → Int32))) (f : Nat → Int64), (∀ x, x ∈ tr → x.1 < cs ∧ ∀ k, k < 8 → rg B (x.2 k)) → (lb (mayT f tr (8 * s + a)) v = true ↔ lb (f (8 * s + a)) v = true ∨ ∃ x, x ∈ tr ∧ x.1 = s ∧ x.2 a = nI v)
  | [], f, _ => ⟨Or.inl, fun h => h.elim id (fun ⟨x, m, _⟩ => absurd m (List.not_mem_nil))⟩
  | e :: tr, f, h => by
    have ih := mayT_lb (s := s) hB ha hv tr (mayL f e.1 e.2 8) (fun x m => h x (List.mem_cons_of_mem _ m))
    obtain ⟨w, -, hw, ew⟩ := rg_v1 hB ((h e (List.mem_cons_self)).2 a ha)
    show lb (mayT (mayL f e.1 e.2 8) tr (8 * s + a)) v = true ↔ _
    rw [ih, mayL_at ha 8 (Nat.le_refl _)]
    have ev : nI w = nI v ↔ w = v := nI_eq (by omega) (by omega)
    by_cases q : s = e.1
    · rw [if_pos ⟨q, ha⟩, lb_or, ew, show (1 : Int64) <<< ((nI w).toInt64 &&& 63) = bit64 w from rfl, lb_bit hw, Bool.or_eq_true, decide_eq_true_iff]
      constructor
      · rintro ((z | z) | ⟨x, m, z⟩)
        · exact Or.inl z
        · exact Or.inr ⟨e, List.mem_cons_self, q.symm, by rw [ew, z]⟩
        · exact Or.inr ⟨x, List.mem_cons_of_mem _ m, z⟩
      · rintro (z | ⟨x, m, z1, z2⟩)
        · exact Or.inl (Or.inl z)
        · rcases List.mem_cons.mp m with c | c
          · subst c; rw [ew] at z2; exact Or.inl (Or.inr (ev.mp z2).symm)
          · exact Or.inr ⟨x, c, z1, z2⟩
    · rw [if_neg (fun z => q z.1)]
      constructor
      · rintro (z | ⟨x, m, z⟩)
        · exact Or.inl z
        · exact Or.inr ⟨x, List.mem_cons_of_mem _ m, z⟩
      · rintro (z | ⟨x, m, z1, z2⟩)
        · exact Or.inl z
        · rcases List.mem_cons.mp m with c | c
          · subst c; exact absurd z1.symm q
          · exact Or.inr ⟨x, c, z1, z2⟩
theorem mayW_lb {B F cs s a v : Nat} {E : Nat → PE} (hB : B ≤ 6) (hE : WE B F cs E) (ha : a < 8) (hv : v < 64) : ∀ R, lb (mayW E R (8 * s + a)) v = true ↔ ∃ q, q < R ∧ eE (E q) ≠ 4 ∧ ∃ x, x ∈ eT (E q) ∧ x.1 = s ∧ x.2 a = nI v
  | 0 => ⟨fun h => absurd h (by rw [show mayW E 0 (8 * s + a) = 0 from rfl, lb_0]; exact Bool.false_ne_true), fun ⟨q, h, _⟩ => absurd h (Nat.not_lt_zero _)⟩
  | R + 1 => by
    have ih := mayW_lb (s := s) hB hE ha hv R
    obtain ⟨-, -, -, -, -, x6, -⟩ := hE.1 R
    rw [mayW]
    by_cases g : eE (E R) = 4
    · rw [if_pos g, ih]
      constructor
      · rintro ⟨q, h, z⟩; exact ⟨q, by omega, z⟩
      · rintro ⟨q, h, z1, z2⟩
        have : q ≠ R := fun c => by subst c; exact z1 g
        exact ⟨q, by omega, z1, z2⟩
    · rw [if_neg g, mayT_lb (cs := cs) hB ha hv _ _ x6, ih]
      constructor
      · rintro (⟨q, h, z⟩ | z)
        · exact ⟨q, by omega, z⟩
        · exact ⟨R, by omega, g, z⟩
      · rintro ⟨q, h, z1, z2⟩
        by_cases c : q = R
        · subst c; exact Or.inr z2
        · exact Or.inl ⟨q, by omega, z1, z2⟩
theorem set_lb {s : Nat} (hs : s < 60) : ∀ (tr : List (Nat × (Nat → Int32))) (y : Int64), (∀ x, x ∈ tr → x.1 < 60) → (lb (tr.foldl (fun acc e => acc ||| bit64 e.1) y) s = true ↔ lb y s = true ∨ ∃ x, x ∈ tr ∧ x.1 = s)
  | [], y, _ => ⟨Or.inl, fun h => h.elim id (fun ⟨x, m, _⟩ => absurd m (List.not_mem_nil))⟩
  | e :: tr, y, h => by
    have ih := set_lb hs tr (y ||| bit64 e.1) (fun x m => h x (List.mem_cons_of_mem _ m))
    have e60 := h e (List.mem_cons_self)
    rw [List.foldl_cons, ih, lb_or, lb_bit (by omega), Bool.or_eq_true, decide_eq_true_iff]
    constructor
    · rintro ((z | z) | ⟨x, m, z⟩)
      · exact Or.inl z
      · exact Or.inr ⟨e, List.mem_cons_self, z.symm⟩
      · exact Or.inr ⟨x, List.mem_cons_of_mem _ m, z⟩
    · rintro (z | ⟨x, m, z⟩)
      · exact Or.inl (Or.inl z)
      · rcases List.mem_cons.mp m with c | c
        · subst c; exact Or.inl (Or.inr z.symm)
        · exact Or.inr ⟨x, c, z⟩
theorem setL_lb {s : Nat} (hs : s < 60) {tr : List (Nat × (Nat → Int32))} (h : ∀ x, x ∈ tr → x.1 < 60) : lb (setL tr) s = true ↔ ∃ x, x ∈ tr ∧ x.1 = s := by
  unfold setL
  rw [set_lb hs tr 0 h, lb_0]
  exact ⟨fun z => z.elim (fun c => absurd c Bool.false_ne_true) id, Or.inr⟩
theorem allB_lb {B F cs s : Nat} {E : Nat → PE} (hcs : cs ≤ 60) (hE : WE B F cs E) (hs : s < 60) : ∀ R, lb (allB E R) s = true ↔ ∃ q, q < R ∧ eE (E q) ≠ 4 ∧ ∃ x, x ∈ eT (E q) ∧ x.1 = s
  | 0 => ⟨fun h => absurd h (by rw [show allB E 0 = 0 from rfl, lb_0]; exact Bool.false_ne_true), fun ⟨q, h, _⟩ => absurd h (Nat.not_lt_zero _)⟩
  | R + 1 => by
    have ih := allB_lb hcs hE hs R
    obtain ⟨-, -, -, -, -, x6, -⟩ := hE.1 R
    rw [allB]
    by_cases g : eE (E R) = 4
    · rw [if_pos g, ih]
      constructor
      · rintro ⟨q, h, z⟩; exact ⟨q, by omega, z⟩
      · rintro ⟨q, h, z1, z2⟩
        have : q ≠ R := fun c => by subst c; exact z1 g
        exact ⟨q, by omega, z1, z2⟩
    · rw [if_neg g, lb_or, Bool.or_eq_true, ih, setL_lb hs (fun x m => by have := (x6 x m).1; omega)]
      constructor
      · rintro (⟨q, h, z⟩ | z)
        · exact ⟨q, by omega, z⟩
        · exact ⟨R, by omega, g, z⟩
      · rintro ⟨q, h, z1, z2⟩
        by_cases c : q = R
        · subst c; exact Or.inr z2
        · exact Or.inl ⟨q, by omega, z1, z2⟩
theorem lb_ne {y : Int64} : y ≠ 0 ↔ ∃ v, v < 64 ∧ lb y v = true := by
  constructor
  · intro h
    refine Classical.byContradiction (fun n => h (lb_ext (fun v hv => ?_)))
    rw [lb_0]
    exact Bool.eq_false_iff.mpr (fun z => n ⟨v, hv, z⟩)
  · rintro ⟨v, -, h⟩ z
    rw [z, lb_0] at h
    exact Bool.false_ne_true h
/-- a step that is begun in a row that counts -/
def Bgn (E : Nat → PE) (R s : Nat) : Prop := ∃ q, q < R ∧ eE (E q) ≠ 4 ∧ ∃ x, x ∈ eT (E q) ∧ x.1 = s
theorem Bgn.cs {B F cs s R : Nat} {E : Nat → PE} (hE : WE B F cs E) (h : Bgn E R s) : s < cs := by
  obtain ⟨q, -, -, x, m, e⟩ := h
  obtain ⟨-, -, -, -, -, x6, -⟩ := hE.1 q
  rw [← e]; exact (x6 x m).1
theorem Bgn.may {B F cs s a R : Nat} {E : Nat → PE} (hB : B ≤ 6) (hE : WE B F cs E) (ha : a < 8) : Bgn E R s ↔ mayW E R (8 * s + a) ≠ 0 := by
  rw [lb_ne]
  constructor
  · rintro ⟨q, h1, h2, x, m, e⟩
    obtain ⟨-, -, -, -, -, x6, -⟩ := hE.1 q
    obtain ⟨w, -, hw, ew⟩ := rg_v1 hB ((x6 x m).2 a ha)
    exact ⟨w, hw, (mayW_lb hB hE ha hw R).mpr ⟨q, h1, h2, x, m, e, ew⟩⟩
  · rintro ⟨v, hv, h⟩
    obtain ⟨q, h1, h2, x, m, e, -⟩ := (mayW_lb hB hE ha hv R).mp h
    exact ⟨q, h1, h2, x, m, e⟩
/-- only numbers of so many bits were met -/
theorem may_hi {B F cs s a v R : Nat} {E : Nat → PE} (hB : B ≤ 6) (hE : WE B F cs E) (ha : a < 8) (hv : v < 64) (hv2 : 2 ^ B ≤ v) : lb (mayW E R (8 * s + a)) v = false := by
  refine Bool.eq_false_iff.mpr (fun h => ?_)
  obtain ⟨q, -, -, x, m, -, e⟩ := (mayW_lb hB hE ha hv R).mp h
  obtain ⟨-, -, -, -, -, x6, -⟩ := hE.1 q
  obtain ⟨w, w1, hw, ew⟩ := rg_v1 hB ((x6 x m).2 a ha)
  have := (nI_eq (a := w) (b := v) (by omega) (by omega)).mp (ew.symm.trans e)
  omega
/-- relations met -/
def rS (y : Int32) : Prop := ∃ w, w < 8 ∧ y = nI w
def rZ (y : Int32) : Prop := ∃ w, w < 8 ∧ w ≠ 0 ∧ y = nI w
theorem rZ.s {y : Int32} (h : rZ y) : rS y := by obtain ⟨w, a, -, b⟩ := h; exact ⟨w, a, b⟩
theorem rel_z (x y : Int32) : rZ (relI x y) := by
  unfold relI
  split
  · exact ⟨1, by decide, by decide, rfl⟩
  · split
    · exact ⟨2, by decide, by decide, rfl⟩
    · exact ⟨4, by decide, by decide, rfl⟩
theorem or8 : ∀ a, a < 8 → ∀ b, b < 8 → ∃ w, w < 8 ∧ (b ≠ 0 → w ≠ 0) ∧ (a ≠ 0 → w ≠ 0) ∧ nI a ||| nI b = nI w := by
  intro a ha b hb
  have tb : ∀ a, a < 8 → ∀ b, b < 8 → (a ||| b) < 8 ∧ (b ≠ 0 → a ||| b ≠ 0) ∧ (a ≠ 0 → a ||| b ≠ 0) ∧ nI a ||| nI b = nI (a ||| b) := by decide +kernel
  obtain ⟨h1, h2, h3, h4⟩ := tb a ha b hb
  exact ⟨a ||| b, h1, h2, h3, h4⟩
theorem rS.or {x y : Int32} (hx : rS x) (hy : rZ y) : rZ (x ||| y) := by
  obtain ⟨a, a1, rfl⟩ := hx
  obtain ⟨b, b1, b2, rfl⟩ := hy
  obtain ⟨w, w1, w2, -, e⟩ := or8 a a1 b b1
  exact ⟨w, w1, w2 b2, e⟩
theorem stJ_P {f : Nat → Int32} {s b k : Nat} {nm : Nat → Int32} {P : Int32 → Prop} (hP : ∀ x, P x → ∀ y, rZ y → P (x ||| y)) (h : P (f k)) : ∀ a, P (stJ f s nm b a k)
  | 0 => h
  | a + 1 => by
    have ih := stJ_P (s := s) (b := b) (nm := nm) hP h a
    rw [stJ]
    by_cases q : k = 64 * s + 8 * b + (b + 1 + a)
    · subst q; rw [up_s]; exact hP _ ih _ (rel_z _ _)
    · rw [up_n _ _ q]; exact ih
theorem stO_P {f : Nat → Int32} {s k : Nat} {nm : Nat → Int32} {P : Int32 → Prop} (hP : ∀ x, P x → ∀ y, rZ y → P (x ||| y)) (h : P (f k)) : ∀ a, P (stO f s nm a k)
  | 0 => h
  | a + 1 => by rw [stO]; exact stJ_P hP (stO_P hP h a) _
theorem stT_P {k : Nat} {P : Int32 → Prop} (hP : ∀ x, P x → ∀ y, rZ y → P (x ||| y)) : ∀ (tr : List (Nat × (Nat → Int32))) (f : Nat → Int32), P (f k) → P (stT f tr k)
  | [], _, h => h
  | e :: tr, f, h => stT_P (k := k) hP tr (stO f e.1 e.2 8) (stO_P hP h 8)
theorem rS_P : ∀ x, rS x → ∀ y, rZ y → rS (x ||| y) := fun _ h _ g => (h.or g).s
theorem rZ_P : ∀ x, rZ x → ∀ y, rZ y → rZ (x ||| y) := fun _ h _ g => h.s.or g
theorem stO_hit {f : Nat → Int32} {s b c : Nat} {nm : Nat → Int32} (hbc : b < c) (hc : c < 8) (h : rS (f (64 * s + 8 * b + c))) : rZ (stO f s nm 8 (64 * s + 8 * b + c)) := by
  have hit : ∀ (g : Nat → Int32), rS (g (64 * s + 8 * b + c)) → rZ (stJ g s nm b (7 - b) (64 * s + 8 * b + c)) := fun g hg => by
    have later : ∀ m, rZ (stJ g s nm b (c - b + m) (64 * s + 8 * b + c)) := by
      intro m
      induction m with
      | zero =>
        rw [Nat.add_zero, show c - b = (c - b - 1) + 1 by omega, stJ, show b + 1 + (c - b - 1) = c by omega, up_s]
        exact (stJ_P (P := rS) rS_P hg _).or (rel_z _ _)
      | succ m ih =>
        rw [show c - b + (m + 1) = (c - b + m) + 1 by omega, stJ]
        by_cases q : 64 * s + 8 * b + c = 64 * s + 8 * b + (b + 1 + (c - b + m))
        · rw [← q, up_s]; exact rZ_P _ ih _ (rel_z _ _)
        · rw [up_n _ _ q]; exact ih
    have := later (7 - c)
    rw [show c - b + (7 - c) = 7 - b by omega] at this
    exact this
  have later : ∀ m, rZ (stO f s nm (b + 1 + m) (64 * s + 8 * b + c)) := by
    intro m
    induction m with
    | zero => rw [Nat.add_zero, stO]; exact hit _ (stO_P (P := rS) rS_P h b)
    | succ m ih => rw [show b + 1 + (m + 1) = (b + 1 + m) + 1 by omega, stO]; exact stJ_P (P := rZ) rZ_P ih _
  have := later (7 - b)
  rw [show b + 1 + (7 - b) = 8 by omega] at this
  exact this
theorem stW_S (E : Nat → PE) (k : Nat) : ∀ R, rS (stW E R k)
  | 0 => ⟨0, by decide, rfl⟩
  | R + 1 => by
    rw [stW]
    split
    · exact stW_S E k R
    · exact stT_P (P := rS) rS_P _ _ (stW_S E k R)
theorem stT_hit {s b c : Nat} (hbc : b < c) (hc : c < 8) : ∀ (tr : List (Nat × (Nat → Int32))) (f : Nat → Int32), rS (f (64 * s + 8 * b + c)) → (∃ x, x ∈ tr ∧ x.1 = s) → rZ (stT f tr (64 * s + 8 * b + c))
  | [], _, _, h => by obtain ⟨x, m, -⟩ := h; exact absurd m (List.not_mem_nil)
  | e :: tr, f, hf, h => by
    show rZ (stT (stO f e.1 e.2 8) tr (64 * s + 8 * b + c))
    by_cases q : e.1 = s
    · refine stT_P (P := rZ) rZ_P tr _ ?_
      rw [q]; exact stO_hit hbc hc hf
    · obtain ⟨x, m, ex⟩ := h
      rcases List.mem_cons.mp m with c1 | c1
      · subst c1; exact absurd ex q
      · exact stT_hit hbc hc tr _ (stO_P (P := rS) rS_P hf 8) ⟨x, c1, ex⟩
theorem stW_Z {E : Nat → PE} {s b c : Nat} (hbc : b < c) (hc : c < 8) : ∀ R, Bgn E R s → rZ (stW E R (64 * s + 8 * b + c))
  | 0, h => by obtain ⟨q, h, -⟩ := h; exact absurd h (Nat.not_lt_zero _)
  | R + 1, h => by
    obtain ⟨q, h1, h2, h3⟩ := h
    rw [stW]
    by_cases g : eE (E R) = 4
    · rw [if_pos g]
      have : q ≠ R := fun c => by subst c; exact h2 g
      exact stW_Z hbc hc R ⟨q, by omega, h2, h3⟩
    · rw [if_neg g]
      by_cases c1 : q = R
      · subst c1; exact stT_hit hbc hc _ _ (stW_S E _ _) h3
      · exact stT_P (P := rZ) rZ_P _ _ (stW_Z hbc hc R ⟨q, by omega, h2, h3⟩)
