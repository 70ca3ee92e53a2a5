/-! PART g5: tokens out of bytes -/
def bsL (bt : Nat → Int32) (p : Nat) (l : List Nat) : Prop := ∀ j, j < l.length → bt (p + j) = nI (l.getD j 0)
theorem bsL.b {bt : Nat → Int32} {p : Nat} {l : List Nat} (h : bsL bt p l) (j : Nat) {c : Nat} (hc : l[j]? = some c) : bt (p + j) = nI c := by
  have hj := (List.getElem?_eq_some_iff.mp hc).1
  rw [h j hj, List.getD_eq_getElem?_getD, hc]; rfl
theorem bsL.left {bt : Nat → Int32} {p : Nat} {a b : List Nat} (h : bsL bt p (a ++ b)) : bsL bt p a := fun j hj => by
  have := h j (by rw [List.length_append]; omega)
  rw [List.getD_eq_getElem?_getD, List.getElem?_append_left hj, ← List.getD_eq_getElem?_getD] at this
  exact this
theorem bsL.right {bt : Nat → Int32} {p : Nat} {a b : List Nat} (h : bsL bt p (a ++ b)) : bsL bt (p + a.length) b := fun j hj => by
  have := h (a.length + j) (by rw [List.length_append]; omega)
  rw [getD_app, ← Nat.add_assoc] at this
  exact this
theorem bsL1 {bt : Nat → Int32} {p c : Nat} (h : bt p = nI c) : bsL bt p [c] := fun j hj => by
  have : j = 0 := by simp at hj; omega
  subst this; exact h
/-- letters and digits; blanks -/
def nOw (c : Nat) : Bool := (97 ≤ c && c ≤ 122) || (48 ≤ c && c ≤ 57)
theorem ow_e {c : Nat} (hc : c < 256) : isOw (nI c) ↔ nOw c = true := by
  have : ∀ c : Fin 256, isOw (nI c.1) ↔ nOw c.1 = true := by decide +kernel
  exact this ⟨c, hc⟩
theorem bl_e {c : Nat} (hc : c < 256) : isBl (nI c) ↔ (c = 32 ∨ c = 10) := by
  have : ∀ c : Fin 256, isBl (nI c.1) ↔ (c.1 = 32 ∨ c.1 = 10) := by decide +kernel
  exact this ⟨c, hc⟩
theorem dg_e {c : Nat} (hc : c < 256) : isDg (nI c) ↔ (48 ≤ c ∧ c ≤ 57) := by
  have : ∀ c : Fin 256, isDg (nI c.1) ↔ (48 ≤ c.1 ∧ c.1 ≤ 57) := by decide +kernel
  exact this ⟨c, hc⟩
/-- a byte that ends a word -/
def nEnd (c : Nat) : Bool := c < 256 && !nOw c
def nMk (c : Nat) : Bool := c < 256 && (!nOw c && (c != 32 && (c != 10 && mks.contains (nI c))))
section TOK
variable {bt : Nat → Int32} {z cnt j p q e c : Nat} {ps : Nat → Nat} {TK TV : Nat → Int32} {TP : Nat → Nat} {K va : Int32} {pl nx : Nat}
theorem tok_q (h : isTok bt z p K va pl nx) (hz : z ≤ 500) (h1 : p ≤ q) (h2 : q < z) (hb : ∀ j, p ≤ j → j < q → isBl (bt j)) (hn : ¬ isBl (bt q)) :
    (¬ isOw (bt q) ∧ nx = q + 1 ∧ K = (if bt q ∈ mks then bt q else 0)) ∨ (isOw (bt q) ∧ q < nx ∧ nx ≤ z ∧ (∀ j, q ≤ j → j < nx → isOw (bt j)) ∧ (nx < z → ¬ isOw (bt nx)) ∧ tkW bt q nx K va) := by
  obtain ⟨r, a1, a2, a3, a4, a5⟩ := h
  have e : r = q := by
    rcases Nat.lt_trichotomy r q with g | g | g
    · exact absurd (hb r a1 g) (a4 (by omega))
    · exact g
    · exact absurd (a3 q h1 g) hn
  subst e
  rcases a5 with x | x | x | x
  · omega
  · omega
  · exact Or.inl ⟨x.2.2.1, x.2.2.2.2.1, x.2.2.2.2.2⟩
  · exact Or.inr ⟨x.2.2.1, x.2.2.2.2.1, x.2.2.2.2.2.1, x.2.2.2.2.2.2.1, x.2.2.2.2.2.2.2.1, x.2.2.2.2.2.2.2.2⟩
/-- a word from q to e -/
theorem tok_w (h : isTok bt z p K va pl nx) (hz : z ≤ 500) (h1 : p ≤ q) (h2 : q < e) (h3 : e < z) (hb : ∀ j, p ≤ j → j < q → isBl (bt j)) (hn : ¬ isBl (bt q)) (ho : ∀ j, q ≤ j → j < e → isOw (bt j)) (he : ¬ isOw (bt e)) : nx = e ∧ tkW bt q e K va := by
  rcases tok_q h hz h1 (by omega) hb hn with x | ⟨x1, x2, x3, x4, x5, x6⟩
  · exact absurd (ho q (Nat.le_refl _) h2) x.1
  · have : nx = e := by
      rcases Nat.lt_trichotomy nx e with g | g | g
      · exact absurd (ho nx (by omega) g) (x5 (by omega))
      · exact g
      · exact absurd (x4 e (by omega) g) he
    subst this
    exact ⟨rfl, x6⟩
theorem tk_go (h : isToks bt z cnt ps TK TV TP) (hj : j ≤ cnt) (h0 : TK j ≠ 0) (h1 : TK j ≠ 1) : j + 1 ≤ cnt := by
  rcases Nat.lt_or_ge j cnt with g | g
  · exact g
  · have : j = cnt := by omega
    subst this
    rcases h.2.2.2.1 with e | e
    · exact absurd e h0
    · exact absurd e h1
theorem tkMk (h : isToks bt z cnt ps TK TV TP) (hz : z ≤ 500) (hj : j ≤ cnt) (hc : ps j = p) (hp : p < z) (hb : bt p = nI c) (hm : nMk c = true) : TK j = nI c ∧ j + 1 ≤ cnt ∧ ps (j + 1) = p + 1 := by
  have t := h.2.1 j hj
  rw [hc] at t
  unfold nMk at hm
  simp only [Bool.and_eq_true, Bool.not_eq_true', decide_eq_true_eq, bne_iff_ne, ne_eq] at hm
  obtain ⟨m1, m2, m3, m4, m5⟩ := hm
  have nb : ¬ isBl (bt p) := by rw [hb, bl_e m1]; omega
  have no : ¬ isOw (bt p) := by rw [hb, ow_e m1, m2]; exact Bool.false_ne_true
  have mm : nI c ∈ mks := List.contains_iff_mem.mp m5
  rcases tok_q (q := p) t hz (Nat.le_refl _) hp (fun j a b => by omega) nb with x | x
  · have k : TK j = nI c := by rw [x.2.2, hb, if_pos mm]
    have ne := mks_ne mm
    exact ⟨k, tk_go h hj (by rw [k]; exact ne.1) (by rw [k]; exact ne.2.1), x.2.1⟩
  · exact absurd x.1 no
theorem tkN0 (h : isToks bt z cnt ps TK TV TP) (hz : z ≤ 500) {x : Nat} (hj : j ≤ cnt) (hc : ps j = p) (hpq : p ≤ q) (hbl : ∀ j, p ≤ j → j < q → isBl (bt j)) (hp : q + 1 < z) (hb : bt q = nI (97 + x)) (hx : Nat.ble (x + 1) 8 = true) (hd : bt (q + 1) = nI c) (hm : nEnd c = true) : TK j = 2 ∧ TV j = nI x ∧ j + 1 ≤ cnt ∧ ps (j + 1) = q + 1 := by
  have hx := Nat.le_of_ble_eq_true hx
  have t := h.2.1 j hj
  rw [hc] at t
  unfold nEnd at hm
  simp only [Bool.and_eq_true, Bool.not_eq_true', decide_eq_true_eq] at hm
  have ow : nOw (97 + x) = true := by
    have : ∀ x : Fin 8, nOw (97 + x.1) = true := by decide
    exact this ⟨x, by omega⟩
  have nd : ¬ isDg (bt q) := by rw [hb, dg_e (by omega)]; omega
  obtain ⟨e1, w⟩ := tok_w (q := q) (e := q + 1) t hz hpq (Nat.lt_succ_self _) hp hbl (by rw [hb, bl_e (by omega)]; omega) (fun j a b => by rw [show j = q by omega, hb, ow_e (by omega)]; exact ow) (by rw [hd, ow_e hm.1, hm.2]; exact Bool.false_ne_true)
  have r : TK j = 2 ∧ TV j = nI x := by
    rcases w with w | w | ⟨w1, w⟩
    · exact absurd (w.1 q (Nat.le_refl _) (Nat.lt_succ_self _)) nd
    · obtain ⟨⟨a, a1, a2, a3⟩, -⟩ := w
      rw [show a = q by omega] at a3; exact absurd a3 nd
    · rcases w with ⟨-, w⟩ | w | w
      · have p97 : ¬ nI (97 + x) < 97 := by rw [show (97 : Int32) = nI 97 from rfl, nI_ltI (by omega) (by decide)]; omega
        have p104 : ¬ 104 < nI (97 + x) := by rw [show (104 : Int32) = nI 104 from rfl, nI_ltI (by decide) (by omega)]; omega
        have p112 : nI (97 + x) < 112 := by rw [show (112 : Int32) = nI 112 from rfl, nI_ltI (by omega) (by decide)]; omega
        rw [hb] at w
        rcases w with ⟨-, -, w1, w2⟩ | ⟨w, -⟩ | ⟨w, -⟩
        · refine ⟨w1, ?_⟩
          rw [w2, show (97 : Int32) = nI 97 from rfl, pk_sub (by omega), Nat.add_sub_cancel_left]
        · exact absurd p112 w
        · rcases w with w | w
          · exact absurd w p97
          · exact absurd w p104
      · omega
      · omega
  exact ⟨r.1, r.2, tk_go h hj (by rw [r.1]; decide) (by rw [r.1]; decide), e1⟩
theorem tkNm (h : isToks bt z cnt ps TK TV TP) (hz : z ≤ 500) {x : Nat} (hj : j ≤ cnt) (hc : ps j = p) (hp : p + 1 < z) (hb : bt p = nI (97 + x)) (hx : Nat.ble (x + 1) 8 = true) (hd : bt (p + 1) = nI c) (hm : nEnd c = true) : TK j = 2 ∧ TV j = nI x ∧ j + 1 ≤ cnt ∧ ps (j + 1) = p + 1 :=
  tkN0 h hz hj hc (Nat.le_refl _) (fun j a b => by omega) hp hb hx hd hm
theorem tkNb (h : isToks bt z cnt ps TK TV TP) (hz : z ≤ 500) {x : Nat} (hj : j ≤ cnt) (hc : ps j = p) (hp : p + 2 < z) (h32 : bt p = nI 32) (hb : bt (p + 1) = nI (97 + x)) (hx : Nat.ble (x + 1) 8 = true) (hd : bt (p + 2) = nI c) (hm : nEnd c = true) : TK j = 2 ∧ TV j = nI x ∧ j + 1 ≤ cnt ∧ ps (j + 1) = p + 2 :=
  tkN0 h hz hj hc (Nat.le_succ _) (fun j a b => by rw [show j = p by omega, h32]; exact Or.inl rfl) hp hb hx hd hm
theorem tok_num (h : isToks bt z cnt ps TK TV TP) (hz : z ≤ 500) (hj : j ≤ cnt) (hc : ps j = p) (hp : p < e) (he : e < z) (h3 : e ≤ p + 3) (ho : ∀ j, p ≤ j → j < e → ∃ c, 48 ≤ c ∧ c ≤ 57 ∧ bt j = nI c) (hd : bt e = nI c) (hm : nEnd c = true) : TK j = 4 ∧ TV j = numV bt p (e - p) ∧ j + 1 ≤ cnt ∧ ps (j + 1) = e := by
  have t := h.2.1 j hj
  rw [hc] at t
  unfold nEnd at hm
  simp only [Bool.and_eq_true, Bool.not_eq_true', decide_eq_true_eq] at hm
  have dg : ∀ j, p ≤ j → j < e → isDg (bt j) := fun j a b => by
    obtain ⟨c, c1, c2, c3⟩ := ho j a b
    rw [c3, dg_e (by omega)]; exact ⟨c1, c2⟩
  have nb : ¬ isBl (bt p) := by
    obtain ⟨c, c1, c2, c3⟩ := ho p (Nat.le_refl _) hp
    rw [c3, bl_e (by omega)]; omega
  obtain ⟨e1, w⟩ := tok_w (q := p) (e := e) t hz (Nat.le_refl _) hp he (fun j a b => by omega) nb (fun j a b => Or.inr (dg j a b)) (by rw [hd, ow_e hm.1, hm.2]; exact Bool.false_ne_true)
  have r : TK j = 4 ∧ TV j = numV bt p (e - p) := by
    rcases w with w | w | w
    · rcases w.2 with w | w
      · exact w.2
      · omega
    · obtain ⟨-, ⟨a, a1, a2, a3⟩, -⟩ := w
      exact absurd (dg a a1 a2) a3
    · exact absurd (dg p (Nat.le_refl _) hp) (w.1 p (Nat.le_refl _) hp)
  exact ⟨r.1, r.2, tk_go h hj (by rw [r.1]; decide) (by rw [r.1]; decide), e1⟩
theorem tkDg (h : isToks bt z cnt ps TK TV TP) (hz : z ≤ 500) {x : Nat} (hj : j ≤ cnt) (hc : ps j = p) (hp : p + 1 < z) (hb : bt p = nI (48 + x)) (hx : Nat.ble (x + 1) 10 = true) (hd : bt (p + 1) = nI c) (hm : nEnd c = true) : TK j = 4 ∧ TV j = nI x ∧ j + 1 ≤ cnt ∧ ps (j + 1) = p + 1 := by
  have hx := Nat.le_of_ble_eq_true hx
  obtain ⟨a, b, r⟩ := tok_num h hz hj hc (Nat.lt_succ_self p) hp (by omega) (fun j a b => ⟨48 + x, by omega, by omega, by rw [show j = p by omega]; exact hb⟩) hd hm
  refine ⟨a, ?_, r⟩
  rw [b, show p + 1 - p = 1 by omega]
  show (10 * (0 : Int32) + bt (p + 0)) - 48 = _
  rw [Nat.add_zero, hb, show (10 * (0 : Int32)) = nI 0 by decide, nI_add, show (48 : Int32) = nI 48 from rfl, pk_sub (by omega)]
  exact congrArg nI (by omega)
def dgs (n : Nat) : List Nat := if n < 10 then [48 + n] else [49, 48 + (n - 10)]
theorem dgs_len (n : Nat) : 1 ≤ (dgs n).length ∧ (dgs n).length ≤ 2 := by
  unfold dgs; split
  · exact ⟨Nat.le_refl _, Nat.le_succ _⟩
  · exact ⟨Nat.le_succ _, Nat.le_refl _⟩
theorem tkNu (h : isToks bt z cnt ps TK TV TP) (hz : z ≤ 500) {n : Nat} (hj : j ≤ cnt) (hc : ps j = p) (hn : n ≤ 15) (hD : bsL bt p (dgs n)) (hp : p + (dgs n).length < z) (hd : bt (p + (dgs n).length) = nI c) (hm : nEnd c = true) : TK j = 4 ∧ TV j = nI n ∧ j + 1 ≤ cnt ∧ ps (j + 1) = p + (dgs n).length := by
  by_cases g : n < 10
  · have e : dgs n = [48 + n] := by unfold dgs; rw [if_pos g]
    rw [e] at hD hp hd ⊢
    exact tkDg h hz hj hc hp (hD.b 0 rfl) (Nat.ble_eq_true_of_le g) hd hm
  · have e : dgs n = [49, 48 + (n - 10)] := by unfold dgs; rw [if_neg g]
    rw [e] at hD hp hd ⊢
    have b0 : bt p = nI 49 := hD.b 0 rfl
    have b1 : bt (p + 1) = nI (48 + (n - 10)) := hD.b 1 rfl
    obtain ⟨a, b, r⟩ := tok_num (e := p + 2) h hz hj hc (by omega) hp (by omega) (fun j x y => by
      rcases (show j = p ∨ j = p + 1 by omega) with q | q
      · exact ⟨49, by omega, by omega, by rw [q]; exact b0⟩
      · exact ⟨48 + (n - 10), by omega, by omega, by rw [q]; exact b1⟩) hd hm
    refine ⟨a, ?_, r⟩
    rw [b, show p + 2 - p = 2 by omega]
    show (10 * ((10 * (0 : Int32) + bt (p + 0)) - 48) + bt (p + 1)) - 48 = _
    rw [Nat.add_zero, b0, b1, show (10 * ((10 * (0 : Int32) + nI 49) - 48)) = nI 10 by decide, nI_add, show (48 : Int32) = nI 48 from rfl, pk_sub (by omega)]
    exact congrArg nI (by omega)
/-- a word of the grammar: letters up to a place, blanks behind -/
def wOk (w len : Nat) : Bool := w < 12 && (2 ≤ len && (len ≤ 5 && (List.range 5).all (fun i => if i < len then (decide ¬ wch (5 * w + i) < 97 && decide ¬ 122 < wch (5 * w + i)) else decide (wch (5 * w + i) = 32))))
def wAt (l : List Nat) (off w len : Nat) : Bool := (List.range len).all (fun i => match l[off + i]? with
  | some c => decide (nI c = wch (5 * w + i))
  | none => false)
theorem bsL.w {l : List Nat} (h : bsL bt p l) (off : Nat) {w len : Nat} (hw : wAt l off w len = true) : ∀ i, i < len → bt (p + off + i) = wch (5 * w + i) := fun i hi => by
  have := List.all_eq_true.mp hw i (List.mem_range.mpr hi)
  cases hc : l[off + i]? with
  | none => rw [hc] at this; cases this
  | some c =>
    rw [hc] at this
    rw [Nat.add_assoc, h.b (off + i) hc]
    exact of_decide_eq_true this
theorem w_inj : ∀ a b : Fin 12, (∀ i : Fin 5, wch (5 * a.1 + i.1) = wch (5 * b.1 + i.1)) → a = b := by decide +kernel
theorem tkWd (h : isToks bt z cnt ps TK TV TP) (hz : z ≤ 500) {w len : Nat} (hj : j ≤ cnt) (hc : ps j = p) (hp : p + len < z) (hb : ∀ i, i < len → bt (p + i) = wch (5 * w + i)) (hw : wOk w len = true) (hd : bt (p + len) = nI c) (hm : nEnd c = true) : TK j = nI (w + 5) ∧ j + 1 ≤ cnt ∧ ps (j + 1) = p + len := by
  have t := h.2.1 j hj
  rw [hc] at t
  unfold nEnd at hm
  simp only [Bool.and_eq_true, Bool.not_eq_true', decide_eq_true_eq] at hm
  unfold wOk at hw
  simp only [Bool.and_eq_true, decide_eq_true_eq] at hw
  obtain ⟨w12, l2, l5, wa⟩ := hw
  have wi : ∀ i, i < 5 → (i < len → ¬ wch (5 * w + i) < 97 ∧ ¬ 122 < wch (5 * w + i)) ∧ (¬ i < len → wch (5 * w + i) = 32) := fun i hi => by
    have := List.all_eq_true.mp wa i (List.mem_range.mpr hi)
    by_cases g : i < len
    · rw [if_pos g] at this
      simp only [Bool.and_eq_true, decide_eq_true_eq] at this
      exact ⟨fun _ => this, fun q => absurd g q⟩
    · rw [if_neg g] at this
      exact ⟨fun q => absurd q g, fun _ => of_decide_eq_true this⟩
  have lt : ∀ j, p ≤ j → j < p + len → isLt (bt j) := fun j a b => by
    have e := hb (j - p) (by omega)
    rw [show p + (j - p) = j by omega] at e
    rw [e]; exact (wi (j - p) (by omega)).1 (by omega)
  have nd : ∀ j, p ≤ j → j < p + len → ¬ isDg (bt j) := fun j a b q => (lt j a b).1 (Int32.lt_of_le_of_lt (Int32.not_lt.mp q.2) (by decide))
  have nb : ¬ isBl (bt p) := fun q => by
    have := (lt p (Nat.le_refl _) (by omega)).1
    rcases q with q | q <;> rw [q] at this <;> exact this (by decide)
  obtain ⟨e1, x⟩ := tok_w (q := p) (e := p + len) t hz (Nat.le_refl _) (by omega) hp (fun j a b => by omega) nb (fun j a b => Or.inl (lt j a b)) (by rw [hd, ow_e hm.1, hm.2]; exact Bool.false_ne_true)
  have le : p + len - p = len := by omega
  have wm : wMt bt p len w := fun i hi => by
    by_cases g : i < len
    · rw [if_pos g]; exact hb i g
    · rw [if_neg g]; exact ((wi i hi).2 g).symm
  have r : TK j = nI (w + 5) := by
    rcases x with x | x | ⟨-, x⟩
    · exact absurd (x.1 p (Nat.le_refl _) (by omega)) (nd p (Nat.le_refl _) (by omega))
    · obtain ⟨⟨a, a1, a2, a3⟩, -⟩ := x
      exact absurd a3 (nd a a1 a2)
    · rw [le] at x
      rcases x with x | x | ⟨-, -, x⟩
      · omega
      · omega
      · rcases x with ⟨v, v12, vm, vk, -⟩ | ⟨-, x⟩
        · have := w_inj ⟨v, v12⟩ ⟨w, w12⟩ (fun i => by rw [← vm i.1 i.2, ← wm i.1 i.2])
          have : v = w := congrArg Fin.val this
          rw [vk, this]
        · exact absurd wm (x w w12)
  have ne0 : nI (w + 5) ≠ 0 := fun q => by
    have := (eqI (o := w + 5) (k := 0) (by omega) (by decide)).mp q
    omega
  have ne1 : nI (w + 5) ≠ 1 := fun q => by
    have := (eqI (o := w + 5) (k := 1) (by omega) (by decide)).mp q
    omega
  exact ⟨r, tk_go h hj (by rw [r]; exact ne0) (by rw [r]; exact ne1), e1⟩
/-- behind the last byte there is nothing -/
theorem tkEnd (h : isToks bt z cnt ps TK TV TP) (hz : z ≤ 500) (hj : j ≤ cnt) (hc : ps j = z) : TK j = 1 := by
  have t := h.2.1 j hj
  rw [hc] at t
  obtain ⟨q, a1, a2, a3, a4, x | x | x | x⟩ := t
  · omega
  · exact x.2.2.1
  · omega
  · omega
end TOK
