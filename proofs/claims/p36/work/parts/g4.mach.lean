/-! PART g4: a piece's orders are the law's piece -/
section OPS3
variable {P : Nat → Nat × Int32} {g : Int32} {F : Nat} {an : Nat → Int32} {pc bg ak x : Nat} {stk st : List Int32} {cs : List Nat} {nm cl : Nat → Int32} {sp a b v w : Int32} {ds : List Bool} {ys : Nat → Nat} {tr : List (Nat × (Nat → Int32))}
theorem xo_nm (h : P pc = (3, nI x)) (hx : x < 8) : p_step P g F an (pc, stk, cs, nm, cl, sp, bg, ds, ak, ys, tr) = .inl (pc + 1, nm x :: stk, cs, nm, cl, sp, bg, ds, ak, ys, tr) :=
  e_work h (by decide) (by show Except.ok (nm (nI x).toNatClampNeg :: stk) = _; rw [nI_clamp (by omega)])
theorem xo_num (h : P pc = (2, a)) : p_step P g F an (pc, stk, cs, nm, cl, sp, bg, ds, ak, ys, tr) = .inl (pc + 1, (a &&& g) :: stk, cs, nm, cl, sp, bg, ds, ak, ys, tr) := e_work h (by decide) rfl
theorem xo_add (h : P pc = (5, a)) : p_step P g F an (pc, b :: v :: st, cs, nm, cl, sp, bg, ds, ak, ys, tr) = .inl (pc + 1, ((v + b) &&& g) :: st, cs, nm, cl, sp, bg, ds, ak, ys, tr) := e_work h (by decide) rfl
theorem xo_mul (h : P pc = (7, a)) : p_step P g F an (pc, b :: v :: st, cs, nm, cl, sp, bg, ds, ak, ys, tr) = .inl (pc + 1, ((v * b) &&& g) :: st, cs, nm, cl, sp, bg, ds, ak, ys, tr) := e_work h (by decide) rfl
theorem xo_div (h : P pc = (8, a)) (hb : ¬ b = 0) : p_step P g F an (pc, b :: v :: st, cs, nm, cl, sp, bg, ds, ak, ys, tr) = .inl (pc + 1, ((v / b) &&& g) :: st, cs, nm, cl, sp, bg, ds, ak, ys, tr) := e_work h (by decide) (by show (if b = 0 then _ else _) = _; rw [if_neg hb])
theorem xo_div0 (h : P pc = (8, a)) : p_step P g F an (pc, 0 :: v :: st, cs, nm, cl, sp, bg, ds, ak, ys, tr) = .inr (2, sp, (pc, 0 :: v :: st, cs, nm, cl, sp, bg, ds, ak, ys, tr)) := e_fail h (by decide) rfl
theorem xo_lt (h : P pc = (9, a)) : p_step P g F an (pc, b :: v :: st, cs, nm, cl, sp, bg, ds, ak, ys, tr) = .inl (pc + 1, p_b (decide (v < b)) :: st, cs, nm, cl, sp, bg, ds, ak, ys, tr) := e_work h (by decide) rfl
theorem xo_gt (h : P pc = (11, a)) : p_step P g F an (pc, b :: v :: st, cs, nm, cl, sp, bg, ds, ak, ys, tr) = .inl (pc + 1, p_b (decide (b < v)) :: st, cs, nm, cl, sp, bg, ds, ak, ys, tr) := e_work h (by decide) rfl
theorem xo_ne (h : P pc = (12, a)) : p_step P g F an (pc, b :: v :: st, cs, nm, cl, sp, bg, ds, ak, ys, tr) = .inl (pc + 1, p_b (decide (¬ v = b)) :: st, cs, nm, cl, sp, bg, ds, ak, ys, tr) := e_work h (by decide) rfl
theorem xo_cell (h : P pc = (4, a)) (hv : v ≤ 7) : p_step P g F an (pc, v :: st, cs, nm, cl, sp, bg, ds, ak, ys, tr) = .inl (pc + 1, cl v.toNatClampNeg :: st, cs, nm, cl, sp, bg, ds, ak, ys, tr) := e_work h (by decide) (by show (if v ≤ 7 then _ else _) = _; rw [if_pos hv])
theorem xo_cellN (h : P pc = (4, a)) (hv : ¬ v ≤ 7) : p_step P g F an (pc, v :: st, cs, nm, cl, sp, bg, ds, ak, ys, tr) = .inr (3, sp, (pc, v :: st, cs, nm, cl, sp, bg, ds, ak, ys, tr)) := e_fail h (by decide) (by show (if v ≤ 7 then _ else _) = _; rw [if_neg hv])
theorem xo_15 (h : P pc = (15, nI x)) (hx : x < 8) : p_step P g F an (pc, v :: st, cs, nm, cl, sp, bg, ds, ak, ys, tr) = .inl (pc + 1, st, cs, va_up nm x v, cl, sp, bg, ds, ak, ys, tr) := by
  have := e_15 (P := P) (g := g) (F := F) (an := an) (pc := pc) (v := v) (st := st) (cs := cs) (nm := nm) (cl := cl) (sp := sp) (bg := bg) (ds := ds) (ak := ak) (ys := ys) (tr := tr) h
  rw [nI_clamp (show x < 2 ^ 31 by omega)] at this; exact this
theorem xo_21 (h : P pc = (21, a)) (hv : v = 1) : p_step P g F an (pc, v :: st, cs, nm, cl, sp, bg, ds, ak, ys, tr) = .inl (pc + 1, st, cs, nm, cl, sp, bg, ds ++ [true], ak, va_up ys sp.toNatClampNeg (ys sp.toNatClampNeg + 1), tr) := by subst hv; exact e_21 h
theorem xo_21n {t : Nat} (h : P pc = (21, nI t)) (ht : t < 2 ^ 31) (hv : v = 0) : p_step P g F an (pc, v :: st, cs, nm, cl, sp, bg, ds, ak, ys, tr) = .inl (t, st, cs, nm, cl, sp, bg, ds ++ [false], ak, ys, tr) := by
  subst hv
  have := e_21n (P := P) (g := g) (F := F) (an := an) (pc := pc) (v := 0) (st := st) (cs := cs) (nm := nm) (cl := cl) (sp := sp) (bg := bg) (ds := ds) (ak := ak) (ys := ys) (tr := tr) h (by decide)
  rw [nI_clamp ht] at this; exact this
theorem xo_22 {t : Nat} (h : P pc = (22, nI t)) (ht : t < 2 ^ 31) : p_step P g F an (pc, stk, cs, nm, cl, sp, bg, ds, ak, ys, tr) = .inl (t, stk, cs, nm, cl, sp, bg, ds, ak, ys, tr) := by
  have := e_22 (P := P) (g := g) (F := F) (an := an) (pc := pc) (stk := stk) (cs := cs) (nm := nm) (cl := cl) (sp := sp) (bg := bg) (ds := ds) (ak := ak) (ys := ys) (tr := tr) h
  rw [nI_clamp ht] at this; exact this
end OPS3
/-- what is kept of names, cells, counts -/
def LB (B F m : Nat) : LSt → Prop
  | (nm, cl, bg, ds) => (∀ k, k < 8 → rg B (nm k)) ∧ (∀ k, k < 8 → rg B (cl k)) ∧ bg ≤ m + 3 * ds.length ∧ ds.length ≤ F
def PEis (E : PE) (e sp : Int32) : LSt → Prop
  | (nm, cl, bg, ds) => ∃ pc stk cs sp0 ak ys tr, E = (e, sp, (pc, stk, cs, nm, cl, sp0, bg, ds, ak, ys, tr))
def PcR (P : Nat → Nat × Int32) (g : Int32) (F : Nat) (an : Nat → Int32) (B m c' : Nat) (S0 : PS) : Sum LSt (Int32 × Int32 × LSt) → Prop
  | .inl (nm, cl, bg, ds) => LB B F (m + 1) (nm, cl, bg, ds) ∧ ∃ sp ys tr, Mv P g F an S0 (c', [], [], nm, cl, sp, bg, ds, 0, ys, tr)
  | .inr (e, sp, st) => ∃ E, Me P g F an S0 E ∧ PEis E e sp st
theorem PcR.mv {P : Nat → Nat × Int32} {g : Int32} {F : Nat} {an : Nat → Int32} {B m c' : Nat} {S0 S1 : PS} {R : Sum LSt (Int32 × Int32 × LSt)} (h : Mv P g F an S0 S1) (h2 : PcR P g F an B m c' S1 R) : PcR P g F an B m c' S0 R := by
  match R, h2 with
  | .inl (nm, cl, bg, ds), ⟨a, sp, ys, tr, b⟩ => exact ⟨a, sp, ys, tr, h.tr b⟩
  | .inr (e, sp, st), ⟨E, a, b⟩ => exact ⟨E, h.me a, b⟩
theorem mk_one {B : Nat} (h2 : 2 ≤ B) (h6 : B ≤ 6) : nI 1 &&& mk B = 1 ∧ nI 2 &&& mk B = 2 := by
  rcases (show B = 2 ∨ B = 3 ∨ B = 4 ∨ B = 5 ∨ B = 6 by omega) with e | e | e | e | e <;> subst e <;> decide +kernel
theorem rg_up {B k : Nat} {f : Nat → Int32} {v : Int32} (h : ∀ k, k < 8 → rg B (f k)) (hv : rg B v) : ∀ j, j < 8 → rg B (va_up f k v j) := fun j hj => by
  by_cases q : j = k
  · subst q; rw [ap_s]; exact hv
  · rw [ap_n q]; exact h j hj
theorem rg_div {B : Nat} (hB : B ≤ 6) {a b : Int32} (ha : rg B a) (hb : rg B b) (h0 : ¬ b = 0) : (a / b) &&& mk B = a / b ∧ rg B (a / b) := by
  obtain ⟨i, hi, rfl⟩ := ha
  obtain ⟨j, hj, rfl⟩ := hb
  have p6 : 2 ^ B ≤ 64 := Nat.pow_le_pow_right (n := 2) (by decide) hB
  have j0 : 0 < j := by
    rcases Nat.eq_zero_or_pos j with e | e
    · subst e; exact absurd rfl h0
    · exact e
  rw [pk_div (by omega) j0 (by omega)]
  have le : i / j ≤ i := Nat.div_le_self _ _
  refine ⟨?_, i / j, by omega, rfl⟩
  rw [and_mk hB (by omega), Nat.mod_eq_of_lt (by omega)]
section PCM
variable {P : Nat → Nat × Int32} {F : Nat} {an : Nat → Int32} {B m c n s bg : Nat} {nm cl : Nat → Int32} {sp : Int32} {ds : List Bool} {ys : Nat → Nat} {tr : List (Nat × (Nat → Int32))}
/-- the orders of a list stand from a place on -/
def At' (P : Nat → Nat × Int32) (c : Nat) (l : List (Nat × Int32)) : Prop := ∀ j, j < l.length → P (c + j) = l.getD j (0, 0)
theorem At'.k {l : List (Nat × Int32)} (h : At' P c l) (j : Nat) (hj : Nat.ble (j + 1) l.length = true) : P (c + j) = l.getD j (0, 0) := h j (Nat.le_of_ble_eq_true hj)
theorem xo_one {pc ak : Nat} {stk : List Int32} {cs : List Nat} (h2 : 2 ≤ B) (h6 : B ≤ 6) (h : P pc = (2, nI 1)) : p_step P (mk B) F an (pc, stk, cs, nm, cl, sp, bg, ds, ak, ys, tr) = .inl (pc + 1, 1 :: stk, cs, nm, cl, sp, bg, ds, ak, ys, tr) := by
  rw [xo_num h, (mk_one h2 h6).1]
theorem xo_two {pc ak : Nat} {stk : List Int32} {cs : List Nat} (h2 : 2 ≤ B) (h6 : B ≤ 6) (h : P pc = (2, nI 2)) : p_step P (mk B) F an (pc, stk, cs, nm, cl, sp, bg, ds, ak, ys, tr) = .inl (pc + 1, 2 :: stk, cs, nm, cl, sp, bg, ds, ak, ys, tr) := by
  rw [xo_num h, (mk_one h2 h6).2]
theorem len_s {α : Type} (ds : List α) (b : α) : (ds ++ [b]).length = ds.length + 1 := List.length_append
theorem mc_0 (hP : At' P c (pcO 0 n s c)) (h6 : B ≤ 6) (hF : F ≤ 40) (hm : m ≤ 20) (hb : LB B F m (nm, cl, bg, ds)) : PcR P (mk B) F an B m (c + 5) (c, [], [], nm, cl, sp, bg, ds, 0, ys, tr) (lwP (mk B) F 0 n s (nm, cl, bg, ds)) := by
  obtain ⟨b1, b2, b3, b4⟩ := hb
  refine ⟨⟨rg_up b1 (mk_rg h6 _), b2, by omega, b4⟩, _, _, _, Mv.st (e_0 (hP.k 0 rfl) (by omega)) (Mv.st (xo_nm (x := 0) (hP.k 1 rfl) (by decide)) (Mv.st (xo_num (hP.k 2 rfl)) (Mv.st (xo_add (hP.k 3 rfl)) (Mv.st (xo_15 (x := 1) (hP.k 4 rfl) (by decide)) Mv.rf))))⟩
theorem mc_1 (hP : At' P c (pcO 1 n s c)) (h2 : 2 ≤ B) (h6 : B ≤ 6) (hF : F ≤ 40) (hm : m ≤ 20) (hc : c ≤ 1000) (hb : LB B F m (nm, cl, bg, ds)) : PcR P (mk B) F an B m (c + 16) (c, [], [], nm, cl, sp, bg, ds, 0, ys, tr) (lwP (mk B) F 1 n s (nm, cl, bg, ds)) := by
  obtain ⟨b1, b2, b3, b4⟩ := hb
  show PcR P (mk B) F an B m (c + 16) _ (if ds.length = F then _ else if nm 0 < nI n &&& mk B then _ else _)
  by_cases q : ds.length = F
  · rw [if_pos q]
    exact ⟨_, Me.st (e_1F (hP.k 0 rfl) q), _, _, _, _, _, _, _, rfl⟩
  · rw [if_neg q]
    refine PcR.mv (Mv.st (e_1 (hP.k 0 rfl) (by omega) q) (Mv.st (xo_nm (x := 0) (hP.k 1 rfl) (by decide)) (Mv.st (xo_num (hP.k 2 rfl)) (Mv.st (xo_lt (hP.k 3 rfl)) Mv.rf)))) ?_
    by_cases r : nm 0 < nI n &&& mk B
    · rw [if_pos r]
      refine ⟨⟨rg_up b1 (mk_rg h6 _), b2, by rw [len_s]; omega, by rw [len_s]; omega⟩, _, _, _, Mv.st (xo_21 (hP.k 4 rfl) (by rw [decide_eq_true r]; rfl)) (Mv.st (e_0 (hP.k 5 rfl) (by omega)) (Mv.st (xo_nm (x := 2) (hP.k 6 rfl) (by decide)) (Mv.st (xo_one h2 h6 (hP.k 7 rfl)) (Mv.st (xo_add (hP.k 8 rfl)) (Mv.st (xo_15 (x := 2) (hP.k 9 rfl) (by decide)) (Mv.st (xo_22 (t := c + 16) (hP.k 10 rfl) (by omega)) Mv.rf))))))⟩
    · rw [if_neg r]
      refine ⟨⟨rg_up b1 (mk_rg h6 _), b2, by rw [len_s]; omega, by rw [len_s]; omega⟩, _, _, _, Mv.st (xo_21n (t := c + 11) (hP.k 4 rfl) (by omega) (by rw [decide_eq_false r]; rfl)) (Mv.st (e_0 (hP.k 11 rfl) (by omega)) (Mv.st (xo_nm (x := 2) (hP.k 12 rfl) (by decide)) (Mv.st (xo_two h2 h6 (hP.k 13 rfl)) (Mv.st (xo_mul (hP.k 14 rfl)) (Mv.st (xo_15 (x := 2) (hP.k 15 rfl) (by decide)) Mv.rf)))))⟩
theorem mc_2l (hP : At' P c (pcO 2 n s c)) (h2 : 2 ≤ B) (h6 : B ≤ 6) (hF : F ≤ 40) (hm : m ≤ 20) (hc : c ≤ 1000) : ∀ (f : Nat) (nm cl : Nat → Int32) (bg : Nat) (ds : List Bool) (sp : Int32) (ys : Nat → Nat) (tr : List (Nat × (Nat → Int32))), F + 1 ≤ f + ds.length → LB B F m (nm, cl, bg, ds) →
    PcR P (mk B) F an B m (c + 16) (c, [], [], nm, cl, sp, bg, ds, 0, ys, tr) (lwW (mk B) F (nI n &&& mk B) s f (nm, cl, bg + 1, ds)) := by
  intro f
  induction f with
  | zero => intro nm cl bg ds sp ys tr hf hb; have := hb.2.2.2; omega
  | succ f ih =>
    intro nm cl bg ds sp ys tr hf hb
    obtain ⟨b1, b2, b3, b4⟩ := hb
    show PcR P (mk B) F an B m (c + 16) _ (if ds.length = F then _ else if nm 2 < nI n &&& mk B then _ else _)
    by_cases q : ds.length = F
    · rw [if_pos q]
      exact ⟨_, Me.st (e_1F (hP.k 0 rfl) q), _, _, _, _, _, _, _, rfl⟩
    · rw [if_neg q]
      refine PcR.mv (Mv.st (e_1 (hP.k 0 rfl) (by omega) q) (Mv.st (xo_nm (x := 2) (hP.k 1 rfl) (by decide)) (Mv.st (xo_num (hP.k 2 rfl)) (Mv.st (xo_lt (hP.k 3 rfl)) Mv.rf)))) ?_
      by_cases r : nm 2 < nI n &&& mk B
      · rw [if_pos r]
        refine PcR.mv (Mv.st (xo_21 (hP.k 4 rfl) (by rw [decide_eq_true r]; rfl)) (Mv.st (e_0 (hP.k 5 rfl) (by omega)) (Mv.st (xo_nm (x := 2) (hP.k 6 rfl) (by decide)) (Mv.st (xo_one h2 h6 (hP.k 7 rfl)) (Mv.st (xo_add (hP.k 8 rfl)) (Mv.st (xo_15 (x := 2) (hP.k 9 rfl) (by decide)) (Mv.st (e_0 (hP.k 10 rfl) (by omega)) (Mv.st (xo_nm (x := 3) (hP.k 11 rfl) (by decide)) (Mv.st (xo_nm (x := 0) (hP.k 12 rfl) (by decide)) (Mv.st (xo_add (hP.k 13 rfl)) (Mv.st (xo_15 (x := 3) (hP.k 14 rfl) (by decide)) (Mv.st (xo_22 (t := c) (hP.k 15 rfl) (by omega)) Mv.rf)))))))))))) ?_
        exact ih _ cl (bg + 3) (ds ++ [true]) _ _ _ (by rw [len_s]; omega) ⟨rg_up (rg_up b1 (mk_rg h6 _)) (mk_rg h6 _), b2, by rw [len_s]; omega, by rw [len_s]; omega⟩
      · rw [if_neg r]
        exact ⟨⟨b1, b2, by rw [len_s]; omega, by rw [len_s]; omega⟩, _, _, _, Mv.st (xo_21n (t := c + 16) (hP.k 4 rfl) (by omega) (by rw [decide_eq_false r]; rfl)) Mv.rf⟩
theorem mc_2 (hP : At' P c (pcO 2 n s c)) (h2 : 2 ≤ B) (h6 : B ≤ 6) (hF : F ≤ 40) (hm : m ≤ 20) (hc : c ≤ 1000) (hb : LB B F m (nm, cl, bg, ds)) : PcR P (mk B) F an B m (c + 16) (c, [], [], nm, cl, sp, bg, ds, 0, ys, tr) (lwP (mk B) F 2 n s (nm, cl, bg, ds)) :=
  mc_2l hP h2 h6 hF hm hc (F + 1) nm cl bg ds sp ys tr (by omega) hb
theorem mc_3 (hP : At' P c (pcO 3 n s c)) (hF : F ≤ 40) (hm : m ≤ 20) (hb : LB B F m (nm, cl, bg, ds)) : PcR P (mk B) F an B m (c + 5) (c, [], [], nm, cl, sp, bg, ds, 0, ys, tr) (lwP (mk B) F 3 n s (nm, cl, bg, ds)) := by
  obtain ⟨b1, b2, b3, b4⟩ := hb
  refine PcR.mv (Mv.st (e_0 (hP.k 0 rfl) (by omega)) (Mv.st (xo_nm (x := 1) (hP.k 1 rfl) (by decide)) (Mv.st (xo_num (hP.k 2 rfl)) (Mv.st (xo_ne (hP.k 3 rfl)) Mv.rf)))) ?_
  show PcR P (mk B) F an B m (c + 5) _ (if nm 1 = nI n &&& mk B then _ else _)
  by_cases q : nm 1 = nI n &&& mk B
  · rw [if_pos q, decide_eq_false (fun x => x q)]
    exact ⟨_, Me.st (e_17n (hP.k 4 rfl)), _, _, _, _, _, _, _, rfl⟩
  · rw [if_neg q, decide_eq_true q]
    exact ⟨⟨b1, b2, by omega, b4⟩, _, _, _, Mv.st (e_17 (hP.k 4 rfl) (by decide)) Mv.rf⟩
theorem mc_4 (hP : At' P c (pcO 4 n s c)) (hF : F ≤ 40) (hm : m ≤ 20) (hb : LB B F m (nm, cl, bg, ds)) : PcR P (mk B) F an B m (c + 5) (c, [], [], nm, cl, sp, bg, ds, 0, ys, tr) (lwP (mk B) F 4 n s (nm, cl, bg, ds)) := by
  obtain ⟨b1, b2, b3, b4⟩ := hb
  refine PcR.mv (Mv.st (e_0 (hP.k 0 rfl) (by omega)) (Mv.st (xo_nm (x := 0) (hP.k 1 rfl) (by decide)) (Mv.st (xo_num (hP.k 2 rfl)) (Mv.st (xo_gt (hP.k 3 rfl)) Mv.rf)))) ?_
  show PcR P (mk B) F an B m (c + 5) _ (if nm 0 ≤ nI n &&& mk B then _ else _)
  by_cases q : nm 0 ≤ nI n &&& mk B
  · rw [if_pos q, decide_eq_false (Int32.not_lt.mpr q)]
    exact ⟨_, Me.st (e_18n (hP.k 4 rfl)), _, _, _, _, _, _, _, rfl⟩
  · rw [if_neg q, decide_eq_true (Int32.not_le.mp q)]
    exact ⟨⟨b1, b2, by omega, b4⟩, _, _, _, Mv.st (e_18 (hP.k 4 rfl) (by decide)) Mv.rf⟩
theorem mc_5 (hP : At' P c (pcO 5 n s c)) (h6 : B ≤ 6) (hF : F ≤ 40) (hm : m ≤ 20) (hb : LB B F m (nm, cl, bg, ds)) : PcR P (mk B) F an B m (c + 5) (c, [], [], nm, cl, sp, bg, ds, 0, ys, tr) (lwP (mk B) F 5 n s (nm, cl, bg, ds)) := by
  obtain ⟨b1, b2, b3, b4⟩ := hb
  refine PcR.mv (Mv.st (e_0 (hP.k 0 rfl) (by omega)) (Mv.st (xo_nm (x := 0) (hP.k 1 rfl) (by decide)) (Mv.st (xo_nm (x := 1) (hP.k 2 rfl) (by decide)) Mv.rf))) ?_
  show PcR P (mk B) F an B m (c + 5) _ (if nm 1 = 0 then _ else _)
  by_cases q : nm 1 = 0
  · rw [if_pos q, q]
    exact ⟨_, Me.st (xo_div0 (hP.k 3 rfl)), _, _, _, _, _, _, _, rfl⟩
  · rw [if_neg q]
    obtain ⟨e, r⟩ := rg_div h6 (b1 0 (by decide)) (b1 1 (by decide)) q
    refine PcR.mv (Mv.st (xo_div (hP.k 3 rfl) q) Mv.rf) ?_
    rw [e]
    exact ⟨⟨rg_up b1 r, b2, by omega, b4⟩, _, _, _, Mv.st (xo_15 (x := 3) (hP.k 4 rfl) (by decide)) Mv.rf⟩
theorem mc_6 (hP : At' P c (pcO 6 n s c)) (hF : F ≤ 40) (hm : m ≤ 20) (hb : LB B F m (nm, cl, bg, ds)) : PcR P (mk B) F an B m (c + 6) (c, [], [], nm, cl, sp, bg, ds, 0, ys, tr) (lwP (mk B) F 6 n s (nm, cl, bg, ds)) := by
  obtain ⟨b1, b2, b3, b4⟩ := hb
  refine PcR.mv (Mv.st (e_0 (hP.k 0 rfl) (by omega)) (Mv.st (xo_nm (x := 1) (hP.k 1 rfl) (by decide)) (Mv.st (xo_num (hP.k 2 rfl)) (Mv.st (xo_add (hP.k 3 rfl)) (Mv.st (xo_nm (x := 0) (hP.k 4 rfl) (by decide)) Mv.rf))))) ?_
  show PcR P (mk B) F an B m (c + 6) _ (if 7 < (nm 1 + (nI n &&& mk B)) &&& mk B then _ else _)
  by_cases q : 7 < (nm 1 + (nI n &&& mk B)) &&& mk B
  · rw [if_pos q]
    exact ⟨_, Me.st (e_16n (hP.k 5 rfl) (Int32.not_le.mpr q)), _, _, _, _, _, _, _, rfl⟩
  · rw [if_neg q]
    exact ⟨⟨b1, rg_up b2 (b1 0 (by decide)), by omega, b4⟩, _, _, _, Mv.st (e_16 (hP.k 5 rfl) (Int32.not_lt.mp q)) Mv.rf⟩
theorem mc_7 (hP : At' P c (pcO 7 n s c)) (h6 : B ≤ 6) (hF : F ≤ 40) (hm : m ≤ 20) (hb : LB B F m (nm, cl, bg, ds)) : PcR P (mk B) F an B m (c + 6) (c, [], [], nm, cl, sp, bg, ds, 0, ys, tr) (lwP (mk B) F 7 n s (nm, cl, bg, ds)) := by
  obtain ⟨b1, b2, b3, b4⟩ := hb
  refine PcR.mv (Mv.st (e_0 (hP.k 0 rfl) (by omega)) (Mv.st (xo_num (hP.k 1 rfl)) Mv.rf)) ?_
  show PcR P (mk B) F an B m (c + 6) _ (if 7 < nI n &&& mk B then _ else _)
  by_cases q : 7 < nI n &&& mk B
  · rw [if_pos q]
    exact ⟨_, Me.st (xo_cellN (hP.k 2 rfl) (Int32.not_le.mpr q)), _, _, _, _, _, _, _, rfl⟩
  · rw [if_neg q]
    exact ⟨⟨rg_up b1 (mk_rg h6 _), b2, by omega, b4⟩, _, _, _, Mv.st (xo_cell (hP.k 2 rfl) (Int32.not_lt.mp q)) (Mv.st (xo_nm (x := 3) (hP.k 3 rfl) (by decide)) (Mv.st (xo_add (hP.k 4 rfl)) (Mv.st (xo_15 (x := 7) (hP.k 5 rfl) (by decide)) Mv.rf)))⟩
theorem mc_piece {k : Nat} (hk : k < 8) (hP : At' P c (pcO k n s c)) (h2 : 2 ≤ B) (h6 : B ≤ 6) (hF : F ≤ 40) (hm : m ≤ 20) (hc : c ≤ 1000) (hb : LB B F m (nm, cl, bg, ds)) : PcR P (mk B) F an B m (c + (pcO k n s c).length) (c, [], [], nm, cl, sp, bg, ds, 0, ys, tr) (lwP (mk B) F k n s (nm, cl, bg, ds)) := by
  rcases (show k = 0 ∨ k = 1 ∨ k = 2 ∨ k = 3 ∨ k = 4 ∨ k = 5 ∨ k = 6 ∨ k = 7 by omega) with e | e | e | e | e | e | e | e <;> subst e
  · exact mc_0 hP h6 hF hm hb
  · exact mc_1 hP h2 h6 hF hm hc hb
  · exact mc_2 hP h2 h6 hF hm hc hb
  · exact mc_3 hP hF hm hb
  · exact mc_4 hP hF hm hb
  · exact mc_5 hP h6 hF hm hb
  · exact mc_6 hP hF hm hb
  · exact mc_7 hP h6 hF hm hb
/-- a list of pieces -/
theorem plO_app : ∀ (ps : List (Nat × Nat)) (s : Nat) (l : List (Nat × Int32)), ∃ t, plO ps s l = l ++ t
  | [], s, l => ⟨[], by rw [List.append_nil]; rfl⟩
  | p :: ps, s, l => by
    obtain ⟨t, e⟩ := plO_app ps (s + pcN p.1) (l ++ pcO p.1 p.2 s l.length)
    exact ⟨pcO p.1 p.2 s l.length ++ t, by rw [← List.append_assoc]; exact e⟩
theorem mc_list : ∀ (ps : List (Nat × Nat)) (s m : Nat) (l : List (Nat × Int32)) (nm cl : Nat → Int32) (bg : Nat) (ds : List Bool) (sp : Int32) (ys : Nat → Nat) (tr : List (Nat × (Nat → Int32))), (∀ p, p ∈ ps → p.1 < 8) → m + ps.length ≤ 20 → (plO ps s l).length ≤ 1000 → (∀ j, j < (plO ps s l ++ [(25, 0)]).length → P j = (plO ps s l ++ [(25, 0)]).getD j (0, 0)) → 2 ≤ B → B ≤ 6 → F ≤ 40 → LB B F m (nm, cl, bg, ds) →
    ∃ E, Me P (mk B) F an (l.length, [], [], nm, cl, sp, bg, ds, 0, ys, tr) E ∧ PEis E (lwR (mk B) F ps s (nm, cl, bg, ds)).1 (lwR (mk B) F ps s (nm, cl, bg, ds)).2.1 (lwR (mk B) F ps s (nm, cl, bg, ds)).2.2
  | [], s, m, l, nm, cl, bg, ds, sp, ys, tr, hp, hm, hl, hP, h2, h6, hF, hb => by
    have e : P l.length = (25, 0) := by
      have := hP l.length (by show l.length < (l ++ _).length; rw [List.length_append]; exact Nat.lt_succ_self _)
      rw [this]
      exact getD_app l [(25, 0)] 0 (0, 0)
    exact ⟨_, Me.st (e_25 e), _, _, _, _, _, _, _, rfl⟩
  | p :: ps, s, m, l, nm, cl, bg, ds, sp, ys, tr, hp, hm, hl, hP, h2, h6, hF, hb => by
    have ep : (p :: ps).length = ps.length + 1 := rfl
    rw [ep] at hm
    obtain ⟨t, et⟩ := plO_app ps (s + pcN p.1) (l ++ pcO p.1 p.2 s l.length)
    have et : plO (p :: ps) s l = l ++ pcO p.1 p.2 s l.length ++ t := et
    have lc : l.length ≤ 1000 := by rw [et, List.length_append, List.length_append] at hl; omega
    have at' : At' P l.length (pcO p.1 p.2 s l.length) := fun j hj => by
      have := hP (l.length + j) (by rw [et, List.length_append, List.length_append, List.length_append]; omega)
      rw [this, et, List.append_assoc, List.append_assoc, getD_app, List.getD_eq_getElem?_getD, List.getElem?_append_left hj, ← List.getD_eq_getElem?_getD]
    have r := mc_piece (an := an) (sp := sp) (ys := ys) (tr := tr) (hp p List.mem_cons_self) at' h2 h6 hF (show m ≤ 20 by omega) lc hb
    show ∃ E, _ ∧ PEis E (match lwP (mk B) F p.1 p.2 s (nm, cl, bg, ds) with | .inl st' => lwR (mk B) F ps (s + pcN p.1) st' | .inr e => e).1 (match lwP (mk B) F p.1 p.2 s (nm, cl, bg, ds) with | .inl st' => lwR (mk B) F ps (s + pcN p.1) st' | .inr e => e).2.1 (match lwP (mk B) F p.1 p.2 s (nm, cl, bg, ds) with | .inl st' => lwR (mk B) F ps (s + pcN p.1) st' | .inr e => e).2.2
    cases hR : lwP (mk B) F p.1 p.2 s (nm, cl, bg, ds) with
    | inl st' =>
      obtain ⟨nm', cl', bg', ds'⟩ := st'
      rw [hR] at r
      obtain ⟨b', sp', ys', tr', mv⟩ := r
      obtain ⟨E, me, pe⟩ := mc_list ps (s + pcN p.1) (m + 1) (l ++ pcO p.1 p.2 s l.length) nm' cl' bg' ds' sp' ys' tr' (fun q hq => hp q (List.mem_cons_of_mem _ hq)) (by omega) hl hP h2 h6 hF b'
      rw [List.length_append] at me
      exact ⟨E, mv.me me, pe⟩
    | inr e =>
      obtain ⟨e, sp', st'⟩ := e
      rw [hR] at r
      exact r
end PCM
