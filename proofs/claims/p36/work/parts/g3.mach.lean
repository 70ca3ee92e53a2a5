/-! PART g3: the law's own run, as a function; a piece's orders do the same -/
/-- names, cells, how many steps were begun, decisions -/
abbrev LSt : Type := (Nat → Int32) × (Nat → Int32) × Nat × List Bool
def lwW (g : Int32) (F : Nat) (x : Int32) (s : Nat) : Nat → LSt → Sum LSt (Int32 × Int32 × LSt)
  | 0, st => .inr (5, nI s, st)
  | f + 1, (nm, cl, bg, ds) => if ds.length = F then .inr (5, nI s, (nm, cl, bg, ds)) else if nm 2 < x then lwW g F x s f (va_up (va_up nm 2 ((nm 2 + 1) &&& g)) 3 ((nm 3 + nm 0) &&& g), cl, bg + 3, ds ++ [true]) else .inl (nm, cl, bg, ds ++ [false])
def lwP (g : Int32) (F k n s : Nat) : LSt → Sum LSt (Int32 × Int32 × LSt)
  | (nm, cl, bg, ds) => match k with
    | 0 => .inl (va_up nm 1 ((nm 0 + (nI n &&& g)) &&& g), cl, bg + 1, ds)
    | 1 => if ds.length = F then .inr (5, nI s, (nm, cl, bg + 1, ds)) else if nm 0 < nI n &&& g then .inl (va_up nm 2 ((nm 2 + 1) &&& g), cl, bg + 2, ds ++ [true]) else .inl (va_up nm 2 ((nm 2 * 2) &&& g), cl, bg + 2, ds ++ [false])
    | 2 => lwW g F (nI n &&& g) s (F + 1) (nm, cl, bg + 1, ds)
    | 3 => if nm 1 = nI n &&& g then .inr (1, nI s, (nm, cl, bg + 1, ds)) else .inl (nm, cl, bg + 1, ds)
    | 4 => if nm 0 ≤ nI n &&& g then .inr (4, nI s, (nm, cl, bg + 1, ds)) else .inl (nm, cl, bg + 1, ds)
    | 5 => if nm 1 = 0 then .inr (2, nI s, (nm, cl, bg + 1, ds)) else .inl (va_up nm 3 (nm 0 / nm 1), cl, bg + 1, ds)
    | 6 => if 7 < (nm 1 + (nI n &&& g)) &&& g then .inr (3, nI s, (nm, cl, bg + 1, ds)) else .inl (nm, va_up cl ((nm 1 + (nI n &&& g)) &&& g).toNatClampNeg (nm 0), bg + 1, ds)
    | _ => if 7 < nI n &&& g then .inr (3, nI s, (nm, cl, bg + 1, ds)) else .inl (va_up nm 7 ((cl (nI n &&& g).toNatClampNeg + nm 3) &&& g), cl, bg + 1, ds)
def lwR (g : Int32) (F : Nat) : List (Nat × Nat) → Nat → LSt → Int32 × Int32 × LSt
  | [], _, st => (0, -1, st)
  | p :: ps, s, st => match lwP g F p.1 p.2 s st with
    | .inl st' => lwR g F ps (s + pcN p.1) st'
    | .inr e => e
/-- runs of the machine, in steps -/
def Mv (P : Nat → Nat × Int32) (g : Int32) (F : Nat) (an : Nat → Int32) (S S' : PS) : Prop := ∃ m, ∀ N, p_run P g F an (m + N) S = p_run P g F an N S'
def Me (P : Nat → Nat × Int32) (g : Int32) (F : Nat) (an : Nat → Int32) (S : PS) (E : PE) : Prop := ∃ m, p_run P g F an m S = some E
section MV
variable {P : Nat → Nat × Int32} {g : Int32} {F : Nat} {an : Nat → Int32} {S S' S2 : PS} {E : PE}
theorem Mv.rf : Mv P g F an S S := ⟨0, fun N => by rw [Nat.zero_add]⟩
theorem Mv.tr (h : Mv P g F an S S') (h2 : Mv P g F an S' S2) : Mv P g F an S S2 := by
  obtain ⟨m, a⟩ := h
  obtain ⟨m2, b⟩ := h2
  exact ⟨m + m2, fun N => by rw [Nat.add_assoc, a, b]⟩
theorem Mv.st (h : p_step P g F an S = .inl S') (h2 : Mv P g F an S' S2) : Mv P g F an S S2 := Mv.tr ⟨1, fun N => by
  rw [Nat.add_comm]
  show (match p_step P g F an S with | .inl S' => p_run P g F an N S' | .inr e => some e) = _
  rw [h]⟩ h2
theorem Mv.me (h : Mv P g F an S S') (h2 : Me P g F an S' E) : Me P g F an S E := by
  obtain ⟨m, a⟩ := h
  obtain ⟨m2, b⟩ := h2
  exact ⟨m + m2, by rw [a, b]⟩
theorem Me.st (h : p_step P g F an S = .inr E) : Me P g F an S E := ⟨1, by
  show (match p_step P g F an S with | .inl S' => p_run P g F an 0 S' | .inr e => some e) = _
  rw [h]⟩
end MV
section OPS2
variable {P : Nat → Nat × Int32} {g : Int32} {F : Nat} {an : Nat → Int32} {pc bg ak : Nat} {stk st : List Int32} {cs : List Nat} {nm cl : Nat → Int32} {sp a b x v : Int32} {ds : List Bool} {ys : Nat → Nat} {tr : List (Nat × (Nat → Int32))} {o : Nat}
theorem e_work {w : List Int32} (h : P pc = (o, a)) (ho : 2 ≤ o ∧ o ≤ 14) (hw : p_work g nm cl o a stk = .ok w) : p_step P g F an (pc, stk, cs, nm, cl, sp, bg, ds, ak, ys, tr) = .inl (pc + 1, w, cs, nm, cl, sp, bg, ds, ak, ys, tr) := by
  unfold p_step
  dsimp only
  rw [h]
  dsimp only
  rw [if_pos ho, hw]
theorem e_fail {e : Int32} (h : P pc = (o, a)) (ho : 2 ≤ o ∧ o ≤ 14) (hw : p_work g nm cl o a stk = .error e) : p_step P g F an (pc, stk, cs, nm, cl, sp, bg, ds, ak, ys, tr) = .inr (e, sp, (pc, stk, cs, nm, cl, sp, bg, ds, ak, ys, tr)) := by
  unfold p_step
  dsimp only
  rw [h]
  dsimp only
  rw [if_pos ho, hw]
theorem e_0 (h : P pc = (0, a)) (hb : bg < 1000) : p_step P g F an (pc, stk, cs, nm, cl, sp, bg, ds, ak, ys, tr) = .inl (pc + 1, stk, cs, nm, cl, a, bg + 1, ds, ak, ys, tr ++ [(a.toNatClampNeg, nm)]) := by
  unfold p_step
  dsimp only
  rw [h]
  dsimp only
  rw [if_neg (by omega)]
  exact if_neg (by omega)
theorem e_1 (h : P pc = (1, a)) (hb : bg < 1000) (hd : ds.length ≠ F) : p_step P g F an (pc, stk, cs, nm, cl, sp, bg, ds, ak, ys, tr) = .inl (pc + 1, stk, cs, nm, cl, a, bg + 1, ds, ak, ys, tr ++ [(a.toNatClampNeg, nm)]) := by
  unfold p_step
  dsimp only
  rw [h]
  dsimp only
  rw [if_neg (by omega)]
  exact if_neg (by omega)
theorem e_1F (h : P pc = (1, a)) (hd : ds.length = F) : p_step P g F an (pc, stk, cs, nm, cl, sp, bg, ds, ak, ys, tr) = .inr (5, a, (pc, stk, cs, nm, cl, a, bg + 1, ds, ak, ys, tr ++ [(a.toNatClampNeg, nm)])) := by
  unfold p_step
  dsimp only
  rw [h]
  dsimp only
  rw [if_neg (by omega)]
  exact if_pos (Or.inr hd)
theorem e_15 (h : P pc = (15, a)) : p_step P g F an (pc, v :: st, cs, nm, cl, sp, bg, ds, ak, ys, tr) = .inl (pc + 1, st, cs, va_up nm a.toNatClampNeg v, cl, sp, bg, ds, ak, ys, tr) := by
  unfold p_step
  dsimp only
  rw [h]
  dsimp only
  rw [if_neg (by omega)]
  rfl
theorem e_16 {i : Int32} (h : P pc = (16, a)) (hi : i ≤ 7) : p_step P g F an (pc, v :: i :: st, cs, nm, cl, sp, bg, ds, ak, ys, tr) = .inl (pc + 1, st, cs, nm, va_up cl i.toNatClampNeg v, sp, bg, ds, ak, ys, tr) := by
  unfold p_step
  dsimp only
  rw [h]
  dsimp only
  rw [if_neg (by omega)]
  exact if_pos hi
theorem e_16n {i : Int32} (h : P pc = (16, a)) (hi : ¬ i ≤ 7) : p_step P g F an (pc, v :: i :: st, cs, nm, cl, sp, bg, ds, ak, ys, tr) = .inr (3, sp, (pc, v :: i :: st, cs, nm, cl, sp, bg, ds, ak, ys, tr)) := by
  unfold p_step
  dsimp only
  rw [h]
  dsimp only
  rw [if_neg (by omega)]
  exact if_neg hi
theorem e_17 (h : P pc = (17, a)) (hv : ¬ v = 0) : p_step P g F an (pc, v :: st, cs, nm, cl, sp, bg, ds, ak, ys, tr) = .inl (pc + 1, st, cs, nm, cl, sp, bg, ds, ak, ys, tr) := by
  unfold p_step
  dsimp only
  rw [h]
  dsimp only
  rw [if_neg (by omega)]
  exact if_neg hv
theorem e_17n (h : P pc = (17, a)) : p_step P g F an (pc, 0 :: st, cs, nm, cl, sp, bg, ds, ak, ys, tr) = .inr (1, sp, (pc, 0 :: st, cs, nm, cl, sp, bg, ds, ak, ys, tr)) := by
  unfold p_step
  dsimp only
  rw [h]
  dsimp only
  rw [if_neg (by omega)]
  exact if_pos rfl
theorem e_18 (h : P pc = (18, a)) (hv : ¬ v = 0) : p_step P g F an (pc, v :: st, cs, nm, cl, sp, bg, ds, ak, ys, tr) = .inl (pc + 1, st, cs, nm, cl, sp, bg, ds, ak, ys, tr) := by
  unfold p_step
  dsimp only
  rw [h]
  dsimp only
  rw [if_neg (by omega)]
  exact if_neg hv
theorem e_18n (h : P pc = (18, a)) : p_step P g F an (pc, 0 :: st, cs, nm, cl, sp, bg, ds, ak, ys, tr) = .inr (4, sp, (pc, 0 :: st, cs, nm, cl, sp, bg, ds, ak, ys, tr)) := by
  unfold p_step
  dsimp only
  rw [h]
  dsimp only
  rw [if_neg (by omega)]
  exact if_pos rfl
theorem e_21 (h : P pc = (21, a)) : p_step P g F an (pc, 1 :: st, cs, nm, cl, sp, bg, ds, ak, ys, tr) = .inl (pc + 1, st, cs, nm, cl, sp, bg, ds ++ [true], ak, va_up ys sp.toNatClampNeg (ys sp.toNatClampNeg + 1), tr) := by
  unfold p_step
  dsimp only
  rw [h]
  dsimp only
  rw [if_neg (by omega)]
  exact if_pos rfl
theorem e_21n (h : P pc = (21, a)) (hv : ¬ v = 1) : p_step P g F an (pc, v :: st, cs, nm, cl, sp, bg, ds, ak, ys, tr) = .inl (a.toNatClampNeg, st, cs, nm, cl, sp, bg, ds ++ [false], ak, ys, tr) := by
  unfold p_step
  dsimp only
  rw [h]
  dsimp only
  rw [if_neg (by omega)]
  exact if_neg hv
theorem e_22 (h : P pc = (22, a)) : p_step P g F an (pc, stk, cs, nm, cl, sp, bg, ds, ak, ys, tr) = .inl (a.toNatClampNeg, stk, cs, nm, cl, sp, bg, ds, ak, ys, tr) := by
  unfold p_step
  dsimp only
  rw [h]
  dsimp only
  rw [if_neg (by omega)]
  rfl
theorem e_25 (h : P pc = (25, a)) : p_step P g F an (pc, stk, cs, nm, cl, sp, bg, ds, ak, ys, tr) = .inr (0, -1, (pc, stk, cs, nm, cl, sp, bg, ds, ak, ys, tr)) := by
  unfold p_step
  dsimp only
  rw [h]
  dsimp only
  rw [if_neg (by omega)]
  rfl
end OPS2
