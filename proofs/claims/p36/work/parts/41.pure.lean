/-! PART 41: the machine that both sides are -/
/-- place, stack, places to go back to, names, cells, step, how many begun, decisions, asked, rounds, what was begun -/
abbrev PS : Type := Nat × List Int32 × List Nat × (Nat → Int32) × (Nat → Int32) × Int32 × Nat × List Bool × Nat × (Nat → Nat) × List (Nat × (Nat → Int32))
abbrev PE : Type := Int32 × Int32 × PS
def p_b (c : Bool) : Int32 := if c then 1 else 0
def p_work (g : Int32) (nm cl : Nat → Int32) (o : Nat) (a : Int32) (stk : List Int32) : Except Int32 (List Int32) := match o with
  | 2 => .ok ((a &&& g) :: stk)
  | 3 => .ok (nm a.toNatClampNeg :: stk)
  | 4 => match stk with
    | v :: st => if v ≤ 7 then .ok (cl v.toNatClampNeg :: st) else .error 3
    | _ => .error 99
  | o => match stk with
    | b :: x :: st => match o with
      | 5 => .ok (((x + b) &&& g) :: st)
      | 6 => .ok (((x - b) &&& g) :: st)
      | 7 => .ok (((x * b) &&& g) :: st)
      | 8 => if b = 0 then .error 2 else .ok (((x / b) &&& g) :: st)
      | 9 => .ok (p_b (decide (x < b)) :: st)
      | 10 => .ok (p_b (decide (x = b)) :: st)
      | 11 => .ok (p_b (decide (b < x)) :: st)
      | 12 => .ok (p_b (decide (¬ x = b)) :: st)
      | 13 => .ok (p_b (decide (x = 1) && decide (b = 1)) :: st)
      | 14 => .ok (p_b (decide (x = 1) || decide (b = 1)) :: st)
      | _ => .error 99
    | _ => .error 99
def p_step (P : Nat → Nat × Int32) (g : Int32) (F : Nat) (an : Nat → Int32) : PS → Sum PS PE
  | (pc, stk, cs, nm, cl, sp, bg, ds, ak, ys, tr) =>
    if 2 ≤ (P pc).1 ∧ (P pc).1 ≤ 14 then
      match p_work g nm cl (P pc).1 (P pc).2 stk with
      | .ok st => .inl (pc + 1, st, cs, nm, cl, sp, bg, ds, ak, ys, tr)
      | .error h => .inr (h, sp, (pc, stk, cs, nm, cl, sp, bg, ds, ak, ys, tr))
    else match (P pc).1, stk, cs with
      | 0, stk, cs => if 1000 < bg + 1 then .inr (5, (P pc).2, (pc, stk, cs, nm, cl, (P pc).2, bg + 1, ds, ak, ys, tr ++ [((P pc).2.toNatClampNeg, nm)])) else .inl (pc + 1, stk, cs, nm, cl, (P pc).2, bg + 1, ds, ak, ys, tr ++ [((P pc).2.toNatClampNeg, nm)])
      | 1, stk, cs => if 1000 < bg + 1 ∨ ds.length = F then .inr (5, (P pc).2, (pc, stk, cs, nm, cl, (P pc).2, bg + 1, ds, ak, ys, tr ++ [((P pc).2.toNatClampNeg, nm)])) else .inl (pc + 1, stk, cs, nm, cl, (P pc).2, bg + 1, ds, ak, ys, tr ++ [((P pc).2.toNatClampNeg, nm)])
      | 15, v :: st, cs => .inl (pc + 1, st, cs, va_up nm (P pc).2.toNatClampNeg v, cl, sp, bg, ds, ak, ys, tr)
      | 16, v :: i :: st, cs => if i ≤ 7 then .inl (pc + 1, st, cs, nm, va_up cl i.toNatClampNeg v, sp, bg, ds, ak, ys, tr) else .inr (3, sp, (pc, v :: i :: st, cs, nm, cl, sp, bg, ds, ak, ys, tr))
      | 17, v :: st, cs => if v = 0 then .inr (1, sp, (pc, v :: st, cs, nm, cl, sp, bg, ds, ak, ys, tr)) else .inl (pc + 1, st, cs, nm, cl, sp, bg, ds, ak, ys, tr)
      | 18, v :: st, cs => if v = 0 then .inr (4, sp, (pc, v :: st, cs, nm, cl, sp, bg, ds, ak, ys, tr)) else .inl (pc + 1, st, cs, nm, cl, sp, bg, ds, ak, ys, tr)
      | 19, stk, cs => .inl (pc + 1, stk, cs, va_up nm (P pc).2.toNatClampNeg (an ak), cl, sp, bg, ds, ak + 1, ys, tr)
      | 20, stk, cs => .inr (0, sp, (pc, stk, cs, nm, cl, sp, bg, ds, ak, ys, tr))
      | 21, v :: st, cs => if v = 1 then .inl (pc + 1, st, cs, nm, cl, sp, bg, ds ++ [true], ak, va_up ys sp.toNatClampNeg (ys sp.toNatClampNeg + 1), tr) else .inl ((P pc).2.toNatClampNeg, st, cs, nm, cl, sp, bg, ds ++ [false], ak, ys, tr)
      | 22, stk, cs => .inl ((P pc).2.toNatClampNeg, stk, cs, nm, cl, sp, bg, ds, ak, ys, tr)
      | 23, stk, cs => .inl ((P pc).2.toNatClampNeg, stk, (pc + 1) :: cs, nm, cl, sp, bg, ds, ak, ys, tr)
      | 24, stk, r :: cs => .inl (r, stk, cs, nm, cl, sp, bg, ds, ak, ys, tr)
      | 25, stk, cs => .inr (0, -1, (pc, stk, cs, nm, cl, sp, bg, ds, ak, ys, tr))
      | _, stk, cs => .inr (99, 0, (pc, stk, cs, nm, cl, sp, bg, ds, ak, ys, tr))
def p_run (P : Nat → Nat × Int32) (g : Int32) (F : Nat) (an : Nat → Int32) : Nat → PS → Option PE
  | 0, _ => none
  | N + 1, S => match p_step P g F an S with
    | .inl S' => p_run P g F an N S'
    | .inr e => some e
/-- a number of B bits -/
def rg (B : Nat) (v : Int32) : Prop := ∃ j, j < 2 ^ B ∧ v = nI j
def p_ty (B : Nat) : List Bool → List Int32 → Prop
  | [], [] => True
  | b :: bs, v :: vs => (if b = true then (v = 0 ∨ v = 1) else rg B v) ∧ p_ty B bs vs
  | _, _ => False
/-- whether a decision has begun of which the COND is being worked out -/
def p_dc (P : Nat → Nat × Int32) : Nat → Bool
  | 0 => false
  | k + 1 => if 2 ≤ (P k).1 ∧ (P k).1 ≤ 14 then p_dc P k else decide ((P k).1 = 1)
/-- what an order at a place asks of the places around it: ty: what the stack holds there (true: a truth), sg: which PROC it is in (4: none) -/
def p_ok (P : Nat → Nat × Int32) (n : Nat) (ty : Nat → List Bool) (sg : Nat → Nat) (pc : Nat) : Prop :=
  (ty pc).length ≤ 30 ∧ sg pc ≤ 4 ∧
  (((P pc).1 ≠ 20 ∧ (P pc).1 ≠ 22 ∧ (P pc).1 ≠ 24 ∧ (P pc).1 ≠ 25) → pc + 1 < n ∧ sg (pc + 1) = sg pc ∧ ((P pc).1 ≠ 0 → (P (pc + 1)).1 ≠ 23)) ∧
  (match (P pc).1 with
  | 0 => ty pc = [] ∧ ty (pc + 1) = [] ∧ ∃ j, j < 60 ∧ (P pc).2 = nI j
  | 1 => ty pc = [] ∧ ty (pc + 1) = [] ∧ ∃ j, j < 60 ∧ (P pc).2 = nI j
  | 2 => ty (pc + 1) = false :: ty pc
  | 3 => ty (pc + 1) = false :: ty pc ∧ ∃ j, j < 8 ∧ (P pc).2 = nI j
  | 4 => ∃ t, ty pc = false :: t ∧ ty (pc + 1) = false :: t
  | 5 => ∃ t, ty pc = false :: false :: t ∧ ty (pc + 1) = false :: t
  | 6 => ∃ t, ty pc = false :: false :: t ∧ ty (pc + 1) = false :: t
  | 7 => ∃ t, ty pc = false :: false :: t ∧ ty (pc + 1) = false :: t
  | 8 => ∃ t, ty pc = false :: false :: t ∧ ty (pc + 1) = false :: t
  | 9 => ∃ t, ty pc = false :: false :: t ∧ ty (pc + 1) = true :: t
  | 10 => ∃ t, ty pc = false :: false :: t ∧ ty (pc + 1) = true :: t
  | 11 => ∃ t, ty pc = false :: false :: t ∧ ty (pc + 1) = true :: t
  | 12 => ∃ t, ty pc = false :: false :: t ∧ ty (pc + 1) = true :: t
  | 13 => ∃ t, ty pc = true :: true :: t ∧ ty (pc + 1) = true :: t
  | 14 => ∃ t, ty pc = true :: true :: t ∧ ty (pc + 1) = true :: t
  | 15 => ty pc = [false] ∧ ty (pc + 1) = [] ∧ ∃ j, j < 8 ∧ (P pc).2 = nI j
  | 16 => ty pc = [false, false] ∧ ty (pc + 1) = []
  | 17 => ty pc = [true] ∧ ty (pc + 1) = []
  | 18 => ty pc = [true] ∧ ty (pc + 1) = []
  | 19 => ty pc = [] ∧ ty (pc + 1) = [] ∧ ∃ j, j < 8 ∧ (P pc).2 = nI j
  | 20 => ty pc = []
  | 21 => ty pc = [true] ∧ ty (pc + 1) = [] ∧ p_dc P pc = true ∧ ∃ t, (P pc).2 = nI t ∧ pc < t ∧ t < n ∧ ty t = [] ∧ sg t = sg pc ∧ (P t).1 ≠ 23 ∧ p_dc P t = false
  | 22 => ty pc = [] ∧ ∃ t, (P pc).2 = nI t ∧ t < n ∧ ty t = [] ∧ sg t = sg pc ∧ (P t).1 ≠ 23 ∧ p_dc P t = false ∧ (pc < t ∨ (P t).1 = 1)
  | 23 => ty pc = [] ∧ ty (pc + 1) = [] ∧ ∃ t, (P pc).2 = nI t ∧ t < n ∧ ty t = [] ∧ sg t < sg pc ∧ (P t).1 ≠ 23 ∧ p_dc P t = false
  | 24 => ty pc = [] ∧ sg pc < 4
  | 25 => ty pc = []
  | _ => False)
/-- how many orders that are neither of a sum nor begin a step stand from a place on -/
def p_ac (P : Nat → Nat × Int32) : Nat → Nat → Nat
  | 0, _ => 0
  | m + 1, pc => (if 15 ≤ (P pc).1 then 1 else 0) + p_ac P m (pc + 1)
def p_WF (P : Nat → Nat × Int32) (n st : Nat) (ty : Nat → List Bool) (sg : Nat → Nat) : Prop :=
  n ≤ 600 ∧ st < n ∧ ty st = [] ∧ sg st = 4 ∧ p_dc P st = false ∧ ((P st).1 = 0 ∨ (P st).1 = 1 ∨ (P st).1 = 25) ∧ p_ac P n 0 ≤ 125 ∧ (∀ pc, pc < n → p_ok P n ty sg pc)
