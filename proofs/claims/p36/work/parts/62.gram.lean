/-! PART 62: the text's grammar, read along its tokens (what both sides do) -/
/-- tokens: how many ahead of the last one, kinds, numbers, places -/
abbrev TD : Type := Nat × (Nat → Int32) × (Nat → Int32) × (Nat → Nat)
abbrev tK (T : TD) : Nat → Int32 := T.2.1
abbrev tV (T : TD) : Nat → Int32 := T.2.2.1
abbrev tP (T : TD) : Nat → Nat := T.2.2.2
/-- token, length, code, what the stack holds, which PROC, units, numbers, their places, steps, whiles, procs, start, tests, their places -/
abbrev PT : Type := Nat × Nat × (Nat → Nat × Int32) × (Nat → List Bool) × (Nat → Nat) × Nat × Nat × (Nat → Nat) × Nat × (Nat → Bool) × (Nat → Int32) × Nat × Nat × (Nat → Nat)
abbrev ti (S : PT) : Nat := S.1
abbrev cn (S : PT) : Nat := S.2.1
abbrev cP (S : PT) : Nat → Nat × Int32 := S.2.2.1
abbrev cT (S : PT) : Nat → List Bool := S.2.2.2.1
abbrev cG (S : PT) : Nat → Nat := S.2.2.2.2.1
abbrev cU (S : PT) : Nat := S.2.2.2.2.2.1
abbrev cM (S : PT) : Nat := S.2.2.2.2.2.2.1
abbrev cA (S : PT) : Nat → Nat := S.2.2.2.2.2.2.2.1
abbrev cS (S : PT) : Nat := S.2.2.2.2.2.2.2.2.1
abbrev cW (S : PT) : Nat → Bool := S.2.2.2.2.2.2.2.2.2.1
abbrev cR (S : PT) : Nat → Int32 := S.2.2.2.2.2.2.2.2.2.2.1
abbrev cB (S : PT) : Nat := S.2.2.2.2.2.2.2.2.2.2.2.1
abbrev cK (S : PT) : Nat := S.2.2.2.2.2.2.2.2.2.2.2.2.1
abbrev cL (S : PT) : Nat → Nat := S.2.2.2.2.2.2.2.2.2.2.2.2.2
def tyA (o : Nat) (t : List Bool) : List Bool :=
  if o = 2 ∨ o = 3 then false :: t else if o = 4 then t else if 5 ≤ o ∧ o ≤ 8 then t.tail else if 9 ≤ o ∧ o ≤ 12 then true :: t.tail.tail else if o = 13 ∨ o = 14 then t.tail else []
def adv (S : PT) : PT := (ti S + 1, S.2)
def em (o : Nat) (a : Int32) (S : PT) : PT :=
  (ti S, cn S + 1, va_up (cP S) (cn S) (o, a), va_up (cT S) (cn S + 1) (tyA o (cT S (cn S))), va_up (cG S) (cn S + 1) (cG S (cn S) + (if o = 24 then 1 else 0)), S.2.2.2.2.2)
def pat (j : Nat) (S : PT) : PT := (ti S, cn S, va_up (cP S) j ((cP S j).1, nI (min (cn S) 600)), S.2.2.2)
def unU (S : PT) : PT := (ti S, cn S, cP S, cT S, cG S, cU S + 1, S.2.2.2.2.2.2)
def noN (S : PT) : PT := (ti S, cn S, cP S, cT S, cG S, cU S, cM S + 1, va_up (cA S) (cM S) (cn S), S.2.2.2.2.2.2.2.2)
def adN (v : Int32) (S : PT) : PT := em 2 v (noN S)
def stU (w : Bool) (S : PT) : PT := (ti S, cn S, cP S, cT S, cG S, cU S, cM S, cA S, cS S + 1, va_up (cW S) (cS S) w, S.2.2.2.2.2.2.2.2.2.2)
def bst (k : Int32) (S : PT) : PT := stU (decide (k = 10)) (em (if k = 8 ∨ k = 10 then 1 else 0) (nI (cS S)) S)
def seR (p : Nat) (v : Int32) (S : PT) : PT := (ti S, cn S, cP S, cT S, cG S, cU S, cM S, cA S, cS S, cW S, va_up (cR S) p v, S.2.2.2.2.2.2.2.2.2.2.2)
def seB (S : PT) : PT := (ti S, cn S, cP S, cT S, va_up (cG S) (cn S) 4, cU S, cM S, cA S, cS S, cW S, cR S, cn S, S.2.2.2.2.2.2.2.2.2.2.2.2)
def beT (S : PT) : PT := (ti S, cn S, cP S, cT S, cG S, cU S, cM S, cA S, cS S, cW S, cR S, cB S, cK S + 1, va_up (cL S) (cK S) (cn S))
abbrev PR : Type := Except (Int32 × Nat) PT
def pb (r : PR) (f : PT → PR) : PR := match r with
  | .ok S => f S
  | .error e => .error e
theorem pb_ok (S : PT) (f : PT → PR) : pb (.ok S) f = f S := rfl
theorem pb_er (e : Int32 × Nat) (f : PT → PR) : pb (.error e) f = .error e := rfl
def sgn (T : TD) (ch : Int32) (S : PT) : PR := if tK T (ti S) = ch then .ok (adv S) else .error (1, ti S)
def opn (T : TD) (ch : Int32) (k : Nat) (S : PT) : PR := if tK T (ti S) = ch then (if k = 0 then .error (3, ti S) else .ok (adv S)) else .error (1, ti S)
def uFt (T : TD) (i : Nat) : Int32 := if tK T i = 2 then 0 else if tK T i = 4 then (if tV T i ≤ 255 then 0 else 2) else if tK T i = 7 then 0 else if tK T i = 40 then 0 else 1
def plc (T : TD) (k : Nat) (inn : PT → PR) (S : PT) : PR := pb (opn T 91 k S) (fun S => pb (inn S) (sgn T 93))
def unF (T : TD) (k : Nat) (inn : PT → PR) (S : PT) : PR :=
  if ¬ uFt T (ti S) = 0 then .error (uFt T (ti S), ti S) else if 150 ≤ cU S then .error (3, ti S)
  else if tK T (ti S) = 40 then pb (opn T 40 k (unU S)) (fun S => pb (inn S) (sgn T 41))
  else if tK T (ti S) = 7 then pb (plc T k inn (adv (unU S))) (fun S => .ok (em 4 0 S))
  else if tK T (ti S) = 4 then .ok (adN (tV T (ti S)) (adv (unU S)))
  else .ok (em 3 (tV T (ti S)) (adv (unU S)))
/-- further operands: by one of two signs -/
def olp (T : TD) (c1 c2 : Int32) (o1 o2 : Nat) (u : PT → PR) : Nat → PT → PR
  | 0, S => .ok S
  | f + 1, S => if tK T (ti S) = c1 ∨ tK T (ti S) = c2 then pb (u (adv S)) (fun S' => olp T c1 c2 o1 o2 u f (em (if tK T (ti S) = c1 then o1 else o2) 0 S')) else .ok S
def prd (T : TD) (u : PT → PR) (S : PT) : PR := pb (u S) (olp T 42 47 7 8 u 501)
def smm (T : TD) (p : PT → PR) (S : PT) : PR := pb (p S) (olp T 43 45 5 6 p 501)
/-- a SUM where k - 1 brackets may be opened -/
def rdI (T : TD) : Nat → PT → PR
  | 0, S => .ok S
  | k + 1, S => smm T (prd T (unF T k (rdI T k))) S
def rlo (T : TD) (i : Nat) : Nat := if tK T i = 60 then 9 else if tK T i = 61 then 10 else if tK T i = 62 then 11 else 12
def tst (T : TD) (k : Nat) (S : PT) : PR := pb (rdI T (k + 1) S) (fun S => if tK T (ti S) = 60 ∨ tK T (ti S) = 61 ∨ tK T (ti S) = 62 ∨ tK T (ti S) = 35 then pb (rdI T (k + 1) (adv S)) (fun S' => .ok (em (rlo T (ti S)) 0 S')) else .error (1, ti S))
def clp (T : TD) (k : Nat) : Nat → Bool → PT → PR
  | 0, w, S => .ok (if w = true then em 14 0 S else S)
  | f + 1, w, S =>
    if tK T (ti S) = 15 then pb (tst T k (adv (if w = true then em 14 0 S else S))) (clp T k f true)
    else if tK T (ti S) = 16 then pb (tst T k (adv S)) (fun S' => clp T k f w (em 13 0 S'))
    else .ok (if w = true then em 14 0 S else S)
def cnd (T : TD) (k : Nat) (S : PT) : PR := pb (tst T k S) (clp T k 501 false)
def cls (T : TD) (o : Nat) (a : Int32) (S : PT) : PR := sgn T 59 (em o a S)
def blp (T : TD) (s : PT → PR) : Nat → PT → PR
  | 0, S => .ok S
  | f + 1, S => if tK T (ti S) = 125 then .ok S else pb (s S) (blp T s f)
def blo (T : TD) (k : Nat) (s : PT → PR) (S : PT) : PR := pb (opn T 123 k S) (fun S => pb (blp T s 501 S) (sgn T 125))
def brs (T : TD) (b : PT → PR) (S : PT) : PR := pb (b (em 21 0 S)) (fun S2 =>
  if tK T (ti S2) = 9 then pb (b (pat (cn S) (em 22 0 (adv S2)))) (fun S5 => .ok (pat (cn S2) S5)) else .ok (pat (cn S) S2))
def lop (b : PT → PR) (beg : Nat) (S : PT) : PR := pb (b (em 21 0 S)) (fun S2 => .ok (pat (cn S) (em 22 (nI (min beg 600)) S2)))
def cld (T : TD) (S : PT) : PR := if tK T (ti S) = 3 then (if cR S (tV T (ti S)).toNatClampNeg = -1 then .error (4, ti S) else cls T 23 (cR S (tV T (ti S)).toNatClampNeg) (adv S)) else .error (1, ti S)
def ask (T : TD) (S : PT) : PR := pb (sgn T 2 S) (cls T 19 (tV T (ti S)))
def isSt (K : Int32) : Prop := K = 2 ∨ K = 6 ∨ K = 7 ∨ K = 8 ∨ K = 10 ∨ K = 11 ∨ K = 12 ∨ K = 13 ∨ K = 14
def stF (T : TD) (k : Nat) (b : PT → PR) (S : PT) : PR :=
  if tK T (ti S) = 2 ∨ tK T (ti S) = 6 ∨ tK T (ti S) = 7 ∨ tK T (ti S) = 8 ∨ tK T (ti S) = 10 ∨ tK T (ti S) = 11 ∨ tK T (ti S) = 12 ∨ tK T (ti S) = 13 ∨ tK T (ti S) = 14 then
    if 60 ≤ cS S then .error (3, ti S)
    else if tK T (ti S) = 8 then pb (cnd T k (adv (bst 8 S))) (brs T b)
    else if tK T (ti S) = 10 then pb (cnd T k (adv (bst 10 S))) (lop b (cn S))
    else if tK T (ti S) = 11 then pb (cnd T k (adv (bst 0 S))) (cls T 17 0)
    else if tK T (ti S) = 12 then pb (cnd T k (adv (bst 0 S))) (cls T 18 0)
    else if tK T (ti S) = 2 then pb (sgn T 61 (adv (bst 0 S))) (fun S' => pb (rdI T (k + 1) S') (cls T 15 (tV T (ti S))))
    else if tK T (ti S) = 7 then pb (plc T k (rdI T k) (adv (bst 0 S))) (fun S' => pb (sgn T 61 S') (fun S' => pb (rdI T (k + 1) S') (cls T 16 0)))
    else if tK T (ti S) = 6 then cld T (adv (bst 0 S))
    else if tK T (ti S) = 13 then ask T (adv (bst 0 S))
    else cls T 20 0 (adv (bst 0 S))
  else .error (1, ti S)
/-- a STEP where k - 1 brackets may be opened -/
def bkI (T : TD) : Nat → PT → PR
  | 0, S => .ok S
  | k + 1, S => stF T k (blo T k (bkI T k)) S
def prl (T : TD) : Nat → PT → PR
  | 0, S => .ok S
  | f + 1, S => if tK T (ti S) = 5 then (if tK T (ti S + 1) = 3 then (if cR S (tV T (ti S + 1)).toNatClampNeg = -1 then
      pb (blo T 10 (bkI T 10) (adv (adv S))) (fun S3 => prl T f (seR (tV T (ti S + 1)).toNatClampNeg (nI (min (cn S) 600)) (em 24 0 S3)))
      else .error (4, ti S + 1)) else .error (1, ti S + 1)) else .ok S
def stl (T : TD) : Nat → PT → PR
  | 0, S => .ok S
  | f + 1, S => if tK T (ti S) = 1 then .ok S else pb (bkI T 11 S) (stl T f)
def rdP (T : TD) (S : PT) : PR := pb (prl T 501 S) (fun S => pb (stl T 501 (seB S)) (fun S' => .ok (em 25 0 S')))
def cts (T : TD) (S : PT) : PR := if ¬ uFt T (ti S) = 0 then .error (uFt T (ti S), ti S) else if 20 ≤ cK S then .error (3, ti S) else pb (tst T 10 (beT S)) (fun S' => .ok (em 33 0 S'))
def ctl (T : TD) : Nat → PT → PR
  | 0, S => .ok S
  | f + 1, S => if tK T (ti S) = 16 then pb (cts T (adv S)) (ctl T f) else .ok S
def rdC (T : TD) (S : PT) : PR := pb (cts T S) (fun S => pb (ctl T 501 S) (fun S' => if tK T (ti S') = 1 then .ok S' else .error (1, ti S')))
/-- ahead of any token -/
def PT0 : PT := (0, 0, fun _ => (0, 0), fun _ => [], fun _ => 0, 0, 0, fun _ => 0, 0, fun _ => false, fun _ => -1, 0, 0, fun _ => 0)
def whL (w : Nat → Bool) : Nat → Int64
  | 0 => 0
  | s + 1 => if w s = true then whL w s ||| bit64 s else whL w s
theorem whL_up (w : Nat → Bool) (b : Bool) : ∀ {s k : Nat}, s ≤ k → whL (va_up w k b) s = whL w s
  | 0, _, _ => rfl
  | s + 1, k, h => by simp only [whL]; rw [whL_up w b (by omega), up_n _ _ (by omega)]
