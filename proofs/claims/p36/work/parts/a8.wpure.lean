/-! PART a8: what steers a run: its decisions -/
/-- place, places to go back to, how many begun, decisions -/
def psC : PS → (Nat × List Nat) × Nat × List Bool
  | (pc, _, cs, _, _, _, bg, ds, _, _, _) => ((pc, cs), bg, ds)
def psY : PS → Nat → Nat
  | (_, _, _, _, _, _, _, _, _, ys, _) => ys
def psT : PS → List (Nat × (Nat → Int32))
  | (_, _, _, _, _, _, _, _, _, _, tr) => tr
/-- where it goes on, but for decisions -/
def nx (o : Nat) (a : Int32) (pc : Nat) (cs : List Nat) : Nat × List Nat :=
  if o = 22 then (a.toNatClampNeg, cs) else if o = 23 then (a.toNatClampNeg, (pc + 1) :: cs) else if o = 24 then (match cs with | r :: c => (r, c) | [] => (pc, [])) else (pc + 1, cs)
theorem nx_o {o : Nat} {a : Int32} {pc : Nat} {cs : List Nat} (h1 : o ≠ 22) (h2 : o ≠ 23) (h3 : o ≠ 24) : nx o a pc cs = (pc + 1, cs) := by
  unfold nx; rw [if_neg h1, if_neg h2, if_neg h3]
def kdI (P : Nat → Nat × Int32) (F pc : Nat) (cs : List Nat) (nm : Nat → Int32) (bg : Nat) (ds : List Bool) (ys : Nat → Nat) (sp : Int32) (tr : List (Nat × (Nat → Int32))) (S' : PS) : Prop :=
  (((P pc).1 = 0 ∨ (P pc).1 = 1) ∧ bg + 1 ≤ 1000 ∧ ((P pc).1 = 1 → ds.length ≠ F) ∧ psC S' = ((pc + 1, cs), bg + 1, ds) ∧ psY S' = ys ∧ psT S' = tr ++ [((P pc).2.toNatClampNeg, nm)]) ∨
  ((P pc).1 = 21 ∧ ∃ b : Bool, psC S' = ((if b = true then pc + 1 else (P pc).2.toNatClampNeg, cs), bg, ds ++ [b]) ∧ psY S' = (if b = true then va_up ys sp.toNatClampNeg (ys sp.toNatClampNeg + 1) else ys) ∧ psT S' = tr) ∨
  ((P pc).1 ≠ 0 ∧ (P pc).1 ≠ 1 ∧ (P pc).1 ≠ 20 ∧ (P pc).1 ≠ 21 ∧ (P pc).1 ≠ 25 ∧ psC S' = (nx (P pc).1 (P pc).2 pc cs, bg, ds) ∧ psY S' = ys ∧ psT S' = tr)
def kdE (P : Nat → Nat × Int32) (F pc : Nat) (cs : List Nat) (nm : Nat → Int32) (bg : Nat) (ds : List Bool) (ys : Nat → Nat) (sp : Int32) (tr : List (Nat × (Nat → Int32))) (E : PE) : Prop :=
  (((P pc).1 = 0 ∨ (P pc).1 = 1) ∧ (1000 < bg + 1 ∨ ((P pc).1 = 1 ∧ ds.length = F)) ∧ E.1 = 5 ∧ E.2.1 = (P pc).2 ∧ psC E.2.2 = ((pc, cs), bg + 1, ds) ∧ psY E.2.2 = ys ∧ psT E.2.2 = tr ++ [((P pc).2.toNatClampNeg, nm)]) ∨
  ((P pc).1 ≠ 0 ∧ (P pc).1 ≠ 1 ∧ (E.2.1 = sp ∨ (P pc).1 = 25 ∨ E.1 = 99) ∧ psC E.2.2 = ((pc, cs), bg, ds) ∧ psY E.2.2 = ys ∧ psT E.2.2 = tr)
theorem p_kind (P : Nat → Nat × Int32) (g : Int32) (F : Nat) (an : Nat → Int32) (pc : Nat) (stk : List Int32) (cs : List Nat) (nm cl : Nat → Int32) (sp : Int32) (bg : Nat) (ds : List Bool) (ak : Nat) (ys : Nat → Nat) (tr : List (Nat × (Nat → Int32))) :
    (∃ S', p_step P g F an (pc, stk, cs, nm, cl, sp, bg, ds, ak, ys, tr) = .inl S' ∧ kdI P F pc cs nm bg ds ys sp tr S') ∨ (∃ E, p_step P g F an (pc, stk, cs, nm, cl, sp, bg, ds, ak, ys, tr) = .inr E ∧ kdE P F pc cs nm bg ds ys sp tr E) := by
  unfold p_step
  dsimp only
  by_cases hw : 2 ≤ (P pc).1 ∧ (P pc).1 ≤ 14
  · rw [if_pos hw]
    cases p_work g nm cl (P pc).1 (P pc).2 stk with
    | ok st => exact Or.inl ⟨_, rfl, Or.inr (Or.inr ⟨by omega, by omega, by omega, by omega, by omega, by rw [nx_o (by omega) (by omega) (by omega)]; rfl, rfl, rfl⟩)⟩
    | error e => exact Or.inr ⟨_, rfl, Or.inr ⟨by omega, by omega, Or.inl rfl, rfl, rfl, rfl⟩⟩
  · rw [if_neg hw]
    have hx : ∀ (v : Nat × Int32), P pc = v → True := fun _ _ => trivial
    generalize hP : P pc = v at *
    obtain ⟨o, a⟩ := v
    have e1 : (P pc).1 = o := by rw [hP]
    have e2 : (P pc).2 = a := by rw [hP]
    unfold kdI kdE
    simp only [e1, e2]
    clear hx hP e1 e2
    dsimp only at *
    split
    · split
      · exact Or.inr ⟨_, rfl, Or.inl ⟨Or.inl rfl, Or.inl (by assumption), rfl, rfl, rfl, rfl, rfl⟩⟩
      · exact Or.inl ⟨_, rfl, Or.inl ⟨Or.inl rfl, by omega, fun h => absurd h (by decide), rfl, rfl, rfl⟩⟩
    · split
      · next h => exact Or.inr ⟨_, rfl, Or.inl ⟨Or.inr rfl, h.elim Or.inl (fun x => Or.inr ⟨rfl, x⟩), rfl, rfl, rfl, rfl, rfl⟩⟩
      · next h => exact Or.inl ⟨_, rfl, Or.inl ⟨Or.inr rfl, by omega, fun _ x => h (Or.inr x), rfl, rfl, rfl⟩⟩
    · exact Or.inl ⟨_, rfl, Or.inr (Or.inr ⟨by decide, by decide, by decide, by decide, by decide, rfl, rfl, rfl⟩)⟩
    · split
      · exact Or.inl ⟨_, rfl, Or.inr (Or.inr ⟨by decide, by decide, by decide, by decide, by decide, rfl, rfl, rfl⟩)⟩
      · exact Or.inr ⟨_, rfl, Or.inr ⟨by decide, by decide, Or.inl rfl, rfl, rfl, rfl⟩⟩
    · split
      · exact Or.inr ⟨_, rfl, Or.inr ⟨by decide, by decide, Or.inl rfl, rfl, rfl, rfl⟩⟩
      · exact Or.inl ⟨_, rfl, Or.inr (Or.inr ⟨by decide, by decide, by decide, by decide, by decide, rfl, rfl, rfl⟩)⟩
    · split
      · exact Or.inr ⟨_, rfl, Or.inr ⟨by decide, by decide, Or.inl rfl, rfl, rfl, rfl⟩⟩
      · exact Or.inl ⟨_, rfl, Or.inr (Or.inr ⟨by decide, by decide, by decide, by decide, by decide, rfl, rfl, rfl⟩)⟩
    · exact Or.inl ⟨_, rfl, Or.inr (Or.inr ⟨by decide, by decide, by decide, by decide, by decide, rfl, rfl, rfl⟩)⟩
    · exact Or.inr ⟨_, rfl, Or.inr ⟨by decide, by decide, Or.inl rfl, rfl, rfl, rfl⟩⟩
    · split
      · exact Or.inl ⟨_, rfl, Or.inr (Or.inl ⟨rfl, true, rfl, rfl, rfl⟩)⟩
      · exact Or.inl ⟨_, rfl, Or.inr (Or.inl ⟨rfl, false, rfl, rfl, rfl⟩)⟩
    · exact Or.inl ⟨_, rfl, Or.inr (Or.inr ⟨by decide, by decide, by decide, by decide, by decide, rfl, rfl, rfl⟩)⟩
    · exact Or.inl ⟨_, rfl, Or.inr (Or.inr ⟨by decide, by decide, by decide, by decide, by decide, rfl, rfl, rfl⟩)⟩
    · exact Or.inl ⟨_, rfl, Or.inr (Or.inr ⟨by decide, by decide, by decide, by decide, by decide, rfl, rfl, rfl⟩)⟩
    · exact Or.inr ⟨_, rfl, Or.inr ⟨by decide, by decide, Or.inr (Or.inl rfl), rfl, rfl, rfl⟩⟩
    · next h0 h1 _ _ _ _ _ _ _ _ _ _ _ => exact Or.inr ⟨_, rfl, Or.inr ⟨h0, h1, Or.inr (Or.inr rfl), rfl, rfl, rfl⟩⟩
