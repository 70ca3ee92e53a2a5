/-! PART aa: ways in their order: keys, comparing -/
/-- the decisions as bits, no: 1, the first the highest -/
def pathN : Nat → List Bool → Nat
  | _, [] => 0
  | k, b :: ds => (if b = true then 0 else 2 ^ (39 - k)) + pathN (k + 1) ds
theorem pathN_lt : ∀ (ds : List Bool) (k : Nat), k + ds.length ≤ 40 → pathN k ds < 2 ^ (40 - k)
  | [], k, _ => Nat.two_pow_pos _
  | b :: ds, k, h => by
    have h : k + (ds.length + 1) ≤ 40 := h
    have ih := pathN_lt ds (k + 1) (by omega)
    rw [pathN, show 40 - k = (39 - k) + 1 by omega, Nat.pow_succ]
    rw [show 40 - (k + 1) = 39 - k by omega] at ih
    split <;> omega
/-- which of two lists of decisions is ahead: 0 the first, 1 neither, 2 the second -/
def cmpL : List Bool → List Bool → Nat
  | [], [] => 1
  | [], _ :: _ => 0
  | _ :: _, [] => 2
  | a :: x, b :: y => if a = b then cmpL x y else if a = true then 0 else 2
theorem cmpL_sp : ∀ (x y : List Bool) (k : Nat), k + x.length ≤ 40 → k + y.length ≤ 40 →
    (cmpL x y = 0 ∧ (pathN k x < pathN k y ∨ (pathN k x = pathN k y ∧ x.length < y.length))) ∨ (cmpL x y = 1 ∧ x = y) ∨ (cmpL x y = 2 ∧ (pathN k y < pathN k x ∨ (pathN k x = pathN k y ∧ y.length < x.length)))
  | [], [], k, _, _ => Or.inr (Or.inl ⟨rfl, rfl⟩)
  | [], b :: y, k, _, _ => Or.inl ⟨rfl, by
      rcases Nat.eq_zero_or_pos (pathN k (b :: y)) with g | g
      · exact Or.inr ⟨by rw [g]; rfl, Nat.succ_pos _⟩
      · exact Or.inl g⟩
  | a :: x, [], k, _, _ => Or.inr (Or.inr ⟨rfl, by
      rcases Nat.eq_zero_or_pos (pathN k (a :: x)) with g | g
      · exact Or.inr ⟨by rw [g]; rfl, Nat.succ_pos _⟩
      · exact Or.inl g⟩)
  | a :: x, b :: y, k, hx, hy => by
    have hx : k + (x.length + 1) ≤ 40 := hx
    have hy : k + (y.length + 1) ≤ 40 := hy
    rw [cmpL]
    by_cases g : a = b
    · subst g
      rw [if_pos rfl, pathN, pathN]
      have ih := cmpL_sp x y (k + 1) (by omega) (by omega)
      rcases ih with ⟨c, h⟩ | ⟨c, h⟩ | ⟨c, h⟩
      · exact Or.inl ⟨c, h.elim (fun q => Or.inl (Nat.add_lt_add_left q _)) (fun q => Or.inr ⟨by rw [q.1], Nat.succ_lt_succ q.2⟩)⟩
      · exact Or.inr (Or.inl ⟨c, by rw [h]⟩)
      · exact Or.inr (Or.inr ⟨c, h.elim (fun q => Or.inl (Nat.add_lt_add_left q _)) (fun q => Or.inr ⟨by rw [q.1], Nat.succ_lt_succ q.2⟩)⟩)
    · rw [if_neg g, pathN, pathN]
      have lx := pathN_lt x (k + 1) (by omega)
      have ly := pathN_lt y (k + 1) (by omega)
      rw [show 40 - (k + 1) = 39 - k by omega] at lx ly
      cases a with
      | true =>
        cases b with
        | true => exact absurd rfl g
        | false => exact Or.inl ⟨rfl, Or.inl (by rw [if_pos rfl, if_neg Bool.false_ne_true]; omega)⟩
      | false =>
        cases b with
        | true => exact Or.inr (Or.inr ⟨rfl, Or.inl (by rw [if_pos rfl, if_neg Bool.false_ne_true]; omega)⟩)
        | false => exact absurd rfl g
def nHlt (E : PE) : Nat := if eS E = -1 then 1 else 0
def eN (E : PE) : Nat := (eE E).toBitVec.toNat
/-- a way's key -/
def keyN (E : PE) : Nat := ((pathN 0 (eD E) * 64 + (eD E).length) * 1024 + (eB E + nHlt E)) * 8 + eN E
/-- what is known of a row's end -/
def EF (B F cs : Nat) (E : PE) : Prop := (∃ j, j ≤ 5 ∧ eE E = nI j) ∧ (eS E = -1 ∨ ∃ j, j < 60 ∧ eS E = nI j) ∧ eB E ≤ 1001 ∧ (eD E).length ≤ F ∧ (eT E).length = eB E ∧ (∀ x, x ∈ eT E → x.1 < cs ∧ ∀ k, k < 8 → rg B (x.2 k)) ∧ ∀ s, eY E s ≤ (eD E).length
/-- what is known of all rows' ends -/
def WE (B F cs : Nat) (E : Nat → PE) : Prop := (∀ r, EF B F cs (E r)) ∧ ∀ a b, eD (E a) = eD (E b) → Cc (E a) (E b)
theorem EF.e {B F cs : Nat} {E : PE} (h : EF B F cs E) : eN E ≤ 5 ∧ eE E = nI (eN E) := by
  obtain ⟨⟨j, hj, e⟩, -⟩ := h
  unfold eN
  rw [e, pk_tn (by omega)]
  exact ⟨hj, rfl⟩
theorem EF_of {B F cs : Nat} {E : PE} (he : p_end B F E) (x1 : ∀ x, x ∈ eT E → x.1 < cs ∧ ∀ k, k < 8 → rg B (x.2 k)) (x2 : ∀ s, eY E s ≤ (eD E).length) : EF B F cs E := by
  obtain ⟨e, sp, pc, stk, cs, nm, cl, sp0, bg, ds, ak, ys, tr⟩ := E
  obtain ⟨h1, h2, h3, h4, h5, h6, h7⟩ := he
  exact ⟨h1, h2, h5, h6, h7, x1, x2⟩
theorem run_all0 {S : PT} {B T O F r N : Nat} {E : PE} (hS : PG S) (hk : SZok B T O) (hF : 0 < F) (hN : p_run (cP S) (mk B) F (ansF B T O (nI r) (-1)) N (ps0 (cB S) (rowNm B T (nI r)) (fun _ => 0)) = some E) : (∀ x, x ∈ eT E → x.1 < cS S ∧ ∀ k, k < 8 → rg B (x.2 k)) ∧ ∀ s, eY E s ≤ (eD E).length := by
  have han : ∀ k, rg B (ansF B T O (nI r) (-1) k) := ansF_rg (T := T) (O := O) (row := nI r) (rule := -1) hk.2.1 (fun h => absurd (by decide) h)
  have good : p_good (cP S) (cn S) (cT S) (cG S) B F (ps0 (cB S) (rowNm B T (nI r)) (fun _ => 0)) := ps0_good hS.1 hF (fun k _ => rowNm_rg hk.2.1 k) (fun _ _ => rg_0 B)
  have hA : ∀ pc, pc < cn S → (cP S pc).1 = 0 ∨ (cP S pc).1 = 1 → (cP S pc).2.toNatClampNeg < cS S := fun pc hpc ho => by
    obtain ⟨s, s1, s2⟩ := hS.2.2.2.2 pc hpc ho
    have := hS.2.1
    rw [s2, nI_clamp (by omega)]; exact s1
  have z1 : ∀ x, x ∈ psT (ps0 (cB S) (rowNm B T (nI r)) (fun _ => 0)) → x.1 < cS S ∧ ∀ k, k < 8 → rg B (x.2 k) := fun x hx => absurd hx (List.not_mem_nil)
  have z2 : ∀ s, psY (ps0 (cB S) (rowNm B T (nI r)) (fun _ => 0)) s ≤ (psC (ps0 (cB S) (rowNm B T (nI r)) (fun _ => 0))).2.2.length := fun s => Nat.zero_le _
  exact run_all (A := fun s => s < cS S) hS.1 hk.2.1 rfl han hA N _ _ hN good z1 z2
theorem we_ex {S : PT} {B T O F : Nat} (hS : PG S) (hk : SZok B T O) (hF : 0 < F) : ∃ E : Nat → PE, (∀ r, RT1 S B T O F r (-1) (E r) ∧ p_end B F (E r)) ∧ WE B F (cS S) E := by
  obtain ⟨E, hE⟩ := runs_ex (F := F) (T := T) (O := O) (rule := -1) hS hk hF (fun h => absurd (by decide) h)
  refine ⟨E, hE, fun r => ?_, fun a b hab => ?_⟩
  · obtain ⟨⟨N, hN⟩, he⟩ := hE r
    obtain ⟨x1, x2⟩ := run_all0 hS hk hF hN
    exact EF_of he x1 x2
  · obtain ⟨⟨N1, h1⟩, -⟩ := hE a
    obtain ⟨⟨N2, h2⟩, -⟩ := hE b
    have han : ∀ r k, rg B (ansF B T O (nI r) (-1) k) := fun r => ansF_rg (T := T) (O := O) (row := nI r) (rule := -1) hk.2.1 (fun h => absurd (by decide) h)
    have good : ∀ r, p_good (cP S) (cn S) (cT S) (cG S) B F (ps0 (cB S) (rowNm B T (nI r)) (fun _ => 0)) := fun r => ps0_good hS.1 hF (fun k _ => rowNm_rg hk.2.1 k) (fun _ _ => rg_0 B)
    have c1 : ∀ nm : Nat → Int32, psC (ps0 (cB S) nm (fun _ => 0)) = ((cB S, []), 0, []) := fun _ => rfl
    have c2 : ∀ nm : Nat → Int32, (psT (ps0 (cB S) nm (fun _ => 0))).map Prod.fst = [] := fun _ => rfl
    exact lock hS.1 hk.2.1 rfl (han a) (han b) N1 N2 _ _ _ _ h1 h2 (good a) (good b) ((c1 _).trans (c1 _).symm) ((c2 _).trans (c2 _).symm) hab
/-- the order of ways as the reference finds it -/
def cmpE (E1 E2 : PE) : Nat :=
  if cmpL (eD E1) (eD E2) ≠ 1 then cmpL (eD E1) (eD E2)
  else if eB E1 ≠ eB E2 then (if eB E1 < eB E2 then 0 else 2)
  else if nHlt E1 ≠ nHlt E2 then (if nHlt E1 = 1 then 2 else 0)
  else if eN E1 < eN E2 then 0 else if eN E1 = eN E2 then 1 else 2
theorem nH_le (E : PE) : nHlt E ≤ 1 := by unfold nHlt; split <;> decide
theorem key_ord {B F cs : Nat} {E1 E2 : PE} (hF : F ≤ 40) (h1 : EF B F cs E1) (h2 : EF B F cs E2) (hc : eD E1 = eD E2 → Cc E1 E2) : (cmpE E1 E2 = 0 ∧ keyN E1 < keyN E2) ∨ (cmpE E1 E2 = 1 ∧ keyN E1 = keyN E2) ∨ (cmpE E1 E2 = 2 ∧ keyN E2 < keyN E1) := by
  have a1 := h1.e.1
  have a2 := h2.e.1
  obtain ⟨-, -, b1, l1, -⟩ := h1
  obtain ⟨-, -, b2, l2, -⟩ := h2
  have n1 := nH_le E1
  have n2 := nH_le E2
  have sp := cmpL_sp (eD E1) (eD E2) 0 (by omega) (by omega)
  unfold cmpE
  rcases sp with ⟨c, h⟩ | ⟨c, h⟩ | ⟨c, h⟩
  · rw [c, if_pos (by decide)]
    refine Or.inl ⟨rfl, ?_⟩
    unfold keyN
    generalize pathN 0 (eD E1) = p1 at *
    generalize pathN 0 (eD E2) = p2 at *
    omega
  · rw [c, if_neg (by decide)]
    have hC := hc h
    unfold keyN
    rw [h]
    generalize pathN 0 (eD E2) = p at *
    generalize (eD E2).length = l at *
    -- behind the last step nothing goes on
    have t1 : nHlt E1 = 1 → eB E2 ≤ eB E1 := fun q => hC.1 (by unfold nHlt at q; split at q; assumption; cases q)
    have t2 : nHlt E2 = 1 → eB E1 ≤ eB E2 := fun q => hC.2.1 (by unfold nHlt at q; split at q; assumption; cases q)
    by_cases g : eB E1 = eB E2
    · rw [if_neg (fun x => x g), g]
      by_cases g2 : nHlt E1 = nHlt E2
      · rw [if_neg (fun x => x g2), g2]
        by_cases g3 : eN E1 < eN E2
        · rw [if_pos g3]; exact Or.inl ⟨rfl, by omega⟩
        · rw [if_neg g3]
          by_cases g4 : eN E1 = eN E2
          · rw [if_pos g4]; exact Or.inr (Or.inl ⟨rfl, by omega⟩)
          · rw [if_neg g4]; exact Or.inr (Or.inr ⟨rfl, by omega⟩)
      · rw [if_pos g2]
        by_cases g3 : nHlt E1 = 1
        · rw [if_pos g3]; exact Or.inr (Or.inr ⟨rfl, by omega⟩)
        · rw [if_neg g3]; exact Or.inl ⟨rfl, by omega⟩
    · rw [if_pos g]
      by_cases g2 : eB E1 < eB E2
      · rw [if_pos g2]
        have : ¬ nHlt E1 = 1 := fun q => by have := t1 q; omega
        exact Or.inl ⟨rfl, by omega⟩
      · rw [if_neg g2]
        have : ¬ nHlt E2 = 1 := fun q => by have := t2 q; omega
        exact Or.inr (Or.inr ⟨rfl, by omega⟩)
  · rw [c, if_pos (by decide)]
    refine Or.inr (Or.inr ⟨rfl, ?_⟩)
    unfold keyN
    generalize pathN 0 (eD E1) = p1 at *
    generalize pathN 0 (eD E2) = p2 at *
    omega
theorem WE.ord {B F cs : Nat} {E : Nat → PE} (hF : F ≤ 40) (h : WE B F cs E) (a b : Nat) : (cmpE (E a) (E b) = 0 ∧ keyN (E a) < keyN (E b)) ∨ (cmpE (E a) (E b) = 1 ∧ keyN (E a) = keyN (E b)) ∨ (cmpE (E a) (E b) = 2 ∧ keyN (E b) < keyN (E a)) := key_ord hF (h.1 a) (h.1 b) (h.2 a b)
theorem key_lt {B F cs : Nat} {E : PE} (hF : F ≤ 40) (h : EF B F cs E) : keyN E < 2 ^ 59 := by
  have a1 := h.e.1
  obtain ⟨-, -, b1, l1, -⟩ := h
  have n1 := nH_le E
  have p := pathN_lt (eD E) 0 (by omega)
  unfold keyN
  generalize pathN 0 (eD E) = p1 at *
  omega
/-- rows of one way begin the same steps -/
theorem WE.same {B F cs : Nat} {E : Nat → PE} (hF : F ≤ 40) (h : WE B F cs E) {a b : Nat} (hk : keyN (E a) = keyN (E b)) : (eT (E a)).map Prod.fst = (eT (E b)).map Prod.fst ∧ eE (E a) = eE (E b) := by
  have ha := h.1 a
  have hb := h.1 b
  have e1 := ha.e
  have e2 := hb.e
  obtain ⟨-, -, b1, l1, -⟩ := ha
  obtain ⟨-, -, b2, l2, -⟩ := hb
  have n1 := nH_le (E a)
  have n2 := nH_le (E b)
  have sp := cmpL_sp (eD (E a)) (eD (E b)) 0 (by omega) (by omega)
  have ke : eN (E a) = eN (E b) ∧ eB (E a) + nHlt (E a) = eB (E b) + nHlt (E b) ∧ (eD (E a)).length = (eD (E b)).length ∧ pathN 0 (eD (E a)) = pathN 0 (eD (E b)) := by
    unfold keyN at hk
    generalize pathN 0 (eD (E a)) = p1 at *
    generalize pathN 0 (eD (E b)) = p2 at *
    omega
  have hd : eD (E a) = eD (E b) := by
    rcases sp with ⟨-, x⟩ | ⟨-, x⟩ | ⟨-, x⟩
    · omega
    · exact x
    · omega
  have hC := h.2 a b hd
  have t1 : nHlt (E a) = 1 → eB (E b) ≤ eB (E a) := fun q => hC.1 (by unfold nHlt at q; split at q; assumption; cases q)
  have t2 : nHlt (E b) = 1 → eB (E a) ≤ eB (E b) := fun q => hC.2.1 (by unfold nHlt at q; split at q; assumption; cases q)
  refine ⟨hC.2.2 (by omega), by rw [e1.2, e2.2, ke.1]⟩
