/-! PART 68: the grammar: no more orders than tokens -/
def Mo (n m : Nat) (R : PT → PR) : Prop := ∀ S S', R S = .ok S' → cn S' + ti S + m ≤ cn S + ti S' ∧ ti S + n ≤ ti S'
theorem Mo.w {n m n' m' : Nat} {R : PT → PR} (h : Mo n m R) (a : n' ≤ n) (b : m' ≤ m) : Mo n' m' R := fun S S' e => by have := h S S' e; omega
theorem Mo_id : Mo 0 0 (fun S => .ok S) := fun S S' e => by cases e; omega
theorem pb_inv {r : PR} {f : PT → PR} {S' : PT} (h : pb r f = .ok S') : ∃ S1, r = .ok S1 ∧ f S1 = .ok S' := by
  cases r with
  | ok S1 => exact ⟨S1, rfl, h⟩
  | error e => cases h
theorem Mo.pb {n m n' m' : Nat} {R f : PT → PR} (h : Mo n m R) (hf : Mo n' m' f) : Mo (n + n') (m + m') (fun S => pb (R S) f) := fun S S' e => by
  obtain ⟨S1, e1, e2⟩ := pb_inv e
  have := h S S1 e1
  have := hf S1 S' e2
  omega
theorem Mo_sgn (T : TD) (ch : Int32) : Mo 1 1 (sgn T ch) := fun S S' e => by
  unfold sgn at e
  split at e
  · cases e; show cn S + ti S + 1 ≤ cn S + (ti S + 1) ∧ ti S + 1 ≤ ti S + 1; omega
  · cases e
theorem Mo_opn (T : TD) (ch : Int32) (k : Nat) : Mo 1 1 (opn T ch k) := fun S S' e => by
  unfold opn at e
  split at e
  · split at e
    · cases e
    · cases e; show cn S + ti S + 1 ≤ cn S + (ti S + 1) ∧ ti S + 1 ≤ ti S + 1; omega
  · cases e
theorem Mo_cls (T : TD) (o : Nat) (a : Int32) : Mo 1 0 (cls T o a) := fun S S' e => by
  have h := Mo_sgn T 59 _ _ e
  have e1 : cn (em o a S) = cn S + 1 := rfl
  have e2 : ti (em o a S) = ti S := rfl
  rw [e1, e2] at h
  omega
theorem Mo_plc {T : TD} {k : Nat} {inn : PT → PR} (h : Mo 0 0 inn) : Mo 2 2 (plc T k inn) := ((Mo_opn T 91 k).pb (h.pb (Mo_sgn T 93))).w (by omega) (by omega)
theorem Mo_unF {T : TD} {k : Nat} {inn : PT → PR} (h : Mo 0 0 inn) : Mo 1 0 (unF T k inn) := fun S S' e => by
  unfold unF at e
  split at e
  · cases e
  · split at e
    · cases e
    · split at e
      · have := ((Mo_opn T 40 k).pb (h.pb (Mo_sgn T 41))) (unU S) S' e
        have e1 : cn (unU S) = cn S := rfl
        have e2 : ti (unU S) = ti S := rfl
        rw [e1, e2] at this
        omega
      · split at e
        · obtain ⟨S1, g1, g2⟩ := pb_inv e
          have := Mo_plc h (adv (unU S)) S1 g1
          have e1 : cn (adv (unU S)) = cn S := rfl
          have e2 : ti (adv (unU S)) = ti S + 1 := rfl
          rw [e1, e2] at this
          cases g2
          show cn S1 + 1 + ti S + 0 ≤ cn S + ti S1 ∧ ti S + 1 ≤ ti S1
          omega
        · split at e
          · cases e; show cn S + 1 + ti S + 0 ≤ cn S + (ti S + 1) ∧ ti S + 1 ≤ ti S + 1; omega
          · cases e; show cn S + 1 + ti S + 0 ≤ cn S + (ti S + 1) ∧ ti S + 1 ≤ ti S + 1; omega
theorem Mo_olp {T : TD} {c1 c2 : Int32} {o1 o2 : Nat} {u : PT → PR} (h : Mo 1 0 u) : ∀ f, Mo 0 0 (olp T c1 c2 o1 o2 u f)
  | 0 => fun S S' e => by cases e; omega
  | f + 1 => fun S S' e => by
    rw [olp] at e
    split at e
    · obtain ⟨S1, g1, g2⟩ := pb_inv e
      have a := h _ _ g1
      have b := Mo_olp h f _ _ g2
      have e1 : cn (adv S) = cn S := rfl
      have e2 : ti (adv S) = ti S + 1 := rfl
      have e3 : ∀ o, cn (em o 0 S1) = cn S1 + 1 := fun _ => rfl
      have e4 : ∀ o, ti (em o 0 S1) = ti S1 := fun _ => rfl
      rw [e1, e2] at a
      rw [e3, e4] at b
      omega
    · cases e; omega
theorem Mo_prd {T : TD} {u : PT → PR} (h : Mo 1 0 u) : Mo 1 0 (prd T u) := h.pb (Mo_olp h 501)
theorem Mo_smm {T : TD} {u : PT → PR} (h : Mo 1 0 u) : Mo 1 0 (smm T u) := h.pb (Mo_olp h 501)
theorem Mo_rdI (T : TD) : ∀ k, Mo 0 0 (rdI T k)
  | 0 => Mo_id
  | k + 1 => (Mo_smm (Mo_prd (Mo_unF (k := k) (Mo_rdI T k)))).w (by omega) (by omega)
theorem Mo_rdI1 (T : TD) (k : Nat) : Mo 1 0 (rdI T (k + 1)) := Mo_smm (Mo_prd (Mo_unF (k := k) (Mo_rdI T k)))
theorem Mo_tst (T : TD) (k : Nat) : Mo 3 0 (tst T k) := fun S S' e => by
  obtain ⟨S1, g1, g2⟩ := pb_inv e
  have a := Mo_rdI1 T k _ _ g1
  split at g2
  · obtain ⟨S2, g3, g4⟩ := pb_inv g2
    have b := Mo_rdI1 T k _ _ g3
    have e1 : cn (adv S1) = cn S1 := rfl
    have e2 : ti (adv S1) = ti S1 + 1 := rfl
    rw [e1, e2] at b
    cases g4
    show cn S2 + 1 + ti S + 0 ≤ cn S + ti S2 ∧ ti S + 3 ≤ ti S2
    omega
  · cases g2
theorem Mo_clp (T : TD) (k : Nat) : ∀ (f : Nat) (w : Bool) (S S' : PT), clp T k f w S = .ok S' → cn S' + ti S ≤ cn S + ti S' + (if w = true then 1 else 0) ∧ ti S ≤ ti S'
  | 0, w, S, S', e => by
    rw [clp] at e
    cases w <;> cases e
    · show cn S + ti S ≤ _ ∧ _; simp
    · show cn S + 1 + ti S ≤ cn S + ti S + 1 ∧ ti S ≤ ti S; omega
  | f + 1, w, S, S', e => by
    rw [clp] at e
    split at e
    · obtain ⟨S1, g1, g2⟩ := pb_inv e
      have a := Mo_tst T k _ _ g1
      have b := Mo_clp T k f true _ _ g2
      rw [if_pos rfl] at b
      cases w
      · have e1 : cn (adv (if false = true then em 14 0 S else S)) = cn S := rfl
        have e2 : ti (adv (if false = true then em 14 0 S else S)) = ti S + 1 := rfl
        rw [e1, e2] at a
        simp only [Bool.false_eq_true, if_false]
        omega
      · have e1 : cn (adv (if true = true then em 14 0 S else S)) = cn S + 1 := rfl
        have e2 : ti (adv (if true = true then em 14 0 S else S)) = ti S + 1 := rfl
        rw [e1, e2] at a
        rw [if_pos rfl]
        omega
    · split at e
      · obtain ⟨S1, g1, g2⟩ := pb_inv e
        have a := Mo_tst T k _ _ g1
        have b := Mo_clp T k f w _ _ g2
        have e1 : cn (adv S) = cn S := rfl
        have e2 : ti (adv S) = ti S + 1 := rfl
        have e3 : cn (em 13 0 S1) = cn S1 + 1 := rfl
        have e4 : ti (em 13 0 S1) = ti S1 := rfl
        rw [e1, e2] at a
        rw [e3, e4] at b
        omega
      · cases w <;> cases e
        · show cn S + ti S ≤ _ ∧ _; simp
        · show cn S + 1 + ti S ≤ cn S + ti S + 1 ∧ ti S ≤ ti S; omega
theorem Mo_cnd (T : TD) (k : Nat) : Mo 3 0 (cnd T k) := fun S S' e => by
  obtain ⟨S1, g1, g2⟩ := pb_inv e
  have a := Mo_tst T k _ _ g1
  have b := Mo_clp T k _ _ _ _ g2
  rw [if_neg (by decide)] at b
  omega
theorem Mo_blp {T : TD} {s : PT → PR} (h : Mo 1 0 s) : ∀ f, Mo 0 0 (blp T s f)
  | 0 => fun S S' e => by cases e; omega
  | f + 1 => fun S S' e => by
    rw [blp] at e
    split at e
    · cases e; omega
    · obtain ⟨S1, g1, g2⟩ := pb_inv e
      have a := h _ _ g1
      have b := Mo_blp h f _ _ g2
      omega
theorem Mo_blo {T : TD} {k : Nat} {s : PT → PR} (h : Mo 1 0 s) : Mo 2 2 (blo T k s) := ((Mo_opn T 123 k).pb ((Mo_blp h 501).pb (Mo_sgn T 125))).w (by omega) (by omega)
theorem Mo_brs {T : TD} {b : PT → PR} (h : Mo 2 2 b) : Mo 2 1 (brs T b) := fun S S' e => by
  obtain ⟨S2, g1, g2⟩ := pb_inv e
  have a := h _ _ g1
  have e1 : cn (em 21 0 S) = cn S + 1 := rfl
  have e2 : ti (em 21 0 S) = ti S := rfl
  rw [e1, e2] at a
  split at g2
  · obtain ⟨S5, g3, g4⟩ := pb_inv g2
    have b := h _ _ g3
    have e3 : cn (pat (cn S) (em 22 0 (adv S2))) = cn S2 + 1 := rfl
    have e4 : ti (pat (cn S) (em 22 0 (adv S2))) = ti S2 + 1 := rfl
    rw [e3, e4] at b
    cases g4
    show cn S5 + ti S + 1 ≤ cn S + ti S5 ∧ ti S + 2 ≤ ti S5
    omega
  · cases g2
    show cn S2 + ti S + 1 ≤ cn S + ti S2 ∧ ti S + 2 ≤ ti S2
    omega
theorem Mo_lop {b : PT → PR} {beg : Nat} (h : Mo 2 2 b) : Mo 2 0 (lop b beg) := fun S S' e => by
  obtain ⟨S2, g1, g2⟩ := pb_inv e
  have a := h _ _ g1
  have e1 : cn (em 21 0 S) = cn S + 1 := rfl
  have e2 : ti (em 21 0 S) = ti S := rfl
  rw [e1, e2] at a
  cases g2
  show cn S2 + 1 + ti S + 0 ≤ cn S + ti S2 ∧ ti S + 2 ≤ ti S2
  omega
theorem Mo_cld (T : TD) : Mo 0 0 (cld T) := fun S S' e => by
  unfold cld at e
  split at e
  · split at e
    · cases e
    · have := Mo_cls T _ _ _ _ e
      have e1 : cn (adv S) = cn S := rfl
      have e2 : ti (adv S) = ti S + 1 := rfl
      rw [e1, e2] at this
      omega
  · cases e
theorem Mo_ask (T : TD) : Mo 0 0 (ask T) := fun S S' e => by
  obtain ⟨S1, g1, g2⟩ := pb_inv e
  have a := Mo_sgn T 2 _ _ g1
  have b := Mo_cls T _ _ _ _ g2
  omega
theorem cn_bst (K : Int32) (S : PT) : cn (adv (bst K S)) = cn S + 1 := rfl
theorem ti_bst (K : Int32) (S : PT) : ti (adv (bst K S)) = ti S + 1 := rfl
theorem Mo_stF {T : TD} {k : Nat} {b : PT → PR} (h : Mo 2 2 b) : Mo 1 0 (stF T k b) := fun S S' e => by
  have key : ∀ (K : Int32) (R : PT → PR), Mo 0 0 R → R (adv (bst K S)) = .ok S' → cn S' + ti S + 0 ≤ cn S + ti S' ∧ ti S + 1 ≤ ti S' := fun K R hR g => by
    have := hR _ _ g
    rw [cn_bst, ti_bst] at this
    omega
  unfold stF at e
  split at e
  · split at e
    · cases e
    · split at e
      · exact key 8 _ (((Mo_cnd T k).pb (Mo_brs h)).w (by omega) (by omega)) e
      · split at e
        · exact key 10 _ (((Mo_cnd T k).pb (Mo_lop h)).w (by omega) (by omega)) e
        · split at e
          · exact key 0 _ (((Mo_cnd T k).pb (Mo_cls T 17 0)).w (by omega) (by omega)) e
          · split at e
            · exact key 0 _ (((Mo_cnd T k).pb (Mo_cls T 18 0)).w (by omega) (by omega)) e
            · split at e
              · exact key 0 _ (((Mo_sgn T 61).pb ((Mo_rdI T (k + 1)).pb (Mo_cls T 15 _))).w (by omega) (by omega)) e
              · split at e
                · exact key 0 _ (((Mo_plc (Mo_rdI T k)).pb ((Mo_sgn T 61).pb ((Mo_rdI T (k + 1)).pb (Mo_cls T 16 0)))).w (by omega) (by omega)) e
                · split at e
                  · exact key 0 _ (Mo_cld T) e
                  · split at e
                    · exact key 0 _ (Mo_ask T) e
                    · exact key 0 _ ((Mo_cls T 20 0).w (by omega) (by omega)) e
  · cases e
/-- where no bracket may be opened none is -/
theorem Mo_blo0 (T : TD) (s : PT → PR) : Mo 2 2 (blo T 0 s) := fun S S' e => by
  obtain ⟨S1, g1, -⟩ := pb_inv e
  unfold opn at g1
  split at g1
  · rw [if_pos rfl] at g1; cases g1
  · cases g1
theorem Mo_bkI (T : TD) : ∀ k, Mo 0 0 (bkI T k) ∧ Mo 1 0 (bkI T (k + 1))
  | 0 => ⟨Mo_id, Mo_stF (Mo_blo0 T _)⟩
  | k + 1 => ⟨(Mo_bkI T k).2.w (by omega) (by omega), Mo_stF (Mo_blo (Mo_bkI T k).2)⟩
theorem Mo_blk (T : TD) : ∀ k, Mo 2 2 (blo T k (bkI T k))
  | 0 => Mo_blo0 T _
  | k + 1 => Mo_blo (Mo_bkI T k).2
theorem Mo_prl (T : TD) : ∀ f, Mo 0 0 (prl T f)
  | 0 => fun S S' e => by cases e; omega
  | f + 1 => fun S S' e => by
    rw [prl] at e
    split at e
    · split at e
      · split at e
        · obtain ⟨S3, g1, g2⟩ := pb_inv e
          have a := Mo_blk T 10 _ _ g1
          have b := Mo_prl T f _ _ g2
          have e1 : cn (adv (adv S)) = cn S := rfl
          have e2 : ti (adv (adv S)) = ti S + 2 := rfl
          have e3 : ∀ p v, cn (seR p v (em 24 0 S3)) = cn S3 + 1 := fun _ _ => rfl
          have e4 : ∀ p v, ti (seR p v (em 24 0 S3)) = ti S3 := fun _ _ => rfl
          rw [e1, e2] at a
          rw [e3, e4] at b
          omega
        · cases e
      · cases e
    · cases e; omega
theorem Mo_stl (T : TD) : ∀ f, Mo 0 0 (stl T f)
  | 0 => fun S S' e => by cases e; omega
  | f + 1 => fun S S' e => by
    rw [stl] at e
    split at e
    · cases e; omega
    · obtain ⟨S1, g1, g2⟩ := pb_inv e
      have a := (Mo_bkI T 10).2 _ _ g1
      have b := Mo_stl T f _ _ g2
      omega
