/-! PART 69b: the grammar: start and tests stay (made by a short program out of part 69) -/
def Mb (R : PT → PR) : Prop := ∀ S S', R S = .ok S' → (cB S' = cB S ∧ cK S' = cK S ∧ cL S' = cL S ∧ cR S' = cR S)
theorem Mbt {a b c : PT} (h1 : cB b = cB a ∧ cK b = cK a ∧ cL b = cL a ∧ cR b = cR a) (h2 : cB c = cB b ∧ cK c = cK b ∧ cL c = cL b ∧ cR c = cR b) : cB c = cB a ∧ cK c = cK a ∧ cL c = cL a ∧ cR c = cR a := ⟨h2.1.trans h1.1, h2.2.1.trans h1.2.1, h2.2.2.1.trans h1.2.2.1, h2.2.2.2.trans h1.2.2.2⟩
theorem Mb_id : Mb (fun S => .ok S) := fun S S' e => by cases e; exact ⟨rfl, rfl, rfl, rfl⟩
theorem Mb.pb {R f : PT → PR} (h : Mb R) (hf : Mb f) : Mb (fun S => pb (R S) f) := fun S S' e => by
  obtain ⟨S1, e1, e2⟩ := pb_inv e
  exact Mbt (h S S1 e1) (hf S1 S' e2)
theorem Mb_sgn (T : TD) (ch : Int32) : Mb (sgn T ch) := fun S S' e => by
  unfold sgn at e
  split at e
  · cases e; exact ⟨rfl, rfl, rfl, rfl⟩
  · cases e
theorem Mb_opn (T : TD) (ch : Int32) (k : Nat) : Mb (opn T ch k) := fun S S' e => by
  unfold opn at e
  split at e
  · split at e
    · cases e
    · cases e; exact ⟨rfl, rfl, rfl, rfl⟩
  · cases e
theorem Mb_cls (T : TD) (o : Nat) (a : Int32) : Mb (cls T o a) := fun S S' e => Mb_sgn T 59 (em o a S) S' e
theorem Mb_plc {T : TD} {k : Nat} {inn : PT → PR} (h : Mb inn) : Mb (plc T k inn) := (Mb_opn T 91 k).pb (h.pb (Mb_sgn T 93))
theorem Mb_unF {T : TD} {k : Nat} {inn : PT → PR} (h : Mb inn) : Mb (unF T k inn) := fun S S' e => by
  unfold unF at e
  split at e
  · cases e
  · split at e
    · cases e
    · split at e
      · exact ((Mb_opn T 40 k).pb (h.pb (Mb_sgn T 41))) (unU S) S' e
      · split at e
        · obtain ⟨S1, g1, g2⟩ := pb_inv e
          have := Mb_plc h (adv (unU S)) S1 g1
          cases g2
          exact this
        · split at e
          · cases e; exact ⟨rfl, rfl, rfl, rfl⟩
          · cases e; exact ⟨rfl, rfl, rfl, rfl⟩
theorem Mb_olp {T : TD} {c1 c2 : Int32} {o1 o2 : Nat} {u : PT → PR} (h : Mb u) : ∀ f, Mb (olp T c1 c2 o1 o2 u f)
  | 0 => fun S S' e => by cases e; exact ⟨rfl, rfl, rfl, rfl⟩
  | f + 1 => fun S S' e => by
    rw [olp] at e
    split at e
    · obtain ⟨S1, g1, g2⟩ := pb_inv e
      exact Mbt (h (adv S) S1 g1) (Mb_olp h f (em _ 0 S1) S' g2)
    · cases e; exact ⟨rfl, rfl, rfl, rfl⟩
theorem Mb_rdI (T : TD) : ∀ k, Mb (rdI T k)
  | 0 => Mb_id
  | k + 1 => ((Mb_unF (k := k) (Mb_rdI T k)).pb (Mb_olp (Mb_unF (k := k) (Mb_rdI T k)) 501)).pb (Mb_olp ((Mb_unF (k := k) (Mb_rdI T k)).pb (Mb_olp (Mb_unF (k := k) (Mb_rdI T k)) 501)) 501)
theorem Mb_tst (T : TD) (k : Nat) : Mb (tst T k) := fun S S' e => by
  obtain ⟨S1, g1, g2⟩ := pb_inv e
  split at g2
  · obtain ⟨S2, g3, g4⟩ := pb_inv g2
    have a := Mb_rdI T (k + 1) _ _ g1
    have b := Mb_rdI T (k + 1) (adv S1) S2 g3
    cases g4
    exact Mbt a b
  · cases g2
theorem Mb_clp (T : TD) (k : Nat) : ∀ (f : Nat) (w : Bool), Mb (clp T k f w)
  | 0, w => fun S S' e => by
    rw [clp] at e
    cases w <;> cases e <;> exact ⟨rfl, rfl, rfl, rfl⟩
  | f + 1, w => fun S S' e => by
    rw [clp] at e
    split at e
    · obtain ⟨S1, g1, g2⟩ := pb_inv e
      have a := Mb_tst T k _ _ g1
      have b := Mb_clp T k f true _ _ g2
      cases w
      · exact Mbt a b
      · exact Mbt a b
    · split at e
      · obtain ⟨S1, g1, g2⟩ := pb_inv e
        exact Mbt (Mb_tst T k (adv S) S1 g1) (Mb_clp T k f w (em 13 0 S1) S' g2)
      · cases w <;> cases e <;> exact ⟨rfl, rfl, rfl, rfl⟩
theorem Mb_cnd (T : TD) (k : Nat) : Mb (cnd T k) := (Mb_tst T k).pb (Mb_clp T k 501 false)
theorem Mb_blp {T : TD} {s : PT → PR} (h : Mb s) : ∀ f, Mb (blp T s f)
  | 0 => fun S S' e => by cases e; exact ⟨rfl, rfl, rfl, rfl⟩
  | f + 1 => fun S S' e => by
    rw [blp] at e
    split at e
    · cases e; exact ⟨rfl, rfl, rfl, rfl⟩
    · obtain ⟨S1, g1, g2⟩ := pb_inv e
      exact Mbt (h _ _ g1) (Mb_blp h f _ _ g2)
theorem Mb_blo {T : TD} {k : Nat} {s : PT → PR} (h : Mb s) : Mb (blo T k s) := (Mb_opn T 123 k).pb ((Mb_blp h 501).pb (Mb_sgn T 125))
theorem Mb_brs {T : TD} {b : PT → PR} (h : Mb b) : Mb (brs T b) := fun S S' e => by
  obtain ⟨S2, g1, g2⟩ := pb_inv e
  have a := h (em 21 0 S) S2 g1
  split at g2
  · obtain ⟨S5, g3, g4⟩ := pb_inv g2
    have b := h (pat (cn S) (em 22 0 (adv S2))) S5 g3
    cases g4
    exact Mbt a b
  · cases g2
    exact a
theorem Mb_lop {b : PT → PR} {beg : Nat} (h : Mb b) : Mb (lop b beg) := fun S S' e => by
  obtain ⟨S2, g1, g2⟩ := pb_inv e
  have a := h (em 21 0 S) S2 g1
  cases g2
  exact a
theorem Mb_cld (T : TD) : Mb (cld T) := fun S S' e => by
  unfold cld at e
  split at e
  · split at e
    · cases e
    · exact Mb_cls T _ _ (adv S) S' e
  · cases e
theorem Mb_ask (T : TD) : Mb (ask T) := fun S S' e => by
  obtain ⟨S1, g1, g2⟩ := pb_inv e
  exact Mbt (Mb_sgn T 2 _ _ g1) (Mb_cls T _ _ _ _ g2)
theorem Mb_stF {T : TD} {k : Nat} {b : PT → PR} (h : Mb b) : Mb (stF T k b) := fun S S' e => by
  have key : ∀ (K : Int32) (R : PT → PR), Mb R → R (adv (bst K S)) = .ok S' → (cB S' = cB S ∧ cK S' = cK S ∧ cL S' = cL S ∧ cR S' = cR S) := fun K R hR g => hR (adv (bst K S)) S' g
  unfold stF at e
  split at e
  · split at e
    · cases e
    · split at e
      · exact key 8 _ ((Mb_cnd T k).pb (Mb_brs h)) e
      · split at e
        · exact key 10 _ ((Mb_cnd T k).pb (Mb_lop h)) e
        · split at e
          · exact key 0 _ ((Mb_cnd T k).pb (Mb_cls T 17 0)) e
          · split at e
            · exact key 0 _ ((Mb_cnd T k).pb (Mb_cls T 18 0)) e
            · split at e
              · exact key 0 _ ((Mb_sgn T 61).pb ((Mb_rdI T (k + 1)).pb (Mb_cls T 15 _))) e
              · split at e
                · exact key 0 _ ((Mb_plc (Mb_rdI T k)).pb ((Mb_sgn T 61).pb ((Mb_rdI T (k + 1)).pb (Mb_cls T 16 0)))) e
                · split at e
                  · exact key 0 _ (Mb_cld T) e
                  · split at e
                    · exact key 0 _ (Mb_ask T) e
                    · exact key 0 _ (Mb_cls T 20 0) e
  · cases e
theorem Mb_bkI (T : TD) : ∀ k, Mb (bkI T k)
  | 0 => Mb_id
  | k + 1 => Mb_stF (Mb_blo (Mb_bkI T k))
theorem Mb_stl (T : TD) : ∀ f, Mb (stl T f)
  | 0 => fun S S' e => by cases e; exact ⟨rfl, rfl, rfl, rfl⟩
  | f + 1 => fun S S' e => by
    rw [stl] at e
    split at e
    · cases e; exact ⟨rfl, rfl, rfl, rfl⟩
    · obtain ⟨S1, g1, g2⟩ := pb_inv e
      exact Mbt (Mb_bkI T 11 _ _ g1) (Mb_stl T f _ _ g2)
