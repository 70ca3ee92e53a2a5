/-! PART 69: the grammar: what is written down stays -/
def Mc (R : PT → PR) : Prop := ∀ S S', R S = .ok S' → cn S ≤ cn S'
theorem Mc_id : Mc (fun S => .ok S) := fun S S' e => by cases e; exact Nat.le_refl _
theorem Mc.pb {R f : PT → PR} (h : Mc R) (hf : Mc f) : Mc (fun S => pb (R S) f) := fun S S' e => by
  obtain ⟨S1, e1, e2⟩ := pb_inv e
  exact Nat.le_trans (h S S1 e1) (hf S1 S' e2)
theorem Mc_sgn (T : TD) (ch : Int32) : Mc (sgn T ch) := fun S S' e => by
  unfold sgn at e
  split at e
  · cases e; exact Nat.le_refl _
  · cases e
theorem Mc_opn (T : TD) (ch : Int32) (k : Nat) : Mc (opn T ch k) := fun S S' e => by
  unfold opn at e
  split at e
  · split at e
    · cases e
    · cases e; exact Nat.le_refl _
  · cases e
theorem Mc_cls (T : TD) (o : Nat) (a : Int32) : Mc (cls T o a) := fun S S' e => Nat.le_trans (Nat.le_succ _) (Mc_sgn T 59 _ _ e)
theorem Mc_plc {T : TD} {k : Nat} {inn : PT → PR} (h : Mc inn) : Mc (plc T k inn) := (Mc_opn T 91 k).pb (h.pb (Mc_sgn T 93))
theorem Mc_unF {T : TD} {k : Nat} {inn : PT → PR} (h : Mc inn) : Mc (unF T k inn) := fun S S' e => by
  unfold unF at e
  split at e
  · cases e
  · split at e
    · cases e
    · split at e
      · exact ((Mc_opn T 40 k).pb (h.pb (Mc_sgn T 41))) (unU S) S' e
      · split at e
        · obtain ⟨S1, g1, g2⟩ := pb_inv e
          have := Mc_plc h (adv (unU S)) S1 g1
          cases g2
          exact Nat.le_trans this (Nat.le_succ _)
        · split at e
          · cases e; exact Nat.le_succ _
          · cases e; exact Nat.le_succ _
theorem Mc_olp {T : TD} {c1 c2 : Int32} {o1 o2 : Nat} {u : PT → PR} (h : Mc u) : ∀ f, Mc (olp T c1 c2 o1 o2 u f)
  | 0 => fun S S' e => by cases e; exact Nat.le_refl _
  | f + 1 => fun S S' e => by
    rw [olp] at e
    split at e
    · obtain ⟨S1, g1, g2⟩ := pb_inv e
      have a : cn (adv S) ≤ cn S1 := h _ _ g1
      have b : cn S1 + 1 ≤ cn S' := Mc_olp h f _ _ g2
      have c : cn (adv S) = cn S := rfl
      omega
    · cases e; exact Nat.le_refl _
theorem Mc_rdI (T : TD) : ∀ k, Mc (rdI T k)
  | 0 => Mc_id
  | k + 1 => ((Mc_unF (k := k) (Mc_rdI T k)).pb (Mc_olp (Mc_unF (k := k) (Mc_rdI T k)) 501)).pb (Mc_olp ((Mc_unF (k := k) (Mc_rdI T k)).pb (Mc_olp (Mc_unF (k := k) (Mc_rdI T k)) 501)) 501)
theorem Mc_tst (T : TD) (k : Nat) : Mc (tst T k) := fun S S' e => by
  obtain ⟨S1, g1, g2⟩ := pb_inv e
  split at g2
  · obtain ⟨S2, g3, g4⟩ := pb_inv g2
    have a := Mc_rdI T (k + 1) _ _ g1
    have b := Mc_rdI T (k + 1) _ _ g3
    cases g4
    exact Nat.le_trans a (Nat.le_trans b (Nat.le_succ _))
  · cases g2
theorem Mc_clp (T : TD) (k : Nat) : ∀ (f : Nat) (w : Bool), Mc (clp T k f w)
  | 0, w => fun S S' e => by
    rw [clp] at e
    cases w <;> cases e
    · exact Nat.le_refl _
    · exact Nat.le_succ _
  | f + 1, w => fun S S' e => by
    rw [clp] at e
    split at e
    · obtain ⟨S1, g1, g2⟩ := pb_inv e
      have a := Mc_tst T k _ _ g1
      have b := Mc_clp T k f true _ _ g2
      cases w
      · have a : cn S ≤ cn S1 := a
        exact Nat.le_trans a b
      · have a : cn S + 1 ≤ cn S1 := a
        exact Nat.le_trans (Nat.le_succ _) (Nat.le_trans a b)
    · split at e
      · obtain ⟨S1, g1, g2⟩ := pb_inv e
        have a : cn (adv S) ≤ cn S1 := Mc_tst T k _ _ g1
        have b : cn S1 + 1 ≤ cn S' := Mc_clp T k f w _ _ g2
        have c : cn (adv S) = cn S := rfl
        omega
      · cases w <;> cases e
        · exact Nat.le_refl _
        · exact Nat.le_succ _
theorem Mc_cnd (T : TD) (k : Nat) : Mc (cnd T k) := (Mc_tst T k).pb (Mc_clp T k 501 false)
theorem Mc_blp {T : TD} {s : PT → PR} (h : Mc s) : ∀ f, Mc (blp T s f)
  | 0 => fun S S' e => by cases e; exact Nat.le_refl _
  | f + 1 => fun S S' e => by
    rw [blp] at e
    split at e
    · cases e; exact Nat.le_refl _
    · obtain ⟨S1, g1, g2⟩ := pb_inv e
      exact Nat.le_trans (h _ _ g1) (Mc_blp h f _ _ g2)
theorem Mc_blo {T : TD} {k : Nat} {s : PT → PR} (h : Mc s) : Mc (blo T k s) := (Mc_opn T 123 k).pb ((Mc_blp h 501).pb (Mc_sgn T 125))
theorem Mc_brs {T : TD} {b : PT → PR} (h : Mc b) : Mc (brs T b) := fun S S' e => by
  obtain ⟨S2, g1, g2⟩ := pb_inv e
  have a := h _ _ g1
  split at g2
  · obtain ⟨S5, g3, g4⟩ := pb_inv g2
    have b := h _ _ g3
    cases g4
    exact Nat.le_trans (Nat.le_succ _) (Nat.le_trans a (Nat.le_trans (Nat.le_succ _) b))
  · cases g2
    exact Nat.le_trans (Nat.le_succ _) a
theorem Mc_lop {b : PT → PR} {beg : Nat} (h : Mc b) : Mc (lop b beg) := fun S S' e => by
  obtain ⟨S2, g1, g2⟩ := pb_inv e
  have a := h _ _ g1
  cases g2
  exact Nat.le_trans (Nat.le_succ _) (Nat.le_trans a (Nat.le_succ _))
theorem Mc_cld (T : TD) : Mc (cld T) := fun S S' e => by
  unfold cld at e
  split at e
  · split at e
    · cases e
    · exact Mc_cls T _ _ (adv S) S' e
  · cases e
theorem Mc_ask (T : TD) : Mc (ask T) := fun S S' e => by
  obtain ⟨S1, g1, g2⟩ := pb_inv e
  exact Nat.le_trans (Mc_sgn T 2 _ _ g1) (Mc_cls T _ _ _ _ g2)
theorem Mc_stF {T : TD} {k : Nat} {b : PT → PR} (h : Mc b) : Mc (stF T k b) := fun S S' e => by
  have key : ∀ (K : Int32) (R : PT → PR), Mc R → R (adv (bst K S)) = .ok S' → cn S ≤ cn S' := fun K R hR g => Nat.le_trans (Nat.le_succ _) (hR _ _ g)
  unfold stF at e
  split at e
  · split at e
    · cases e
    · split at e
      · exact key 8 _ ((Mc_cnd T k).pb (Mc_brs h)) e
      · split at e
        · exact key 10 _ ((Mc_cnd T k).pb (Mc_lop h)) e
        · split at e
          · exact key 0 _ ((Mc_cnd T k).pb (Mc_cls T 17 0)) e
          · split at e
            · exact key 0 _ ((Mc_cnd T k).pb (Mc_cls T 18 0)) e
            · split at e
              · exact key 0 _ ((Mc_sgn T 61).pb ((Mc_rdI T (k + 1)).pb (Mc_cls T 15 _))) e
              · split at e
                · exact key 0 _ ((Mc_plc (Mc_rdI T k)).pb ((Mc_sgn T 61).pb ((Mc_rdI T (k + 1)).pb (Mc_cls T 16 0)))) e
                · split at e
                  · exact key 0 _ (Mc_cld T) e
                  · split at e
                    · exact key 0 _ (Mc_ask T) e
                    · exact key 0 _ (Mc_cls T 20 0) e
  · cases e
theorem Mc_bkI (T : TD) : ∀ k, Mc (bkI T k)
  | 0 => Mc_id
  | k + 1 => Mc_stF (Mc_blo (Mc_bkI T k))
