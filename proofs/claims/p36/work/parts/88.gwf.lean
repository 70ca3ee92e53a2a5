/-! PART 88: what the grammar writes down is well formed: how many acts; a whole program -/
def ac (S : PT) : Nat := p_ac (cP S) (cn S) 0
theorem p_ac_s (P : Nat → Nat × Int32) : ∀ (m pc : Nat), p_ac P (m + 1) pc = p_ac P m pc + (if 15 ≤ (P (pc + m)).1 then 1 else 0)
  | 0, pc => by simp [p_ac]
  | m + 1, pc => by
    rw [p_ac, p_ac_s P m (pc + 1), p_ac, show pc + 1 + m = pc + (m + 1) by omega]
    omega
theorem p_ac_c {P P' : Nat → Nat × Int32} : ∀ (m pc : Nat), (∀ i, i < pc + m → (P' i).1 = (P i).1) → p_ac P' m pc = p_ac P m pc
  | 0, _, _ => rfl
  | m + 1, pc, h => by
    rw [p_ac, p_ac, h pc (by omega), p_ac_c m (pc + 1) (fun i hi => h i (by omega))]
theorem ac_em (o : Nat) (a : Int32) (S : PT) : ac (em o a S) = ac S + (if 15 ≤ o then 1 else 0) := by
  show p_ac (cP (em o a S)) (cn S + 1) 0 = _
  rw [p_ac_s, Nat.zero_add, em_P, p_ac_c (P := cP S) (cn S) 0 (fun i hi => by rw [(Pre.em (S := S) (o := o) (a := a)).2.1 i (by omega)])]
  rfl
theorem ac_pat (j : Nat) (S : PT) : ac (pat j S) = ac S := p_ac_c _ _ (fun i _ => up_op i)
def Ma (c : Nat) (R : PT → PR) : Prop := ∀ S S', R S = .ok S' → cS S ≤ cS S' ∧ ac S' + 2 * cS S ≤ ac S + 2 * cS S' + c
theorem Ma_id : Ma 0 (fun S => .ok S) := fun S S' e => by cases e; omega
theorem Ma.pb {c c' : Nat} {R f : PT → PR} (h : Ma c R) (hf : Ma c' f) : Ma (c + c') (fun S => pb (R S) f) := fun S S' e => by
  obtain ⟨S1, e1, e2⟩ := pb_inv e
  have := h S S1 e1
  have := hf S1 S' e2
  omega
theorem Ma.w {c c' : Nat} {R : PT → PR} (h : Ma c R) (hc : c ≤ c') : Ma c' R := fun S S' e => by have := h S S' e; omega
theorem Ma_sgn (T : TD) (ch : Int32) : Ma 0 (sgn T ch) := fun S S' e => by
  obtain ⟨rfl, -⟩ := sgn_ok e
  exact ⟨Nat.le_refl _, Nat.le_refl _⟩
theorem Ma_opn (T : TD) (ch : Int32) (k : Nat) : Ma 0 (opn T ch k) := fun S S' e => by
  obtain ⟨rfl, -⟩ := opn_ok e
  exact ⟨Nat.le_refl _, Nat.le_refl _⟩
theorem Ma_em {c : Nat} {R : PT → PR} (h : Ma c R) (o : Nat) (a : Int32) : ∀ S S', R (em o a S) = .ok S' → cS S ≤ cS S' ∧ ac S' + 2 * cS S ≤ ac S + 2 * cS S' + (c + (if 15 ≤ o then 1 else 0)) := fun S S' e => by
  have := h _ _ e
  rw [ac_em] at this
  have e1 : cS (em o a S) = cS S := rfl
  rw [e1] at this
  omega
theorem Ma_cls (T : TD) (o : Nat) (a : Int32) : Ma 1 (cls T o a) := fun S S' e => by
  have := Ma_em (Ma_sgn T 59) o a S S' e
  have hx : (if 15 ≤ o then 1 else 0) ≤ 1 := by split <;> omega
  omega
theorem Ma_plc {T : TD} {k : Nat} {inn : PT → PR} (h : Ma 0 inn) : Ma 0 (plc T k inn) := ((Ma_opn T 91 k).pb (h.pb (Ma_sgn T 93))).w (by omega)
theorem Ma_unF {T : TD} {k : Nat} {inn : PT → PR} (h : Ma 0 inn) : Ma 0 (unF T k inn) := fun S S' e => by
  unfold unF at e
  split at e
  · cases e
  · split at e
    · cases e
    · split at e
      · exact (((Ma_opn T 40 k).pb (h.pb (Ma_sgn T 41))).w (Nat.le_refl 0)) (unU S) S' e
      · split at e
        · obtain ⟨S1, g1, g2⟩ := pb_inv e
          have a := Ma_plc h (adv (unU S)) S1 g1
          cases g2
          rw [ac_em]
          exact a
        · split at e
          · cases e
            show cS S ≤ cS S ∧ ac (em 2 _ (noN (adv (unU S)))) + 2 * cS S ≤ ac S + 2 * cS S + 0
            rw [ac_em]
            exact ⟨Nat.le_refl _, Nat.le_refl _⟩
          · cases e
            rw [ac_em]
            exact ⟨Nat.le_refl _, Nat.le_refl _⟩
theorem Ma_olp {T : TD} {c1 c2 : Int32} {o1 o2 : Nat} {u : PT → PR} (ho : o1 < 15 ∧ o2 < 15) (h : Ma 0 u) : ∀ f, Ma 0 (olp T c1 c2 o1 o2 u f)
  | 0 => fun S S' e => by cases e; omega
  | f + 1 => fun S S' e => by
    rw [olp] at e
    split at e
    · obtain ⟨S1, g1, g2⟩ := pb_inv e
      have a : cS S ≤ cS S1 ∧ ac S1 + 2 * cS S ≤ ac S + 2 * cS S1 + 0 := h (adv S) S1 g1
      have b := Ma_em (Ma_olp ho h f) _ 0 S1 S' g2
      rw [if_neg (show ¬ 15 ≤ (if tK T (ti S) = c1 then o1 else o2) by split <;> omega)] at b
      omega
    · cases e; omega
theorem Ma_rdI (T : TD) : ∀ k, Ma 0 (rdI T k)
  | 0 => Ma_id
  | k + 1 => ((Ma_unF (k := k) (Ma_rdI T k)).pb (Ma_olp (by decide) (Ma_unF (k := k) (Ma_rdI T k)) 501)).pb (Ma_olp (by decide) ((Ma_unF (k := k) (Ma_rdI T k)).pb (Ma_olp (by decide) (Ma_unF (k := k) (Ma_rdI T k)) 501)) 501)
theorem Ma_tst (T : TD) (k : Nat) : Ma 0 (tst T k) := fun S S' e => by
  obtain ⟨S1, g1, g2⟩ := pb_inv e
  have a := Ma_rdI T (k + 1) _ _ g1
  split at g2
  · obtain ⟨S2, g3, g4⟩ := pb_inv g2
    have b : cS S1 ≤ cS S2 ∧ ac S2 + 2 * cS S1 ≤ ac S1 + 2 * cS S2 + 0 := Ma_rdI T (k + 1) (adv S1) S2 g3
    cases g4
    rw [ac_em, if_neg (show ¬ 15 ≤ rlo T (ti S1) by unfold rlo; (repeat' split) <;> omega)]
    have e1 : cS (em (rlo T (ti S1)) 0 S2) = cS S2 := rfl
    rw [e1]
    omega
  · cases g2
theorem Ma_clp (T : TD) (k : Nat) : ∀ (f : Nat) (w : Bool), Ma 0 (clp T k f w)
  | 0, w => fun S S' e => by
    rw [clp] at e
    cases w <;> cases e
    · exact ⟨Nat.le_refl _, Nat.le_refl _⟩
    · exact ⟨Nat.le_refl _, by simp only [if_true]; rw [ac_em]; exact Nat.le_refl _⟩
  | f + 1, w => fun S S' e => by
    rw [clp] at e
    split at e
    · obtain ⟨S1, g1, g2⟩ := pb_inv e
      have b := Ma_clp T k f true _ _ g2
      cases w
      · have a : cS S ≤ cS S1 ∧ ac S1 + 2 * cS S ≤ ac S + 2 * cS S1 + 0 := Ma_tst T k (adv S) S1 g1
        omega
      · have a : cS S ≤ cS S1 ∧ ac S1 + 2 * cS S ≤ ac (em 14 0 S) + 2 * cS S1 + 0 := Ma_tst T k (adv (em 14 0 S)) S1 g1
        rw [ac_em, if_neg (by decide)] at a
        omega
    · split at e
      · obtain ⟨S1, g1, g2⟩ := pb_inv e
        have a : cS S ≤ cS S1 ∧ ac S1 + 2 * cS S ≤ ac S + 2 * cS S1 + 0 := Ma_tst T k (adv S) S1 g1
        have b := Ma_em (Ma_clp T k f w) 13 0 S1 S' g2
        rw [if_neg (by decide)] at b
        omega
      · cases w <;> cases e
        · exact ⟨Nat.le_refl _, Nat.le_refl _⟩
        · exact ⟨Nat.le_refl _, by simp only [if_true]; rw [ac_em]; exact Nat.le_refl _⟩
theorem Ma_cnd (T : TD) (k : Nat) : Ma 0 (cnd T k) := (Ma_tst T k).pb (Ma_clp T k 501 false)
theorem Ma_blp {T : TD} {s : PT → PR} (h : Ma 0 s) : ∀ f, Ma 0 (blp T s f)
  | 0 => fun S S' e => by cases e; omega
  | f + 1 => fun S S' e => by
    rw [blp] at e
    split at e
    · cases e; omega
    · obtain ⟨S1, g1, g2⟩ := pb_inv e
      have := h _ _ g1
      have := Ma_blp h f _ _ g2
      omega
theorem Ma_blo {T : TD} {k : Nat} {s : PT → PR} (h : Ma 0 s) : Ma 0 (blo T k s) := ((Ma_opn T 123 k).pb ((Ma_blp h 501).pb (Ma_sgn T 125))).w (by omega)
theorem Ma_brs {T : TD} {b : PT → PR} (h : Ma 0 b) : Ma 2 (brs T b) := fun S S' e => by
  obtain ⟨S2, g1, g2⟩ := pb_inv e
  have a := Ma_em h 21 0 S S2 g1
  rw [if_pos (by decide)] at a
  split at g2
  · obtain ⟨S5, g3, g4⟩ := pb_inv g2
    have b := h _ _ g3
    rw [ac_pat, ac_em, if_pos (by decide)] at b
    have e1 : cS (pat (cn S) (em 22 0 (adv S2))) = cS S2 := rfl
    have e2 : ac (adv S2) = ac S2 := rfl
    rw [e1, e2] at b
    cases g4
    rw [ac_pat]
    have e3 : cS (pat (cn S2) S5) = cS S5 := rfl
    rw [e3]
    omega
  · cases g2
    rw [ac_pat]
    have e3 : cS (pat (cn S) S2) = cS S2 := rfl
    rw [e3]
    omega
theorem Ma_lop {b : PT → PR} {beg : Nat} (h : Ma 0 b) : Ma 2 (lop b beg) := fun S S' e => by
  obtain ⟨S2, g1, g2⟩ := pb_inv e
  have a := Ma_em h 21 0 S S2 g1
  rw [if_pos (by decide)] at a
  cases g2
  rw [ac_pat, ac_em, if_pos (by decide)]
  have e3 : cS (pat (cn S) (em 22 (nI (min beg 600)) S2)) = cS S2 := rfl
  rw [e3]
  omega
theorem Ma_cld (T : TD) : Ma 1 (cld T) := fun S S' e => by
  unfold cld at e
  split at e
  · split at e
    · cases e
    · exact Ma_cls T _ _ (adv S) S' e
  · cases e
theorem Ma_ask (T : TD) : Ma 1 (ask T) := fun S S' e => by
  obtain ⟨S1, g1, g2⟩ := pb_inv e
  have a := Ma_sgn T 2 _ _ g1
  have b := Ma_cls T _ _ _ _ g2
  omega
theorem Ma_stF {T : TD} {k : Nat} {b : PT → PR} (h : Ma 0 b) : Ma 0 (stF T k b) := fun S S' e => by
  have key : ∀ (K : Int32) (R : PT → PR), Ma 2 R → R (adv (bst K S)) = .ok S' → cS S ≤ cS S' ∧ ac S' + 2 * cS S ≤ ac S + 2 * cS S' + 0 := fun K R hR g => by
    have := hR _ _ g
    have e1 : cS (adv (bst K S)) = cS S + 1 := rfl
    have e2 : ac (adv (bst K S)) = ac (em (if K = 8 ∨ K = 10 then 1 else 0) (nI (cS S)) S) := rfl
    rw [e1, e2, ac_em, if_neg (show ¬ 15 ≤ (if K = 8 ∨ K = 10 then 1 else 0) by split <;> omega)] at this
    omega
  by_cases hs : isSt (tK T (ti S))
  · by_cases h60 : 60 ≤ cS S
    · rw [stF_60 hs h60] at e; cases e
    · rw [stF_pos hs h60] at e
      split at e
      · exact key 8 _ (((Ma_cnd T k).pb (Ma_brs h)).w (by omega)) e
      · split at e
        · exact key 10 _ (((Ma_cnd T k).pb (Ma_lop h)).w (by omega)) e
        · split at e
          · exact key 0 _ (((Ma_cnd T k).pb (Ma_cls T 17 0)).w (by omega)) e
          · split at e
            · exact key 0 _ (((Ma_cnd T k).pb (Ma_cls T 18 0)).w (by omega)) e
            · split at e
              · exact key 0 _ (((Ma_sgn T 61).pb ((Ma_rdI T (k + 1)).pb (Ma_cls T 15 _))).w (by omega)) e
              · split at e
                · exact key 0 _ (((Ma_plc (Ma_rdI T k)).pb ((Ma_sgn T 61).pb ((Ma_rdI T (k + 1)).pb (Ma_cls T 16 0)))).w (by omega)) e
                · split at e
                  · exact key 0 _ ((Ma_cld T).w (by omega)) e
                  · split at e
                    · exact key 0 _ ((Ma_ask T).w (by omega)) e
                    · exact key 0 _ ((Ma_cls T 20 0).w (by omega)) e
  · rw [stF_neg hs] at e; cases e
theorem Ma_bkI (T : TD) : ∀ k, Ma 0 (bkI T k)
  | 0 => Ma_id
  | k + 1 => Ma_stF (Ma_blo (Ma_bkI T k))
theorem Ma_stl (T : TD) : ∀ f, Ma 0 (stl T f)
  | 0 => fun S S' e => by cases e; omega
  | f + 1 => fun S S' e => by
    rw [stl] at e
    split at e
    · cases e; omega
    · obtain ⟨S1, g1, g2⟩ := pb_inv e
      have := Ma_bkI T 11 _ _ g1
      have := Ma_stl T f _ _ g2
      omega
theorem Ma_prl {T : TD} (hT : tFul T) : ∀ (f : Nat) (S S' : PT), prl T f S = .ok S' → cn S' ≤ 600 → cS S ≤ cS S' ∧ ac S' + 2 * cS S + np (cR S) ≤ ac S + 2 * cS S' + np (cR S') ∧ cn S ≤ cn S'
  | 0, S, S', e, _ => by cases e; omega
  | f + 1, S, S', e, h6 => by
    rw [prl] at e
    split at e
    · split at e
      · next q3 =>
        split at e
        · next hR =>
          obtain ⟨S3, e1, e2⟩ := pb_inv e
          obtain ⟨v, hv, eV⟩ := hT.1.2.2.2.2.2.1 (ti S + 1) (hT.le (by rw [q3]; decide)) q3
          rw [eV, nI_clamp (show v < 2 ^ 31 by omega)] at hR e2
          have mb := Mb_blo (T := T) (k := 10) (Mb_bkI T 10) _ _ e1
          have cR3 : cR S3 = cR S := mb.2.2.2
          have mc : cn S ≤ cn S3 := Mc_blo (T := T) (k := 10) (Mc_bkI T 10) (adv (adv S)) S3 e1
          have a : cS S ≤ cS S3 ∧ ac S3 + 2 * cS S ≤ ac S + 2 * cS S3 + 0 := Ma_blo (T := T) (k := 10) (Ma_bkI T 10) (adv (adv S)) S3 e1
          have b := Ma_prl hT f _ _ e2 h6
          have e3 : ac (seR v (nI (min (cn S) 600)) (em 24 0 S3)) = ac (em 24 0 S3) := rfl
          have e4 : cS (seR v (nI (min (cn S) 600)) (em 24 0 S3)) = cS S3 := rfl
          have e5 : cn (seR v (nI (min (cn S) 600)) (em 24 0 S3)) = cn S3 + 1 := rfl
          have e6 : cR (seR v (nI (min (cn S) 600)) (em 24 0 S3)) = va_up (cR S3) v (nI (min (cn S) 600)) := rfl
          rw [e3, e4, e5, e6, ac_em, if_pos (by decide), cR3, (np_up hv hR (nI_m1 (by omega))).1] at b
          omega
        · cases e
      · cases e
    · cases e; omega
theorem W_stl {T : TD} (hT : tFul T) : ∀ f, Wst (fun _ => False) (stl T f)
  | 0 => fun g S S' e h _ _ _ => by cases e; exact ⟨h, Pre.rf, fun x => absurd x (Nat.lt_irrefl _)⟩
  | f + 1 => fun g S S' e h hg hp h6 => by
    rw [stl] at e
    split at e
    · cases e; exact ⟨h, Pre.rf, fun x => absurd x (Nat.lt_irrefl _)⟩
    · obtain ⟨S1, e1, e2⟩ := pb_inv e
      have mc : ∀ f, Mc (stl T f) := by
        intro f
        induction f with
        | zero => intro S S' e; cases e; exact Nat.le_refl _
        | succ f ih =>
          intro S S' e
          rw [stl] at e
          split at e
          · cases e; exact Nat.le_refl _
          · obtain ⟨S1, g1, g2⟩ := pb_inv e
            exact Nat.le_trans (Mc_bkI T 11 _ _ g1) (ih _ _ g2)
      obtain ⟨w1, p1, q1⟩ := W_bkI hT 10 (by decide) (fun _ => False) g S S1 e1 h hg hp (Nat.le_trans (mc f _ _ e2) h6)
      obtain ⟨w2, p2, q2⟩ := W_stl hT f g S1 S' e2 w1 hg (hp.pre p1 (Mb_bkI T 11 _ _ e1).2.2.2) h6
      refine ⟨w2, p1.tr p2, fun x => ?_⟩
      by_cases y : cn S < cn S1
      · rw [p2.2.1 _ y]; exact q1 y
      · have : cn S = cn S1 := Nat.le_antisymm p1.1 (by omega)
        rw [this]; exact q2 (by omega)
