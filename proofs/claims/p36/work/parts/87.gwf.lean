/-! PART 87: what the grammar writes down is well formed: every step -/
theorem W_call {A : Nat → Prop} {g s : Nat} {a : Int32} {S : PT} (h : Wf A g false [] S) (hg : g ≤ 4) (hs : s < 60) (ha : ∃ t, a = nI t ∧ t < cn S ∧ cT S t = [] ∧ cG S t < g ∧ (cP S t).1 ≠ 23 ∧ p_dc (cP S) t = false) : Wf A g false [] (em 23 a (em 0 (nI s) S)) ∧ Pre S (em 23 a (em 0 (nI s) S)) := by
  obtain ⟨h1, h2, h3, h4⟩ := h
  have e1 := Pre.em (S := S) (o := 0) (a := nI s)
  have e2 := Pre.em (S := em 0 (nI s) S) (o := 23) (a := a)
  have e := e1.tr e2
  have c1 : cn (em 0 (nI s) S) = cn S + 1 := rfl
  have c2 : cn (em 23 a (em 0 (nI s) S)) = cn S + 2 := rfl
  have P0 : cP (em 23 a (em 0 (nI s) S)) (cn S) = (0, nI s) := (e2.2.1 _ (by omega)).trans em_P
  have P1 : cP (em 23 a (em 0 (nI s) S)) (cn S + 1) = (23, a) := em_P (S := em 0 (nI s) S)
  have T0 : cT (em 23 a (em 0 (nI s) S)) (cn S) = [] := (e.2.2 _ (Nat.le_refl _)).1.trans h2
  have G0 : cG (em 23 a (em 0 (nI s) S)) (cn S) = g := (e.2.2 _ (Nat.le_refl _)).2.trans h3
  have T1 : cT (em 23 a (em 0 (nI s) S)) (cn S + 1) = [] := (e2.2.2 _ (by omega)).1.trans (by rw [em_T]; rfl)
  have G1 : cG (em 23 a (em 0 (nI s) S)) (cn S + 1) = g := (e2.2.2 _ (by omega)).2.trans (by rw [em_G, h3]; rfl)
  have T2 : cT (em 23 a (em 0 (nI s) S)) (cn S + 2) = [] := em_T (S := em 0 (nI s) S)
  have G2 : cG (em 23 a (em 0 (nI s) S)) (cn S + 2) = g := (em_G (S := em 0 (nI s) S)).trans (by rw [c1, em_G, h3]; rfl)
  refine ⟨⟨fun pc hpc hA => ?_, T2, G2, ?_⟩, e⟩
  · have hpc : pc < cn S + 2 := hpc
    show okl _ (cn S + 2) _ _ pc
    rcases (show pc < cn S ∨ pc = cn S ∨ pc = cn S + 1 by omega) with g0 | rfl | rfl
    · exact okl_more (h1 pc g0 hA) g0 (by omega) e.2.1 (fun _ => Or.inl (by rw [P0]; show (0 : Nat) ≠ 23; decide)) (fun i hi => (e.2.2 i hi).1) (fun i hi => (e.2.2 i hi).2)
    · refine ⟨by rw [T0]; decide, by rw [G0]; exact hg, fun _ => ⟨by omega, by rw [G0, G1], fun _ x => absurd (by rw [P0]) x⟩, ?_⟩
      rw [P0]
      exact ⟨T0, T1, s, hs, rfl⟩
    · obtain ⟨t, b1, b2, b3, b4, b5, b6⟩ := ha
      refine ⟨by rw [T1]; decide, by rw [G1]; exact hg, fun _ => ⟨Nat.le_refl _, by rw [G1, G2], fun x => absurd x (Nat.lt_irrefl _)⟩, ?_⟩
      rw [P1]
      exact ⟨T1, T2, t, b1, by omega, by rw [(e.2.2 t (by omega)).1]; exact b3, by rw [(e.2.2 t (by omega)).2, G1]; exact b4, by rw [e.2.1 t b2]; exact b5, by rw [e.dc (by omega)]; exact b6⟩
  · show p_dc _ (cn S + 2) = false
    simp only [p_dc]
    rw [P1]; rfl
theorem W_stF {A : Nat → Prop} {T : TD} {k : Nat} {b : PT → PR} (hT : tFul T) (hk : k ≤ 10) (hb : ∀ A', Wst A' b) (hm : Mc b) (hB : Mb b) : Wst A (stF T k b) := fun g S S' e h hg hp h6 => by
  by_cases hs : isSt (tK T (ti S))
  · by_cases h60 : 60 ≤ cS S
    · rw [stF_60 hs h60] at e; cases e
    · rw [stF_pos hs h60] at e
      have s60 : cS S < 60 := by omega
      -- what begins a step
      have bg : ∀ (K : Int32) (o : Nat), (if K = 8 ∨ K = 10 then 1 else 0) = o → Wf A g (decide (o = 1)) [] (adv (bst K S)) ∧ Pre S (adv (bst K S)) ∧ cP (adv (bst K S)) (cn S) = (o, nI (cS S)) := fun K o ho => by
        have hh : Wf A g false [] (stU (decide (K = 10)) S) := h
        have ho2 : o = 0 ∨ o = 1 := by rw [← ho]; split; exact Or.inr rfl; exact Or.inl rfl
        obtain ⟨w, p⟩ := hh.ord (o := o) (a := nI (cS S)) (by omega) (by omega) (by omega) (by decide) hg (fun _ => by
          rcases ho2 with rfl | rfl
          · exact ⟨rfl, rfl, cS S, s60, rfl⟩
          · exact ⟨rfl, rfl, cS S, s60, rfl⟩)
        have eb : em o (nI (cS S)) (stU (decide (K = 10)) S) = bst K S := by rw [bst, ho]; rfl
        rw [eb] at w p
        refine ⟨w, p, ?_⟩
        show cP (bst K S) (cn S) = _
        rw [← eb]
        exact em_P
      have fst : ∀ (K : Int32) (S2 : PT), Pre (adv (bst K S)) S2 → (cP S2 (cn S)).1 = 0 ∨ (cP S2 (cn S)).1 = 1 := fun K S2 p => by
        obtain ⟨-, -, x⟩ := bg K _ rfl
        rw [p.2.1 (cn S) (Nat.lt_succ_self _), x]
        show (if K = 8 ∨ K = 10 then 1 else 0) = 0 ∨ (if K = 8 ∨ K = 10 then 1 else 0) = 1
        split <;> decide
      have fin : ∀ (K : Int32), Pre (adv (bst K S)) S' → Wf A g false [] S' → Wf A g false [] S' ∧ Pre S S' ∧ (cn S < cn S' → (cP S' (cn S)).1 = 0 ∨ (cP S' (cn S)).1 = 1) := fun K p w => ⟨w, (bg K _ rfl).2.1.tr p, fun _ => fst K S' p⟩
      split at e
      · obtain ⟨w1, p1, x1⟩ := bg 8 1 rfl
        obtain ⟨S1, e1, e2⟩ := pb_inv e
        obtain ⟨w2, p2⟩ := W_cnd hT hk hg e1 w1
        obtain ⟨w3, p3⟩ := W_brs hb hm hB e2 w2 hg (hp.pre (p1.tr p2) (Mb_cnd T k _ _ e1).2.2.2) h6
        exact fin 8 (p2.tr p3) w3
      · split at e
        · obtain ⟨w1, p1, x1⟩ := bg 10 1 rfl
          obtain ⟨S1, e1, e2⟩ := pb_inv e
          obtain ⟨w2, p2⟩ := W_cnd hT hk hg e1 w1
          have p12 := p1.tr p2
          have c1 : cn (adv (bst 10 S)) = cn S + 1 := rfl
          have lt : cn S < cn S1 := by have := p2.1; omega
          obtain ⟨w3, p3⟩ := W_lop hb hm e2 w2 hg (hp.pre p12 (Mb_cnd T k _ _ e1).2.2.2) h6 lt (by rw [(p12.2.2 _ (Nat.le_refl _)).1]; exact h.2.1) (by rw [(p12.2.2 _ (Nat.le_refl _)).2]; exact h.2.2.1) (by rw [p2.2.1 (cn S) (Nat.lt_succ_self _), x1]) (by rw [p12.dc (Nat.le_refl _)]; exact h.2.2.2)
          exact fin 10 (p2.tr p3) w3
        · obtain ⟨w1, p1, x1⟩ := bg 0 0 (if_neg (by decide))
          split at e
          · obtain ⟨S1, e1, e2⟩ := pb_inv e
            obtain ⟨w2, p2⟩ := W_cnd hT hk hg e1 w1
            obtain ⟨w3, p3⟩ := W_cls e2 w2 (by decide) (by decide) (by decide) (by decide) hg ⟨rfl, rfl⟩
            exact fin 0 (p2.tr p3) w3
          · split at e
            · obtain ⟨S1, e1, e2⟩ := pb_inv e
              obtain ⟨w2, p2⟩ := W_cnd hT hk hg e1 w1
              obtain ⟨w3, p3⟩ := W_cls e2 w2 (by decide) (by decide) (by decide) (by decide) hg ⟨rfl, rfl⟩
              exact fin 0 (p2.tr p3) w3
            · split at e
              · next q2 =>
                obtain ⟨S1, e1, e2⟩ := pb_inv e
                obtain ⟨rfl, -⟩ := sgn_ok e1
                obtain ⟨S2, e3, e4⟩ := pb_inv e2
                obtain ⟨w2, p2⟩ := W_rdI (A := A) hT k hk g _ [] (adv (adv (bst 0 S))) S2 e3 w1 hg (by simp)
                obtain ⟨w3, p3⟩ := W_cls e4 w2 (by decide) (by decide) (by decide) (by decide) hg ⟨rfl, rfl, hT.1.2.2.2.2.1 (ti S) (hT.le (by rw [q2]; decide)) q2⟩
                exact fin 0 (Pre.tr (S2 := S2) p2 p3) w3
              · split at e
                · obtain ⟨S1, e1, e2⟩ := pb_inv e
                  have hi : 0 < k → Wsum A 4 (rdI T k) := fun hk0 => by
                    obtain ⟨k', rfl⟩ : ∃ k', k = k' + 1 := ⟨k - 1, by omega⟩
                    exact (W_rdI hT k' (by omega)).mono (by omega)
                  obtain ⟨w2, p2⟩ := W_plc hi e1 w1 hg (by decide)
                  obtain ⟨S2, e3, e4⟩ := pb_inv e2
                  obtain ⟨rfl, -⟩ := sgn_ok e3
                  obtain ⟨S3, e5, e6⟩ := pb_inv e4
                  obtain ⟨w3, p3⟩ := W_rdI (A := A) hT k hk g _ [false] (adv S1) S3 e5 w2 hg (by simp; omega)
                  obtain ⟨w4, p4⟩ := W_cls e6 w3 (by decide) (by decide) (by decide) (by decide) hg ⟨rfl, rfl⟩
                  exact fin 0 (Pre.tr (S2 := S1) p2 (Pre.tr (S2 := S3) p3 p4)) w4
                · split at e
                  · unfold cld at e
                    split at e
                    · next q3 =>
                      split at e
                      · cases e
                      · next hR =>
                        have c3 : ∃ v, v < 4 ∧ tV T (ti (adv (bst 0 S))) = nI v := hT.1.2.2.2.2.2.1 _ (hT.le (by rw [q3]; decide)) q3
                        obtain ⟨v, hv, eV⟩ := c3
                        rw [eV, nI_clamp (show v < 2 ^ 31 by omega)] at hR e
                        obtain ⟨rfl, -⟩ := sgn_ok e
                        have ha := (hp v hv).resolve_left hR
                        obtain ⟨w2, p2⟩ := W_call (s := cS S) (a := cR S v) (show Wf A g false [] (stU false S) from h) hg s60 ha
                        have p3 : Pre (adv (bst 0 S)) (em 23 (cR S v) (em 0 (nI (cS S)) (stU false S))) := by
                          have : Pre (em 0 (nI (cS S)) (stU false S)) (em 23 (cR S v) (em 0 (nI (cS S)) (stU false S))) := Pre.em
                          rw [← bst_0] at this ⊢
                          exact this
                        refine fin 0 ?_ ?_
                        · rw [← bst_0] at p3
                          exact p3
                        · rw [← bst_0] at w2
                          exact w2
                    · cases e
                  · split at e
                    · obtain ⟨S1, e1, e2⟩ := pb_inv e
                      obtain ⟨rfl, q2⟩ := sgn_ok e1
                      obtain ⟨w3, p3⟩ := W_cls e2 (show Wf A g (decide (0 = 1)) [] (adv (adv (bst 0 S))) from w1) (by decide) (by decide) (by decide) (by decide) hg ⟨rfl, rfl, hT.1.2.2.2.2.1 _ (hT.le (by rw [q2]; decide)) q2⟩
                      exact fin 0 p3 w3
                    · obtain ⟨w3, p3⟩ := W_cls e w1 (by decide) (by decide) (by decide) (by decide) hg rfl
                      exact fin 0 p3 w3
  · rw [stF_neg hs] at e; cases e
theorem W_bkI {T : TD} (hT : tFul T) : ∀ k, k ≤ 10 → ∀ A, Wst A (bkI T (k + 1))
  | 0, hk => fun A => W_stF hT hk (fun A' => W_blo (fun h => absurd h (Nat.lt_irrefl 0)) (Mc_bkI T 0) (Mb_bkI T 0)) (Mc_blo (Mc_bkI T 0)) (Mb_blo (Mb_bkI T 0))
  | k + 1, hk => fun A => W_stF hT hk (fun A' => W_blo (fun _ => W_bkI hT k (by omega) A') (Mc_bkI T (k + 1)) (Mb_bkI T (k + 1))) (Mc_blo (Mc_bkI T (k + 1))) (Mb_blo (Mb_bkI T (k + 1)))
/-- how many procs are told -/
def np (r : Nat → Int32) : Nat := (if r 0 = -1 then 0 else 1) + (if r 1 = -1 then 0 else 1) + (if r 2 = -1 then 0 else 1) + (if r 3 = -1 then 0 else 1)
theorem np_up {r : Nat → Int32} {v : Nat} {x : Int32} (hv : v < 4) (hr : r v = -1) (hx : x ≠ -1) : np (va_up r v x) = np r + 1 ∧ np r ≤ 3 := by
  unfold np
  rcases (show v = 0 ∨ v = 1 ∨ v = 2 ∨ v = 3 by omega) with rfl | rfl | rfl | rfl
  · rw [up_s, up_n _ _ (by decide), up_n _ _ (by decide), up_n _ _ (by decide), if_neg hx, if_pos hr]
    (repeat' split) <;> omega
  · rw [up_s, up_n _ _ (by decide), up_n _ _ (by decide), up_n _ _ (by decide), if_neg hx, if_pos hr]
    (repeat' split) <;> omega
  · rw [up_s, up_n _ _ (by decide), up_n _ _ (by decide), up_n _ _ (by decide), if_neg hx, if_pos hr]
    (repeat' split) <;> omega
  · rw [up_s, up_n _ _ (by decide), up_n _ _ (by decide), up_n _ _ (by decide), if_neg hx, if_pos hr]
    (repeat' split) <;> omega
theorem np_le (r : Nat → Int32) : np r ≤ 4 := by unfold np; (repeat' split) <;> omega
theorem nI_m1 {t : Nat} (ht : t < 2 ^ 31) : nI t ≠ -1 := fun e => by
  have := nI_pos ht
  rw [e] at this
  exact this (by decide)
/-- procs: each in a part of its own -/
theorem W_prl {T : TD} (hT : tFul T) : ∀ (f : Nat) (S S' : PT), prl T f S = .ok S' → Wf (fun _ => False) (np (cR S)) false [] S → PRC (np (cR S)) S → cn S' ≤ 600 → Wf (fun _ => False) (np (cR S')) false [] S' ∧ PRC (np (cR S')) S' ∧ cn S ≤ cn S'
  | 0, S, S', e, h, hp, _ => by cases e; exact ⟨h, hp, Nat.le_refl _⟩
  | f + 1, S, S', e, h, hp, h6 => by
    rw [prl] at e
    split at e
    · split at e
      · next q3 =>
        split at e
        · next hR =>
          obtain ⟨S3, e1, e2⟩ := pb_inv e
          obtain ⟨v, hv, eV⟩ := hT.1.2.2.2.2.2.1 (ti S + 1) (hT.le (by rw [q3]; decide)) q3
          rw [eV, nI_clamp (show v < 2 ^ 31 by omega)] at hR e2
          have mono := Mo_blk T 10 _ _ e1
          have mc := Mc_blo (T := T) (k := 10) (Mc_bkI T 10) _ _ e1
          have mb := Mb_blo (T := T) (k := 10) (Mb_bkI T 10) _ _ e1
          have c1 : cn (adv (adv S)) = cn S := rfl
          have cR3 : cR S3 = cR S := mb.2.2.2
          have npx := fun x hx => np_up (x := x) hv hR hx
          have g3 : np (cR S) ≤ 3 := (npx 0 (by decide)).2
          -- the length of the whole bounds that of this part
          have rcc := fun hw hpp => W_prl hT f (seR v (nI (min (cn S) 600)) (em 24 0 S3)) S' e2 hw hpp h6
          have mcl : cn S3 + 1 ≤ cn S' := by
            have : ∀ (f : Nat) (S S' : PT), prl T f S = .ok S' → cn S ≤ cn S' := by
              intro f
              induction f with
              | zero => intro S S' e; cases e; exact Nat.le_refl _
              | succ f ih =>
                intro S S' e
                rw [prl] at e
                split at e
                · split at e
                  · split at e
                    · obtain ⟨S3, a1, a2⟩ := pb_inv e
                      have b1 : cn (adv (adv S)) ≤ cn S3 := Mc_blo (T := T) (k := 10) (Mc_bkI T 10) _ _ a1
                      have b2 : cn S3 + 1 ≤ cn S' := ih _ _ a2
                      have b3 : cn (adv (adv S)) = cn S := rfl
                      omega
                    · cases e
                  · cases e
                · cases e; exact Nat.le_refl _
            exact this f _ _ e2
          rw [c1] at mc
          have em0 : min (cn S) 600 = cn S := by omega
          rw [em0] at rcc
          obtain ⟨w1, p1, q1⟩ := W_blo (k := 10) (T := T) (fun _ => W_bkI hT 9 (by decide) (fun _ => False)) (Mc_bkI T 10) (Mb_bkI T 10) (np (cR S)) (adv (adv S)) S3 e1 h (by omega) hp (by omega)
          obtain ⟨v1, v2, v3, v4⟩ := w1
          have e := Pre.em (S := S3) (o := 24) (a := 0)
          have hnp : np (va_up (cR S3) v (nI (cn S))) = np (cR S) + 1 := by rw [cR3]; exact (npx _ (nI_m1 (by omega))).1
          have hcR : cR (seR v (nI (cn S)) (em 24 0 S3)) = va_up (cR S3) v (nI (cn S)) := rfl
          rw [hcR, hnp] at rcc
          have eT : cT (em 24 0 S3) (cn S3) = [] := (e.2.2 _ (Nat.le_refl _)).1.trans v2
          have eG : cG (em 24 0 S3) (cn S3) = np (cR S) := (e.2.2 _ (Nat.le_refl _)).2.trans v3
          have pe : Pre (adv (adv S)) (em 24 0 S3) := p1.tr e
          have w24 : Wf (fun _ => False) (np (cR S) + 1) false [] (em 24 0 S3) := by
            refine ⟨v1.em (by decide) (fun _ => ⟨by rw [eT]; decide, by rw [eG]; omega, fun x => absurd (by rw [em_P]) x.2.2.1, ?_⟩), by rw [show cn (em 24 0 S3) = cn S3 + 1 from rfl, em_T]; rfl, by rw [show cn (em 24 0 S3) = cn S3 + 1 from rfl, em_G, v3]; rfl, ?_⟩
            · rw [em_P]
              exact ⟨eT, by rw [eG]; omega⟩
            · show p_dc (cP (em 24 0 S3)) (cn S3 + 1) = false
              simp only [p_dc]
              rw [em_P]; rfl
          have pr : PRC (np (cR S) + 1) (seR v (nI (cn S)) (em 24 0 S3)) := fun u hu => by
            show va_up (cR S3) v (nI (cn S)) u = -1 ∨ ∃ t, va_up (cR S3) v (nI (cn S)) u = nI t ∧ t < cn S3 + 1 ∧ cT (em 24 0 S3) t = [] ∧ cG (em 24 0 S3) t < np (cR S) + 1 ∧ (cP (em 24 0 S3) t).1 ≠ 23 ∧ p_dc (cP (em 24 0 S3)) t = false
            by_cases huv : u = v
            · subst huv
              rw [up_s]
              refine Or.inr ⟨cn S, rfl, by omega, by rw [(pe.2.2 (cn S) (Nat.le_refl _)).1]; exact h.2.1, ?_, ?_, (pe.dc (t := cn S) (Nat.le_refl _)).trans h.2.2.2⟩
              · rw [(pe.2.2 (cn S) (Nat.le_refl _)).2]
                show cG S (cn S) < _
                rw [h.2.2.1]; omega
              · by_cases y : cn S < cn S3
                · rw [e.2.1 _ y]; exact n23 (q1 y)
                · have : cn S = cn S3 := by omega
                  rw [this, em_P]
                  show (24 : Nat) ≠ 23
                  decide
            · rw [up_n _ _ huv, cR3]
              rcases hp u hu with z | ⟨t, a1, a2, a3, a4, a5, a6⟩
              · exact Or.inl z
              · have a2' : t < cn (adv (adv S)) := a2
                exact Or.inr ⟨t, a1, by omega, by rw [(pe.2.2 t (by omega)).1]; exact a3, by rw [(pe.2.2 t (by omega)).2]; exact Nat.lt_succ_of_lt a4, by rw [pe.2.1 t a2']; exact a5, by rw [pe.dc (by omega)]; exact a6⟩
          obtain ⟨r1, r2, r3⟩ := rcc w24 pr
          exact ⟨r1, r2, by omega⟩
        · cases e
      · cases e
    · cases e; exact ⟨h, hp, Nat.le_refl _⟩
