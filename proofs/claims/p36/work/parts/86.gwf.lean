/-! PART 86: what the grammar writes down is well formed: steps -/
theorem okl_ops {P P' : Nat → Nat × Int32} {n : Nat} {ty : Nat → List Bool} {sg : Nat → Nat} {pc : Nat} (h : okl P n ty sg pc) (hP : ∀ i, (P' i).1 = (P i).1) (hpc : P' pc = P pc) : okl P' n ty sg pc := by
  have dc : ∀ t, p_dc P' t = p_dc P t := fun t => p_dc_c t (fun i _ => hP i)
  obtain ⟨h1, h2, h3, h4⟩ := h
  refine ⟨h1, h2, fun hx => ?_, ?_⟩
  · rw [hP] at hx
    rw [hP, hP]; exact h3 hx
  · rw [hpc]
    generalize P pc = r at h4 ⊢
    obtain ⟨o, a⟩ := r
    dsimp only at h4 ⊢
    split at h4
    all_goals (try dsimp only)
    all_goals first | exact h4 | skip
    · obtain ⟨b1, b2, b3, t, b4, b5, b6, b7, b8, b9, b10⟩ := h4
      exact ⟨b1, b2, by rw [dc]; exact b3, t, b4, b5, b6, b7, b8, by rw [hP]; exact b9, by rw [dc]; exact b10⟩
    · obtain ⟨b1, t, b4, b6, b7, b8, b9, b10, b11⟩ := h4
      exact ⟨b1, t, b4, b6, b7, b8, by rw [hP]; exact b9, by rw [dc]; exact b10, by rw [hP]; exact b11⟩
    · obtain ⟨b1, b2, t, b4, b6, b7, b8, b9, b10⟩ := h4
      exact ⟨b1, b2, t, b4, b6, b7, b8, by rw [hP]; exact b9, by rw [dc]; exact b10⟩
theorem up_op {P : Nat → Nat × Int32} {j : Nat} {a : Int32} (i : Nat) : (va_up P j ((P j).1, a) i).1 = (P i).1 := by
  by_cases h : i = j
  · subst h; rw [up_s]
  · rw [up_n _ _ h]
/-- a branch or a jump is mended -/
theorem W_pat {A : Nat → Prop} {g j : Nat} {S : PT} (h : Wf (fun x => A x ∨ x = j) g false [] S) (hg : g ≤ 4) (hj : j < cn S) (h6 : cn S ≤ 600) (hsg : cG S j = g)
    (hop : ((cP S j).1 = 21 ∧ cT S j = [true] ∧ cT S (j + 1) = [] ∧ cG S (j + 1) = g ∧ p_dc (cP S) j = true ∧ (j + 1 < cn S → (cP S (j + 1)).1 ≠ 23)) ∨ ((cP S j).1 = 22 ∧ cT S j = [])) : Wf A g false [] (pat j S) := by
  obtain ⟨h1, h2, h3, h4⟩ := h
  have ep : ∀ i, (cP (pat j S) i).1 = (cP S i).1 := fun i => up_op i
  have dc : ∀ t, p_dc (cP (pat j S)) t = p_dc (cP S) t := fun t => p_dc_c t (fun i _ => ep i)
  refine ⟨fun pc hpc hA => ?_, h2, h3, by rw [show cn (pat j S) = cn S from rfl, dc]; exact h4⟩
  by_cases hpj : pc = j
  · subst hpj
    have e2 : cP (pat pc S) pc = ((cP S pc).1, nI (min (cn S) 600)) := up_s _ _ _
    have em : min (cn S) 600 = cn S := by omega
    rcases hop with ⟨o1, o2, o3, o4, o5, o6⟩ | ⟨o1, o2⟩
    · refine ⟨by show (cT S pc).length ≤ 30; rw [o2]; decide, by show cG S pc ≤ 4; rw [hsg]; exact hg, fun _ => ⟨hj, by show cG S (pc + 1) = cG S pc; rw [o4, hsg], fun x _ => by rw [ep]; exact o6 x⟩, ?_⟩
      rw [e2, o1, em]
      exact ⟨o2, o3, by rw [dc]; exact o5, cn S, rfl, hj, Nat.le_refl _, h2, by show cG S (cn S) = cG S pc; rw [h3, hsg], fun x => absurd x (Nat.lt_irrefl _), by rw [dc]; exact h4⟩
    · refine ⟨by show (cT S pc).length ≤ 30; rw [o2]; decide, by show cG S pc ≤ 4; rw [hsg]; exact hg, fun x => absurd (by rw [ep]; exact o1) x.2.1, ?_⟩
      rw [e2, o1, em]
      exact ⟨o2, cn S, rfl, Nat.le_refl _, h2, by show cG S (cn S) = cG S pc; rw [h3, hsg], fun x => absurd x (Nat.lt_irrefl _), by rw [dc]; exact h4, Or.inl hj⟩
  · exact okl_ops (h1 pc hpc (fun x => x.elim hA hpj)) ep (up_n _ _ hpj)
/-- one order of a step, with no stack behind it -/
theorem Wf.ord {A : Nat → Prop} {g : Nat} {dc : Bool} {τ : List Bool} {S : PT} {o : Nat} {a : Int32} (h : Wf A g dc τ S) (ho : o < 2 ∨ 15 ≤ o) (h23 : o ≠ 23) (h24 : o ≠ 24) (hl : τ.length ≤ 30) (hg : g ≤ 4)
    (hL : ¬ A (cn S) → (match o with
      | 0 => τ = [] ∧ ([] : List Bool) = [] ∧ ∃ j, j < 60 ∧ a = nI j
      | 1 => τ = [] ∧ ([] : List Bool) = [] ∧ ∃ j, j < 60 ∧ a = nI j
      | 15 => τ = [false] ∧ ([] : List Bool) = [] ∧ ∃ j, j < 8 ∧ a = nI j
      | 16 => τ = [false, false] ∧ ([] : List Bool) = []
      | 17 => τ = [true] ∧ ([] : List Bool) = []
      | 18 => τ = [true] ∧ ([] : List Bool) = []
      | 19 => τ = [] ∧ ([] : List Bool) = [] ∧ ∃ j, j < 8 ∧ a = nI j
      | 20 => τ = []
      | 25 => τ = []
      | _ => False)) : Wf A g (decide (o = 1)) [] (em o a S) ∧ Pre S (em o a S) := by
  obtain ⟨h1, h2, h3, h4⟩ := h
  have e := Pre.em (S := S) (o := o) (a := a)
  have eT : cT (em o a S) (cn S) = τ := (e.2.2 (cn S) (Nat.le_refl _)).1.trans h2
  have eG : cG (em o a S) (cn S) = g := (e.2.2 (cn S) (Nat.le_refl _)).2.trans h3
  have eT1 : cT (em o a S) (cn S + 1) = [] := by rw [em_T]; unfold tyA; rw [if_neg (by omega), if_neg (by omega), if_neg (by omega), if_neg (by omega), if_neg (by omega)]
  have eG1 : cG (em o a S) (cn S + 1) = g := by rw [em_G, h3, if_neg h24]; rfl
  refine ⟨⟨h1.em h23 (fun hA => ⟨by rw [eT]; exact hl, by rw [eG]; exact hg, fun _ => ⟨Nat.le_refl _, by rw [eG1, eG], fun x => absurd x (Nat.lt_irrefl _)⟩, ?_⟩), eT1, eG1, ?_⟩, e⟩
  · have hL := hL hA
    rw [em_P, eT, eT1]
    split at hL <;> first | exact hL | exact False.elim hL
  · show p_dc (cP (em o a S)) (cn S + 1) = _
    simp only [p_dc]
    rw [em_P, if_neg (by omega)]
/-- procs that are told -/
def PRC (g : Nat) (S : PT) : Prop := ∀ v, v < 4 → cR S v = -1 ∨ ∃ t, cR S v = nI t ∧ t < cn S ∧ cT S t = [] ∧ cG S t < g ∧ (cP S t).1 ≠ 23 ∧ p_dc (cP S) t = false
theorem PRC.pre {g : Nat} {S S' : PT} (h : PRC g S) (p : Pre S S') (hr : cR S' = cR S) : PRC g S' := fun v hv => by
  rw [hr]
  rcases h v hv with q | ⟨t, a1, a2, a3, a4, a5, a6⟩
  · exact Or.inl q
  · exact Or.inr ⟨t, a1, by have := p.1; omega, by rw [(p.2.2 t (by omega)).1]; exact a3, by rw [(p.2.2 t (by omega)).2]; exact a4, by rw [p.2.1 t a2]; exact a5, by rw [p.dc (by omega)]; exact a6⟩
/-- a step, a block: nothing on the stack, ahead and behind -/
def Wst (A : Nat → Prop) (R : PT → PR) : Prop := ∀ g S S', R S = .ok S' → Wf A g false [] S → g ≤ 4 → PRC g S → cn S' ≤ 600 → Wf A g false [] S' ∧ Pre S S' ∧ (cn S < cn S' → (cP S' (cn S)).1 = 0 ∨ (cP S' (cn S)).1 = 1)
theorem n23 {o : Nat} (h : o = 0 ∨ o = 1) : o ≠ 23 := by omega
theorem W_cls {A : Nat → Prop} {T : TD} {g : Nat} {dc : Bool} {τ : List Bool} {o : Nat} {a : Int32} {S S' : PT} (e : cls T o a S = .ok S') (h : Wf A g dc τ S) (ho : 15 ≤ o) (h23 : o ≠ 23) (h24 : o ≠ 24) (hl : τ.length ≤ 30) (hg : g ≤ 4)
    (hL : (match o with
      | 15 => τ = [false] ∧ ([] : List Bool) = [] ∧ ∃ j, j < 8 ∧ a = nI j
      | 16 => τ = [false, false] ∧ ([] : List Bool) = []
      | 17 => τ = [true] ∧ ([] : List Bool) = []
      | 18 => τ = [true] ∧ ([] : List Bool) = []
      | 19 => τ = [] ∧ ([] : List Bool) = [] ∧ ∃ j, j < 8 ∧ a = nI j
      | 20 => τ = []
      | 25 => τ = []
      | _ => False)) : Wf A g false [] S' ∧ Pre S S' := by
  obtain ⟨rfl, -⟩ := sgn_ok e
  obtain ⟨w, p⟩ := h.ord (o := o) (a := a) (Or.inr ho) h23 h24 hl hg (fun _ => by
    split at hL <;> first | exact hL | exact False.elim hL)
  rw [decide_eq_false (show ¬ o = 1 by omega)] at w
  exact ⟨w, p⟩
theorem W_blp {A : Nat → Prop} {T : TD} {s : PT → PR} (hs : Wst A s) (hm : Mc s) (hb : Mb s) : ∀ f, Wst A (blp T s f)
  | 0 => fun g S S' e h _ _ _ => by cases e; exact ⟨h, Pre.rf, fun x => absurd x (Nat.lt_irrefl _)⟩
  | f + 1 => fun g S S' e h hg hp h6 => by
    rw [blp] at e
    split at e
    · cases e; exact ⟨h, Pre.rf, fun x => absurd x (Nat.lt_irrefl _)⟩
    · obtain ⟨S1, e1, e2⟩ := pb_inv e
      obtain ⟨w1, p1, q1⟩ := hs g S S1 e1 h hg hp (Nat.le_trans (Mc_blp hm f _ _ e2) h6)
      obtain ⟨w2, p2, q2⟩ := W_blp hs hm hb f g S1 S' e2 w1 hg (hp.pre p1 (hb _ _ e1).2.2.2) h6
      refine ⟨w2, p1.tr p2, fun x => ?_⟩
      by_cases y : cn S < cn S1
      · rw [p2.2.1 _ y]; exact q1 y
      · have : cn S = cn S1 := Nat.le_antisymm p1.1 (by omega)
        rw [this]; exact q2 (by omega)
theorem W_blo {A : Nat → Prop} {T : TD} {k : Nat} {s : PT → PR} (hs : 0 < k → Wst A s) (hm : Mc s) (hb : Mb s) : Wst A (blo T k s) := fun g S S' e h hg hp h6 => by
  obtain ⟨S1, e1, e2⟩ := pb_inv e
  obtain ⟨rfl, hk⟩ := opn_ok e1
  obtain ⟨S2, e3, e4⟩ := pb_inv e2
  obtain ⟨rfl, -⟩ := sgn_ok e4
  exact W_blp (hs hk) hm hb 501 g (adv S) S2 e3 h hg hp h6
/-- a branch is laid, to be mended later -/
theorem Wf.br {A : Nat → Prop} {g : Nat} {S : PT} (h : Wf A g true [true] S) : Wf (fun x => A x ∨ x = cn S) g false [] (em 21 0 S) ∧ cP (em 21 0 S) (cn S) = (21, 0) ∧ cT (em 21 0 S) (cn S) = [true] ∧ cT (em 21 0 S) (cn S + 1) = [] ∧ cG (em 21 0 S) (cn S) = g ∧ cG (em 21 0 S) (cn S + 1) = g ∧ p_dc (cP (em 21 0 S)) (cn S) = true := by
  obtain ⟨h1, h2, h3, h4⟩ := h
  have e := Pre.em (S := S) (o := 21) (a := 0)
  have eT1 : cT (em 21 0 S) (cn S + 1) = [] := by rw [em_T]; rfl
  have eG1 : cG (em 21 0 S) (cn S + 1) = g := by rw [em_G, h3]; rfl
  refine ⟨⟨INV.em (fun pc hpc hA => h1 pc hpc (fun x => hA (Or.inl x))) (by decide) (fun hA => absurd (Or.inr rfl) hA), eT1, eG1, ?_⟩, em_P, (e.2.2 _ (Nat.le_refl _)).1.trans h2, eT1, (e.2.2 _ (Nat.le_refl _)).2.trans h3, eG1, (e.dc (Nat.le_refl _)).trans h4⟩
  show p_dc (cP (em 21 0 S)) (cn S + 1) = false
  simp only [p_dc]
  rw [em_P]; rfl
theorem Pre.ptt {S S' : PT} {j : Nat} (h : Pre S S') (hj : cn S ≤ j) : Pre S (pat j S') := ⟨h.1, fun i hi => (up_n _ _ (by omega)).trans (h.2.1 i hi), h.2.2⟩
/-- a jump is laid, to be mended later -/
theorem Wf.jp {A : Nat → Prop} {g : Nat} {S : PT} (h : Wf A g false [] S) : Wf (fun x => A x ∨ x = cn S) g false [] (em 22 0 S) ∧ cP (em 22 0 S) (cn S) = (22, 0) ∧ cT (em 22 0 S) (cn S) = [] ∧ cG (em 22 0 S) (cn S) = g := by
  obtain ⟨h1, h2, h3, h4⟩ := h
  have e := Pre.em (S := S) (o := 22) (a := 0)
  have eT1 : cT (em 22 0 S) (cn S + 1) = [] := by rw [em_T]; rfl
  have eG1 : cG (em 22 0 S) (cn S + 1) = g := by rw [em_G, h3]; rfl
  refine ⟨⟨INV.em (fun pc hpc hA => h1 pc hpc (fun x => hA (Or.inl x))) (by decide) (fun hA => absurd (Or.inr rfl) hA), eT1, eG1, ?_⟩, em_P, (e.2.2 _ (Nat.le_refl _)).1.trans h2, (e.2.2 _ (Nat.le_refl _)).2.trans h3⟩
  show p_dc (cP (em 22 0 S)) (cn S + 1) = false
  simp only [p_dc]
  rw [em_P]; rfl
/-- 'if' with its blocks -/
theorem W_brs {A : Nat → Prop} {T : TD} {b : PT → PR} (hb : ∀ A', Wst A' b) (hm : Mc b) (hB : Mb b) {g : Nat} {S S' : PT} (e : brs T b S = .ok S') (h : Wf A g true [true] S) (hg : g ≤ 4) (hp : PRC g S) (h6 : cn S' ≤ 600) : Wf A g false [] S' ∧ Pre S S' := by
  obtain ⟨S2, e1, e2⟩ := pb_inv e
  obtain ⟨w1, x1, x2, x3, x4, x5, x6⟩ := h.br
  have p1 : Pre S (em 21 0 S) := Pre.em
  have hc1 : cn (em 21 0 S) = cn S + 1 := rfl
  have m1 := hm _ _ e1
  split at e2
  · obtain ⟨S5, e3, e4⟩ := pb_inv e2
    cases e4
    have m5 := hm _ _ e3
    have c4 : cn (pat (cn S) (em 22 0 (adv S2))) = cn S2 + 1 := rfl
    have h65 : cn S5 ≤ 600 := h6
    obtain ⟨w2, p2, q2⟩ := hb _ g _ S2 e1 w1 hg (hp.pre p1 rfl) (by omega)
    have w2' : Wf (fun x => A x ∨ x = cn S) g false [] (adv S2) := w2
    obtain ⟨w3, y1, y2, y3⟩ := w2'.jp
    have y1 : cP (em 22 0 (adv S2)) (cn S2) = (22, 0) := y1
    have p3 : Pre (em 21 0 S) (em 22 0 (adv S2)) := Pre.tr (S2 := S2) p2 (Pre.em (S := adv S2))
    have w3' : Wf (fun x => (A x ∨ x = cn S2) ∨ x = cn S) g false [] (em 22 0 (adv S2)) := ⟨fun pc a b => w3.1 pc a (fun z => b (by rcases z with (z | z) | z; exact Or.inl (Or.inl z); exact Or.inr z; exact Or.inl (Or.inr z))), w3.2⟩
    have w4 := W_pat (j := cn S) w3' hg (by show cn S < cn S2 + 1; omega) (by show cn S2 + 1 ≤ 600; omega) (by rw [(p3.2.2 (cn S) (by omega)).2]; exact x4) (Or.inl ⟨by rw [p3.2.1 (cn S) (by omega), x1], by rw [(p3.2.2 (cn S) (by omega)).1]; exact x2, by rw [(p3.2.2 (cn S + 1) (by omega)).1]; exact x3, by rw [(p3.2.2 (cn S + 1) (by omega)).2]; exact x5, by rw [p3.dc (by omega)]; exact x6, fun z => by
      by_cases y : cn S + 1 < cn S2
      · have : cP (em 22 0 (adv S2)) (cn S + 1) = cP S2 (cn S + 1) := up_n _ _ (show cn S + 1 ≠ cn S2 by omega)
        rw [this]; exact n23 (q2 y)
      · have : cn S + 1 = cn S2 := by omega
        rw [this, y1]; decide⟩)
    have p4 : Pre S (pat (cn S) (em 22 0 (adv S2))) := (p1.tr p3).ptt (Nat.le_refl _)
    obtain ⟨w5, p5, q5⟩ := hb _ g _ S5 e3 w4 hg (hp.pre p4 (hB _ _ e1).2.2.2) h65
    have j2 : cP (pat (cn S) (em 22 0 (adv S2))) (cn S2) = (22, 0) := (up_n _ _ (by omega)).trans y1
    have w6 := W_pat (j := cn S2) w5 hg (by omega) h65 (by rw [(p5.2.2 (cn S2) (by omega)).2]; exact y3) (Or.inr ⟨by rw [p5.2.1 (cn S2) (by omega), j2], by rw [(p5.2.2 (cn S2) (by omega)).1]; exact y2⟩)
    exact ⟨w6, (p4.tr p5).ptt (by omega)⟩
  · cases e2
    have h62 : cn S2 ≤ 600 := h6
    obtain ⟨w2, p2, q2⟩ := hb _ g _ S2 e1 w1 hg (hp.pre p1 rfl) h62
    have w4 := W_pat (j := cn S) w2 hg (by omega) h62 (by rw [(p2.2.2 (cn S) (by omega)).2]; exact x4) (Or.inl ⟨by rw [p2.2.1 (cn S) (by omega), x1], by rw [(p2.2.2 (cn S) (by omega)).1]; exact x2, by rw [(p2.2.2 (cn S + 1) (by omega)).1]; exact x3, by rw [(p2.2.2 (cn S + 1) (by omega)).2]; exact x5, by rw [p2.dc (by omega)]; exact x6, fun z => n23 (q2 z)⟩)
    exact ⟨w4, (p1.tr p2).ptt (Nat.le_refl _)⟩
/-- 'while' with its block -/
theorem W_lop {A : Nat → Prop} {b : PT → PR} {beg : Nat} (hb : ∀ A', Wst A' b) (hm : Mc b) {g : Nat} {S S' : PT} (e : lop b beg S = .ok S') (h : Wf A g true [true] S) (hg : g ≤ 4) (hp : PRC g S) (h6 : cn S' ≤ 600)
    (h1 : beg < cn S) (h2 : cT S beg = []) (h3 : cG S beg = g) (h4 : (cP S beg).1 = 1) (h5 : p_dc (cP S) beg = false) : Wf A g false [] S' ∧ Pre S S' := by
  obtain ⟨S2, e1, e2⟩ := pb_inv e
  obtain ⟨w1, x1, x2, x3, x4, x5, x6⟩ := h.br
  have p1 : Pre S (em 21 0 S) := Pre.em
  have hc1 : cn (em 21 0 S) = cn S + 1 := rfl
  have m1 := hm _ _ e1
  cases e2
  have h62 : cn S2 + 1 ≤ 600 := h6
  obtain ⟨w2, p2, q2⟩ := hb _ g _ S2 e1 w1 hg (hp.pre p1 rfl) (by omega)
  have p12 := p1.tr p2
  obtain ⟨v1, v2, v3, v4⟩ := w2
  have em0 : min beg 600 = beg := by omega
  have pe : Pre S2 (em 22 (nI (min beg 600)) S2) := Pre.em
  have eT : cT (em 22 (nI (min beg 600)) S2) (cn S2) = [] := (pe.2.2 _ (Nat.le_refl _)).1.trans v2
  have eG : cG (em 22 (nI (min beg 600)) S2) (cn S2) = g := (pe.2.2 _ (Nat.le_refl _)).2.trans v3
  have w3 : Wf (fun x => A x ∨ x = cn S) g false [] (em 22 (nI (min beg 600)) S2) := by
    refine ⟨v1.em (by decide) (fun _ => ⟨by rw [eT]; decide, by rw [eG]; exact hg, fun x => absurd (by rw [em_P]) x.2.1, ?_⟩), by rw [show cn (em 22 (nI (min beg 600)) S2) = cn S2 + 1 from rfl, em_T]; rfl, by rw [show cn (em 22 (nI (min beg 600)) S2) = cn S2 + 1 from rfl, em_G, v3]; rfl, ?_⟩
    · rw [em_P, em0]
      have p123 := p12.tr (Pre.em (S := S2) (o := 22) (a := nI beg))
      exact ⟨by rw [em0] at eT; exact eT, beg, rfl, by omega, by rw [(p123.2.2 beg (by omega)).1]; exact h2, by rw [(p123.2.2 beg (by omega)).2, h3]; rw [em0] at eG; exact eG.symm, fun _ => by rw [p123.2.1 beg h1, h4]; decide, by rw [p123.dc (by omega)]; exact h5, Or.inr ⟨by omega, by rw [p123.2.1 beg h1]; exact h4⟩⟩
    · show p_dc (cP (em 22 (nI (min beg 600)) S2)) (cn S2 + 1) = false
      simp only [p_dc]
      rw [em_P]; rfl
  have p3 : Pre (em 21 0 S) (em 22 (nI (min beg 600)) S2) := p2.tr pe
  have w4 := W_pat (j := cn S) w3 hg (by show cn S < cn S2 + 1; omega) h62 (by rw [(p3.2.2 (cn S) (by omega)).2]; exact x4) (Or.inl ⟨by rw [p3.2.1 (cn S) (by omega), x1], by rw [(p3.2.2 (cn S) (by omega)).1]; exact x2, by rw [(p3.2.2 (cn S + 1) (by omega)).1]; exact x3, by rw [(p3.2.2 (cn S + 1) (by omega)).2]; exact x5, by rw [p3.dc (by omega)]; exact x6, fun z => by
    by_cases y : cn S + 1 < cn S2
    · rw [pe.2.1 _ y]; exact n23 (q2 y)
    · have : cn S + 1 = cn S2 := by omega
      rw [this, em_P]; show (22 : Nat) ≠ 23; decide⟩)
  exact ⟨w4, (p1.tr p3).ptt (Nat.le_refl _)⟩
