/-! PART 74: the reference's reading: sums -/
/-- the waiting orders are written down -/
def fl : List Nat → PT → PT
  | [], S => S
  | o :: os, S => fl os (em o 0 S)
theorem fl_ti : ∀ (os : List Nat) (S : PT), ti (fl os S) = ti S
  | [], _ => rfl
  | o :: os, S => fl_ti os (em o 0 S)
theorem fl_cn : ∀ (os : List Nat) (S : PT), cn (fl os S) = cn S + os.length
  | [], _ => rfl
  | o :: os, S => by rw [fl, fl_cn os (em o 0 S)]; show cn S + 1 + os.length = cn S + (os.length + 1); omega
theorem fl_app : ∀ (a b : List Nat) (S : PT), fl (a ++ b) S = fl b (fl a S)
  | [], _, _ => rfl
  | o :: os, b, S => by rw [List.cons_append, fl, fl_app os b, fl]
/-- the top is a bracket, or nothing is there -/
def brk (p : List Nat) : Prop := p = [] ∨ ∃ o q, p = o :: q ∧ (o = 26 ∨ o = 27)
def isMu (m : List Nat) : Prop := m = [] ∨ m = [7] ∨ m = [8]
def isAl (a : List Nat) : Prop := a = [] ∨ a = [5] ∨ a = [6]
theorem PL_mem {f : Nat → Int32} : ∀ {p : List Nat}, PL f p → (∀ j, j < p.length → ∃ o, o ∈ p ∧ f j = nI o) ∧ (∀ o, o ∈ p → ∃ j, j < p.length ∧ f j = nI o)
  | [], _ => ⟨fun j h => absurd h (Nat.not_lt_zero j), fun o h => by cases h⟩
  | x :: xs, h => by
    obtain ⟨a, b⟩ := PL_mem h.2
    refine ⟨fun j hj => ?_, fun o ho => ?_⟩
    · by_cases g : j = xs.length
      · subst g; exact ⟨x, List.mem_cons_self, h.1⟩
      · obtain ⟨o, c, e⟩ := a j (by simp at hj; omega)
        exact ⟨o, List.mem_cons_of_mem _ c, e⟩
    · rcases List.mem_cons.mp ho with rfl | ho
      · exact ⟨xs.length, by simp, h.1⟩
      · obtain ⟨j, c, e⟩ := b o ho
        exact ⟨j, by simp; omega, e⟩
section MSU
variable {X : aw_X} {d : Nat} {Q : Option Value → aw_H → Prop} {I : Nat → Nat → Int32} {L : Nat → Nat → Int64} {D : Nat → Nat} {C : MC} {S : PT} {p : List Nat} {k : Nat} {bs : List (Nat × Nat × Nat)}
theorem MP.pile (h : MP C S p k bs I L) : PL (I 79) p := h.2.2.2.2.1
theorem MP.topI {o : Nat} (h : MP C S (o :: p) k bs I L) (hl : p.length < 2 ^ 31) : I 69 25 - 1 = nI p.length ∧ (I 69 25 - 1).toNatClampNeg = p.length := by
  have : I 69 25 - 1 = nI p.length := by rw [h.top.1, nI_pred]
  exact ⟨this, by rw [this, nI_clamp hl]⟩
theorem c_isIn {o lo hi : Nat} (ho : o < 64) (h1 : lo < 64) (h2 : hi < 64) (hQ : Q (some (.int (if lo ≤ o ∧ o ≤ hi then 1 else 0))) (aw_s I L D)) : aw_m X d y_M_isIn [.int (nI o), .int (nI lo), .int (nI hi)] (aw_s I L D) Q := by
  refine c_M_isIn ?_
  rw [isIn_e h1 h2 ho]
  exact hQ
/-- all waiting orders down to the last bracket -/
theorem m_drop (hC : mOK C) (hp : ∀ o, o ∈ p → o ≤ 27) (hb : brk p) (hl : p.length ≤ 100) : ∀ (pend : List Nat) (S : PT) (I : Nat → Nat → Int32), (∀ o, o ∈ pend → 5 ≤ o ∧ o ≤ 8) → pend.length ≤ 4 → cn S + pend.length ≤ ti S + mDl C + 1 → MP C S (pend ++ p) k bs I L →
    (∀ I' L', MP C (fl pend S) p k bs I' L' → Q none (aw_s I' L' D)) → aw_z X (d + 1) y_M_drop Q 0 [some (.ref 69), some (.int 5), some (.int 8)] [] (aw_s I L D)
  | [], S, I, _, _, _, h, hQ => by
    have h : MP C S p k bs I L := h
    have k := hQ I L h
    rcases hb with rfl | ⟨o, q, rfl, ho⟩
    · refine b_M_drop_0 (fun _ => k) (fun x => ?_) (fun x => ?_)
      · rw [h.len] at x; exact absurd (by decide) x
      · rw [h.len] at x; exact absurd (by decide) x
    · have hl : q.length ≤ 100 := by simp at hl; omega
      have t := h.topI (by omega)
      have B0 := @b_M_drop_0 X d Q I L D 5 8
      rw [t.1, nI_clamp (show q.length < 2 ^ 31 by omega), h.top.2] at B0
      refine B0 (fun _ => k) (fun _ => aw_in_nI (by omega) (by decide)) (fun _ => c_isIn (lo := 5) (hi := 8) (by have := hp o List.mem_cons_self; omega) (by decide) (by decide) ?_)
      rw [if_neg (by omega)]
      exact b_M_drop_23 (fun _ => k) (fun x => absurd rfl x) (fun x => absurd rfl x)
  | o :: os, S, I, hpe, hpl, hG, h, hQ => by
    have h : MP C S (o :: (os ++ p)) k bs I L := h
    simp only [List.length_cons] at hpl hG
    have hll : (os ++ p).length ≤ 110 := by simp; omega
    have t := h.topI (by omega)
    obtain ⟨o5, o8⟩ := hpe o List.mem_cons_self
    have B0 := @b_M_drop_0 X d Q I L D 5 8
    rw [t.1, nI_clamp (show (os ++ p).length < 2 ^ 31 by omega), h.top.2] at B0
    have pos : ¬ I 69 25 ≤ 0 := by
      rw [h.top.1]
      have : (nI ((os ++ p).length + 1) ≤ 0) = ((os ++ p).length + 1 ≤ 0) := nI_le' (b := 0) (by omega) (by decide)
      rw [this]; omega
    refine B0 (fun x => absurd x pos) (fun _ => aw_in_nI (by omega) (by decide)) (fun _ => c_isIn (lo := 5) (hi := 8) (by omega) (by decide) (by decide) ?_)
    rw [if_pos ⟨o5, o8⟩]
    have B1 := @b_M_drop_23 X d Q I L D 5 8 1
    rw [t.1, nI_clamp (show (os ++ p).length < 2 ^ 31 by omega), h.top.2] at B1
    refine B1 (fun x => absurd x (by decide)) (fun _ => aw_in_nI (by omega) (by decide)) (fun _ => m_emit hC h.pop (by omega) (fun I1 h1 => b_M_drop_50 ?_))
    exact m_drop hC hp hb hl os (em o 0 S) I1 (fun x hx => hpe x (List.mem_cons_of_mem _ hx)) (by omega) (by show cn S + 1 + os.length ≤ ti S + mDl C + 1; omega) h1 hQ
/-- orders as strong as the one that comes -/
theorem m_pops {v2 v3 : Int32} {lo : Nat} (hC : mOK C) (hv : (v2 = 0 ∧ lo = 7) ∨ (v2 = 1 ∧ lo = 5)) (hp : ∀ o, o ∈ p → o ≤ 27) (hb : ∀ o q, p = o :: q → ¬ (lo ≤ o ∧ o ≤ 8)) (hl : p.length ≤ 110) : ∀ (pend : List Nat) (S : PT) (I : Nat → Nat → Int32), (∀ o, o ∈ pend → lo ≤ o ∧ o ≤ 8) → pend.length ≤ 4 → cn S + pend.length ≤ ti S + mDl C + 1 → MP C S (pend ++ p) k bs I L →
    (∀ I' L', MP C (fl pend S) p k bs I' L' → aw_z X (d + 4) y_M_readSum Q 265 [some (.ref 69), some (.int 0), none, some (.int v3)] [] (aw_s I' L' D)) → aw_z X (d + 4) y_M_readSum Q 200 [some (.ref 69), some (.int 0), some (.int v2), some (.int v3)] [] (aw_s I L D)
  | [], S, I, _, _, _, h, hQ => by
    have h : MP C S p k bs I L := h
    have k := hQ I L h
    cases p with
    | nil =>
      refine b_M_readSum_200 (fun _ => k) (fun x => ?_) (fun x => ?_) (fun x => ?_)
      all_goals (rw [h.len] at x; exact absurd (by decide) x)
    | cons o q =>
      have hl : q.length ≤ 110 := by simp at hl; omega
      have t := h.topI (by omega)
      have ho := hp o List.mem_cons_self
      have B0 := @b_M_readSum_200 X (d + 3) Q I L D 0 v2 v3
      rw [t.1, nI_clamp (show q.length < 2 ^ 31 by omega), h.top.2] at B0
      have out : aw_z X (d + 4) y_M_readSum Q 234 [some (.ref 69), some (.int 0), some (.int v2), some (.int v3)] [.int 0] (aw_s I L D) := b_M_readSum_234 (fun _ => k) (fun x => absurd rfl x) (fun x => absurd rfl x)
      have hb := hb o q rfl
      rcases hv with ⟨rfl, rfl⟩ | ⟨rfl, rfl⟩
      · exact B0 (fun _ => k) (fun _ => aw_in_nI (by omega) (by decide)) (fun _ _ => b_M_readSum_229 (c_isIn (lo := 7) (hi := 8) (by omega) (by decide) (by decide) (by rw [if_neg hb]; exact out))) (fun _ x => absurd rfl x)
      · exact B0 (fun _ => k) (fun _ => aw_in_nI (by omega) (by decide)) (fun _ x => absurd x (by decide)) (fun _ _ => b_M_readSum_229 (c_isIn (lo := 5) (hi := 8) (by omega) (by decide) (by decide) (by rw [if_neg hb]; exact out)))
  | o :: os, S, I, hpe, hpl, hG, h, hQ => by
    have h : MP C S (o :: (os ++ p)) k bs I L := h
    simp only [List.length_cons] at hpl hG
    have hll : (os ++ p).length ≤ 120 := by simp; omega
    have t := h.topI (by omega)
    obtain ⟨o5, o8⟩ := hpe o List.mem_cons_self
    have B0 := @b_M_readSum_200 X (d + 3) Q I L D 0 v2 v3
    rw [t.1, nI_clamp (show (os ++ p).length < 2 ^ 31 by omega), h.top.2] at B0
    have pos : ¬ I 69 25 ≤ 0 := by
      rw [h.top.1]
      have : (nI ((os ++ p).length + 1) ≤ 0) = ((os ++ p).length + 1 ≤ 0) := nI_le' (b := 0) (by omega) (by decide)
      rw [this]; omega
    have out : aw_z X (d + 4) y_M_readSum Q 234 [some (.ref 69), some (.int 0), some (.int v2), some (.int v3)] [.int 1] (aw_s I L D) := by
      have B1 := @b_M_readSum_234 X (d + 3) Q I L D 0 v2 v3 1
      rw [t.1, nI_clamp (show (os ++ p).length < 2 ^ 31 by omega), h.top.2] at B1
      refine B1 (fun x => absurd x (by decide)) (fun _ => aw_in_nI (by omega) (by decide)) (fun _ => m_emit hC h.pop (by omega) (fun I1 h1 => b_M_readSum_261 ?_))
      exact m_pops hC hv hp hb hl os (em o 0 S) I1 (fun x hx => hpe x (List.mem_cons_of_mem _ hx)) (by omega) (by show cn S + 1 + os.length ≤ ti S + mDl C + 1; omega) h1 hQ
    rcases hv with ⟨rfl, rfl⟩ | ⟨rfl, rfl⟩
    · exact B0 (fun x => absurd x pos) (fun _ => aw_in_nI (by omega) (by decide)) (fun _ _ => b_M_readSum_229 (c_isIn (lo := 7) (hi := 8) (by omega) (by decide) (by decide) (by rw [if_pos ⟨o5, o8⟩]; exact out))) (fun _ x => absurd rfl x)
    · exact B0 (fun x => absurd x pos) (fun _ => aw_in_nI (by omega) (by decide)) (fun _ x => absurd x (by decide)) (fun _ _ => b_M_readSum_229 (c_isIn (lo := 5) (hi := 8) (by omega) (by decide) (by decide) (by rw [if_pos ⟨o5, o8⟩]; exact out)))
/-- a sum's end: all that waits -/
theorem m_last (hC : mOK C) : ∀ (pend : List Nat) (S : PT) (I : Nat → Nat → Int32), pend.length ≤ 4 → cn S + pend.length ≤ ti S + mDl C + 1 → MP C S pend k bs I L →
    (∀ I' L', MP C (fl pend S) [] k bs I' L' → Q (some (.int 1)) (aw_s I' L' D)) → aw_z X (d + 4) y_M_readSum Q 315 [some (.ref 69), some (.int 0), none, none] [] (aw_s I L D)
  | [], S, I, _, _, h, hQ => by
    refine b_M_readSum_315 (fun _ => hQ I L h) (fun x => ?_) (fun x => ?_)
    all_goals (rw [h.len] at x; exact absurd (by decide) x)
  | o :: os, S, I, hpl, hG, h, hQ => by
    simp only [List.length_cons] at hpl hG
    have t := h.topI (by omega)
    have B0 := @b_M_readSum_315 X (d + 3) Q I L D 0
    rw [t.1, nI_clamp (show os.length < 2 ^ 31 by omega), h.top.2] at B0
    have pos : ¬ I 69 25 ≤ 0 := by
      rw [h.top.1]
      have : (nI (os.length + 1) ≤ 0) = (os.length + 1 ≤ 0) := nI_le' (b := 0) (by omega) (by decide)
      rw [this]; omega
    refine B0 (fun x => absurd x pos) (fun _ => aw_in_nI (by omega) (by decide)) (fun _ => m_emit hC h.pop (by omega) (fun I1 h1 => b_M_readSum_347 ?_))
    exact m_last hC os (em o 0 S) I1 (by omega) (by show cn S + 1 + os.length ≤ ti S + mDl C + 1; omega) h1 hQ
/-- which bracket is the last one open -/
theorem l_closes {mark : Nat} (hm : mark = 26 ∨ mark = 27) (hf : ∀ o, o ∈ p → o ≤ 27) (hb : brk p) (hl : p.length ≤ 100) : ∀ (pend : List Nat), (∀ o, o ∈ pend → 5 ≤ o ∧ o ≤ 8) → pend.length ≤ 4 → PL (I 79) (pend ++ p) →
    ((∃ q, p = mark :: q) → Q (some (.int 1)) (aw_s I L D)) → ((¬ ∃ q, p = mark :: q) → Q (some (.int 0)) (aw_s I L D)) → aw_z X d y_M_closes Q 7 [some (.ref 69), some (.int 0), some (.int (nI mark)), some (.int (nI (pend ++ p).length - 1))] [] (aw_s I L D)
  | [], _, _, hP, h1, h0 => by
    have hP : PL (I 79) p := hP
    rcases hb with rfl | ⟨o, q, rfl, ho⟩
    · have e0 : nI ([] ++ ([] : List Nat)).length - 1 = -1 := by decide
      rw [e0]
      have k29 : aw_z X d y_M_closes Q 29 [some (.ref 69), some (.int 0), some (.int (nI mark)), some (.int (-1))] [] (aw_s I L D) := b_M_closes_29 (fun _ => h0 (fun ⟨q, e⟩ => by cases e)) (fun x => absurd (by decide) x) (fun x => absurd (by decide) x) (fun x => absurd (by decide) x)
      exact b_M_closes_7 (fun _ => k29) (fun x => absurd (by decide) x) (fun x => absurd (by decide) x) (fun x => absurd (by decide) x)
    · have hl : q.length ≤ 100 := by simp at hl; omega
      have e0 : nI ([] ++ o :: q).length - 1 = nI q.length := by rw [List.nil_append, List.length_cons, nI_pred]
      rw [e0]
      have B0 := @b_M_closes_7 X d Q I L D 0 (nI mark) (nI q.length)
      have B1 := @b_M_closes_29 X d Q I L D 0 (nI mark) (nI q.length)
      rw [nI_clamp (show q.length < 2 ^ 31 by omega), hP.1] at B0 B1
      have n0 : ¬ nI q.length < 0 := nI_pos (by omega)
      have c26 : ((26 : Int32) ≤ nI o) = (26 ≤ o) := nI_le' (a := 26) (by decide) (by omega)
      have cm : (nI o = nI mark) = (o = mark) := nI_eq' (by omega) (by omega)
      rw [c26] at B0
      rw [cm] at B1
      have k29 : aw_z X d y_M_closes Q 29 [some (.ref 69), some (.int 0), some (.int (nI mark)), some (.int (nI q.length))] [] (aw_s I L D) := B1 (fun x => absurd x n0) (fun _ => aw_in_nI (by omega) (by decide)) (fun _ x => h0 (fun ⟨q', e⟩ => by cases e; exact x rfl)) (fun _ x => h1 ⟨q, by rw [x]⟩)
      exact B0 (fun x => absurd x n0) (fun _ => aw_in_nI (by omega) (by decide)) (fun _ _ => k29) (fun _ x => absurd x (by omega))
  | o :: os, hpe, hpl, hP, h1, h0 => by
    simp only [List.length_cons] at hpl
    obtain ⟨o5, o8⟩ := hpe o List.mem_cons_self
    have hll : (os ++ p).length ≤ 110 := by simp; omega
    have e0 : nI (o :: os ++ p).length - 1 = nI (os ++ p).length := by rw [List.cons_append, List.length_cons, nI_pred]
    rw [e0]
    have B0 := @b_M_closes_7 X d Q I L D 0 (nI mark) (nI (os ++ p).length)
    have hP1 : I 79 (os ++ p).length = nI o := hP.1
    rw [nI_clamp (show (os ++ p).length < 2 ^ 31 by omega), hP1] at B0
    have n0 : ¬ nI (os ++ p).length < 0 := nI_pos (by omega)
    have c26 : ((26 : Int32) ≤ nI o) = (26 ≤ o) := nI_le' (a := 26) (by decide) (by omega)
    rw [c26] at B0
    refine B0 (fun x => absurd x n0) (fun _ => aw_in_nI (by omega) (by decide)) (fun _ x => absurd x (by omega)) (fun _ _ => ?_)
    rw [← Int32.sub_eq_add_neg]
    exact l_closes hm hf hb hl os (fun x hx => hpe x (List.mem_cons_of_mem _ hx)) (by omega) hP.2 h1 h0
theorem m_closes {mark : Nat} {pend : List Nat} (hm : mark = 26 ∨ mark = 27) (hf : ∀ o, o ∈ p → o ≤ 27) (hb : brk p) (hl : p.length ≤ 100) (hpe : ∀ o, o ∈ pend → 5 ≤ o ∧ o ≤ 8) (hpl : pend.length ≤ 4) (h : MP C S (pend ++ p) k bs I L)
    (h1 : (∃ q, p = mark :: q) → Q (some (.int 1)) (aw_s I L D)) (h0 : (¬ ∃ q, p = mark :: q) → Q (some (.int 0)) (aw_s I L D)) : aw_m X d y_M_closes [.ref 69, .int 0, .int (nI mark)] (aw_s I L D) Q := by
  refine aw_go rfl rfl (b_M_closes_0 ?_)
  rw [h.len]
  exact l_closes hm hf hb hl pend hpe hpl h.pile h1 h0
theorem l_isOpen {n : Nat} (hn : n ≤ 120) (hlen : I 69 25 = nI n) (hb : ∀ j, j < n → ∃ o, o ≤ 27 ∧ I 79 j = nI o) (h1 : (∃ j o, j < n ∧ I 79 j = nI o ∧ 26 ≤ o ∧ o ≤ 27) → Q (some (.int 1)) (aw_s I L D)) (h0 : (∀ j, j < n → ∃ o, o < 26 ∧ I 79 j = nI o) → Q (some (.int 0)) (aw_s I L D)) :
    ∀ (m j : Nat), j + m = n → (∀ i, i < j → ∃ o, o < 26 ∧ I 79 i = nI o) → aw_z X d y_M_isOpen Q 2 [some (.ref 69), none, some (.int (nI j))] [] (aw_s I L D) := by
  intro m
  induction m with
  | zero =>
    intro j e ha
    have ej : j = n := by omega
    subst ej
    refine b_M_isOpen_2 (fun _ => h0 ha) (fun x => ?_) (fun x => ?_) (fun x => ?_)
    all_goals (rw [hlen] at x; exact absurd (Int32.le_refl _) x)
  | succ m ih =>
    intro j e ha
    obtain ⟨o, o27, ho⟩ := hb j (by omega)
    have B0 := @b_M_isOpen_2 X d Q I L D (nI j)
    have c26 : (nI o < (26 : Int32)) = (o < 26) := nI_lt' (b := 26) (by omega) (by decide)
    rw [hlen, nI_clamp (show j < 2 ^ 31 by omega), nI_leI (by omega) (by omega), ho, c26] at B0
    refine B0 (fun x => absurd x (by omega)) (fun _ => aw_in_nI (by omega) (by decide)) (fun _ x => ?_) (fun _ x => h1 ⟨j, o, by omega, ho, by omega, o27⟩)
    rw [nI_1]
    refine ih (j + 1) (by omega) (fun i hi => ?_)
    by_cases g : i = j
    · subst g; exact ⟨o, x, ho⟩
    · exact ha i (by omega)
theorem m_isOpen (hf : ∀ o, o ∈ p → o ≤ 27) (hl : p.length ≤ 120) (h : MP C S p k bs I L) (h1 : (∃ o, o ∈ p ∧ 26 ≤ o) → Q (some (.int 1)) (aw_s I L D)) (h0 : (∀ o, o ∈ p → o < 26) → Q (some (.int 0)) (aw_s I L D)) : aw_m X d y_M_isOpen [.ref 69, .int 0] (aw_s I L D) Q := by
  obtain ⟨a, b⟩ := PL_mem h.pile
  refine aw_go rfl rfl (b_M_isOpen_0 (l_isOpen (n := p.length) hl h.len (fun j hj => ?_) (fun hex => h1 ?_) (fun hall => h0 (fun o ho => ?_)) p.length 0 (Nat.zero_add _) (fun i hi => absurd hi (Nat.not_lt_zero _))))
  · obtain ⟨o, c, e⟩ := a j hj
    exact ⟨o, hf o c, e⟩
  · obtain ⟨j, o, hj, ho, o26, o27⟩ := hex
    obtain ⟨o', c, e⟩ := a j hj
    have := hf o' c
    rw [ho, nI_eq (by omega) (by omega)] at e
    exact ⟨o', c, by omega⟩
  · obtain ⟨j, c, e⟩ := b o ho
    obtain ⟨o', g, e'⟩ := hall j c
    have := hf o ho
    rw [e, nI_eq (by omega) (by omega)] at e'
    omega
end MSU
