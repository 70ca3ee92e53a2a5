/-! PART 75: the reference's reading: sums from their beginning (the walk over signs by a short program) -/
def HDp (X : aw_X) (d : Nat) (D : Nat → Nat) (C : MC) (bs : List (Nat × Nat × Nat)) (Q : Option Value → aw_H → Prop) (S : PT) (p : List Nat) (k : Nat) : Prop :=
  ∀ I L, MP C S p k bs I L → aw_z X (d + 4) y_M_readSum Q 14 [some (.ref 69), some (.int (0 : Int32)), none, none] [] (aw_s I L D)
def FLp (D : Nat → Nat) (C : MC) (Q : Option Value → aw_H → Prop) (e : Int32 × Nat) : Prop := ∀ I L, MF C e I L → Q (some (.int 0)) (aw_s I L D)
def Q293 (X : aw_X) (d : Nat) (Q : Option Value → aw_H → Prop) : Option Value → aw_H → Prop := fun r A => aw_z X (d + 4) y_M_readSum Q 293 [some (.ref 69), some (.int (0 : Int32)), none, none] (r.toList ++ []) A
def notOp (K : Int32) : Prop := ¬ K = 43 ∧ ¬ K = 45 ∧ ¬ K = 42 ∧ ¬ K = 47
theorem isMu_b {m : List Nat} (h : isMu m) : (∀ o, o ∈ m → 7 ≤ o ∧ o ≤ 8) ∧ m.length ≤ 1 := by
  rcases h with rfl | rfl | rfl
  · exact ⟨fun o h => (by cases h), by decide⟩
  · refine ⟨fun o h => ?_, by decide⟩
    rw [List.mem_singleton.mp h]; decide
  · refine ⟨fun o h => ?_, by decide⟩
    rw [List.mem_singleton.mp h]; decide
theorem isAl_b {m : List Nat} (h : isAl m) : (∀ o, o ∈ m → 5 ≤ o ∧ o ≤ 6) ∧ m.length ≤ 1 := by
  rcases h with rfl | rfl | rfl
  · exact ⟨fun o h => (by cases h), by decide⟩
  · refine ⟨fun o h => ?_, by decide⟩
    rw [List.mem_singleton.mp h]; decide
  · refine ⟨fun o h => ?_, by decide⟩
    rw [List.mem_singleton.mp h]; decide
theorem pend_b {m a : List Nat} (hm : isMu m) (ha : isAl a) : (∀ o, o ∈ m ++ a → 5 ≤ o ∧ o ≤ 8) ∧ (m ++ a).length ≤ 2 := by
  obtain ⟨b1, b2⟩ := isMu_b hm
  obtain ⟨b3, b4⟩ := isAl_b ha
  refine ⟨fun o h => ?_, by rw [List.length_append]; omega⟩
  rcases List.mem_append.mp h with h | h
  · have := b1 o h; omega
  · have := b3 o h; omega
section MSM
variable {X : aw_X} {d : Nat} {Q : Option Value → aw_H → Prop} {I : Nat → Nat → Int32} {L : Nat → Nat → Int64} {D : Nat → Nat} {C : MC} {S : PT} {p : List Nat} {k : Nat} {bs : List (Nat × Nat × Nat)}
/-- the order that comes is put on the pile -/
theorem m_265 {o : Nat} {K : Int32} (hC : mOK C) (hl : p.length ≤ 120) (hK : tK (mTd C) (ti S) = K) (n0 : K ≠ 0) (n1 : K ≠ 1) (h : MP C S p k bs I L)
    (hk : ∀ I' L', MP C (adv S) (o :: p) k bs I' L' → aw_m X (d + 3) y_M_readUnit [.ref 69] (aw_s I' L' D) (Q293 X d Q)) : aw_z X (d + 4) y_M_readSum Q 265 [some (.ref 69), some (.int 0), none, some (.int (nI o))] [] (aw_s I L D) := by
  have B0 := @b_M_readSum_265 X (d + 3) Q I L D 0 (nI o)
  rw [h.len, nI_clamp (show p.length < 2 ^ 31 by omega), nI_1] at B0
  exact B0 (aw_in_nI (by omega) (by decide)) (m_go hC h.push (by rw [hK]; exact n0) (by rw [hK]; exact n1) (fun I' L' h' => b_M_readSum_289 (hk I' L' h')))
theorem m_op43 {m a : List Nat} (hC : mOK C) (hm : isMu m) (ha : isAl a) (hb : brk p) (hf : ∀ o, o ∈ p → o ≤ 27) (hl : p.length ≤ 95) (hG : cn S + m.length + a.length ≤ ti S + mDl C) (hK : tK (mTd C) (ti S) = 43) (h : MP C S (m ++ a ++ p) k bs I L)
    (hk : ∀ I' L', MP C (adv (fl (m ++ a) S)) (5 :: p) k bs I' L' → aw_m X (d + 3) y_M_readUnit [.ref 69] (aw_s I' L' D) (Q293 X d Q)) : aw_z X (d + 4) y_M_readSum Q 14 [some (.ref 69), some (.int 0), none, none] [] (aw_s I L D) := by
  have k200 : aw_z X (d + 4) y_M_readSum Q 200 [some (.ref 69), some (.int 0), some (.int 1), some (.int 5)] [] (aw_s I L D) := m_pops (lo := 5) (v2 := 1) (v3 := nI 5) hC (Or.inr ⟨rfl, rfl⟩) hf (fun x q e => by rcases hb with rfl | ⟨y, z, rfl, hy⟩ <;> cases e; omega) (by omega) (m ++ a) S I (pend_b hm ha).1 (by have := (pend_b hm ha).2; omega) (by rw [List.length_append]; omega) (by rw [List.append_assoc] at h; exact (by rw [List.append_assoc]; exact h)) (fun I1 L1 h1 => m_265 (K := 43) (o := 5) hC (by omega) (by rw [fl_ti]; exact hK) (by decide) (by decide) h1 hk)
  exact b_M_readSum_14 (m_isSign h (by decide) (fun x => absurd (hK.symm.trans x) (by decide)) (fun _ => b_M_readSum_20 (fun _ => b_M_readSum_33 (m_isSign h (by decide) (fun x => absurd (hK.symm.trans x) (by decide)) (fun _ => b_M_readSum_39 (fun _ => b_M_readSum_107 (m_isSign h (by decide) (fun _ => b_M_readSum_113 (fun _ => b_M_readSum_125 (b_M_readSum_130 (fun _ => b_M_readSum_156 (m_isSign h (by decide) (fun _ => b_M_readSum_162 (fun x => absurd x (by decide)) (fun _ => k200)) (fun x => absurd hK x))) (fun x => absurd x (by decide)))) (fun x => absurd x (by decide))) (fun x => absurd hK x))) (fun x => absurd rfl x)))) (fun x => absurd rfl x)))
theorem m_op45 {m a : List Nat} (hC : mOK C) (hm : isMu m) (ha : isAl a) (hb : brk p) (hf : ∀ o, o ∈ p → o ≤ 27) (hl : p.length ≤ 95) (hG : cn S + m.length + a.length ≤ ti S + mDl C) (hK : tK (mTd C) (ti S) = 45) (h : MP C S (m ++ a ++ p) k bs I L)
    (hk : ∀ I' L', MP C (adv (fl (m ++ a) S)) (6 :: p) k bs I' L' → aw_m X (d + 3) y_M_readUnit [.ref 69] (aw_s I' L' D) (Q293 X d Q)) : aw_z X (d + 4) y_M_readSum Q 14 [some (.ref 69), some (.int 0), none, none] [] (aw_s I L D) := by
  have k200 : aw_z X (d + 4) y_M_readSum Q 200 [some (.ref 69), some (.int 0), some (.int 1), some (.int 6)] [] (aw_s I L D) := m_pops (lo := 5) (v2 := 1) (v3 := nI 6) hC (Or.inr ⟨rfl, rfl⟩) hf (fun x q e => by rcases hb with rfl | ⟨y, z, rfl, hy⟩ <;> cases e; omega) (by omega) (m ++ a) S I (pend_b hm ha).1 (by have := (pend_b hm ha).2; omega) (by rw [List.length_append]; omega) (by rw [List.append_assoc] at h; exact (by rw [List.append_assoc]; exact h)) (fun I1 L1 h1 => m_265 (K := 45) (o := 6) hC (by omega) (by rw [fl_ti]; exact hK) (by decide) (by decide) h1 hk)
  exact b_M_readSum_14 (m_isSign h (by decide) (fun x => absurd (hK.symm.trans x) (by decide)) (fun _ => b_M_readSum_20 (fun _ => b_M_readSum_33 (m_isSign h (by decide) (fun x => absurd (hK.symm.trans x) (by decide)) (fun _ => b_M_readSum_39 (fun _ => b_M_readSum_107 (m_isSign h (by decide) (fun x => absurd (hK.symm.trans x) (by decide)) (fun _ => b_M_readSum_113 (fun x => absurd rfl x) (fun _ => m_isSign h (by decide) (fun _ => b_M_readSum_122 (fun x => absurd x (by decide)) (fun _ => b_M_readSum_125 (b_M_readSum_130 (fun _ => b_M_readSum_156 (m_isSign h (by decide) (fun x => absurd (hK.symm.trans x) (by decide)) (fun _ => b_M_readSum_162 (fun _ => m_isSign h (by decide) (fun _ => b_M_readSum_175 (fun x => absurd x (by decide)) (fun _ => k200)) (fun x => absurd hK x)) (fun x => absurd rfl x)))) (fun x => absurd x (by decide))))) (fun x => absurd hK x))))) (fun x => absurd rfl x)))) (fun x => absurd rfl x)))
theorem m_op42 {m a : List Nat} (hC : mOK C) (hm : isMu m) (ha : isAl a) (hb : brk p) (hf : ∀ o, o ∈ p → o ≤ 27) (hl : p.length ≤ 95) (hG : cn S + m.length + a.length ≤ ti S + mDl C) (hK : tK (mTd C) (ti S) = 42) (h : MP C S (m ++ a ++ p) k bs I L)
    (hk : ∀ I' L', MP C (adv (fl m S)) (7 :: (a ++ p)) k bs I' L' → aw_m X (d + 3) y_M_readUnit [.ref 69] (aw_s I' L' D) (Q293 X d Q)) : aw_z X (d + 4) y_M_readSum Q 14 [some (.ref 69), some (.int 0), none, none] [] (aw_s I L D) := by
  have k200 : aw_z X (d + 4) y_M_readSum Q 200 [some (.ref 69), some (.int 0), some (.int 0), some (.int 7)] [] (aw_s I L D) := m_pops (lo := 7) (v2 := 0) (v3 := nI 7) hC (Or.inl ⟨rfl, rfl⟩) (fun x hx => by rcases List.mem_append.mp hx with g | g; (have := (isAl_b ha).1 x g; omega); exact hf x g) (fun x q e => by rcases ha with rfl | rfl | rfl; (rcases hb with rfl | ⟨y, z, rfl, hy⟩ <;> cases e; omega); (cases e; omega); (cases e; omega)) (by rw [List.length_append]; have := (isAl_b ha).2; omega) m S I (isMu_b hm).1 (by have := (isMu_b hm).2; omega) (by omega) (by rw [List.append_assoc] at h; exact h) (fun I1 L1 h1 => m_265 (K := 42) (o := 7) hC (by rw [List.length_append]; have := (isAl_b ha).2; omega) (by rw [fl_ti]; exact hK) (by decide) (by decide) h1 hk)
  exact b_M_readSum_14 (m_isSign h (by decide) (fun x => absurd (hK.symm.trans x) (by decide)) (fun _ => b_M_readSum_20 (fun _ => b_M_readSum_33 (m_isSign h (by decide) (fun x => absurd (hK.symm.trans x) (by decide)) (fun _ => b_M_readSum_39 (fun _ => b_M_readSum_107 (m_isSign h (by decide) (fun x => absurd (hK.symm.trans x) (by decide)) (fun _ => b_M_readSum_113 (fun x => absurd rfl x) (fun _ => m_isSign h (by decide) (fun x => absurd (hK.symm.trans x) (by decide)) (fun _ => b_M_readSum_122 (fun _ => b_M_readSum_130 (fun x => absurd rfl x) (fun _ => m_isSign h (by decide) (fun _ => b_M_readSum_141 (fun _ => b_M_readSum_156 (m_isSign h (by decide) (fun x => absurd (hK.symm.trans x) (by decide)) (fun _ => b_M_readSum_162 (fun _ => m_isSign h (by decide) (fun x => absurd (hK.symm.trans x) (by decide)) (fun _ => b_M_readSum_175 (fun _ => m_isSign h (by decide) (fun _ => b_M_readSum_189 (fun x => absurd x (by decide)) (fun _ => k200)) (fun x => absurd hK x)) (fun x => absurd rfl x))) (fun x => absurd rfl x)))) (fun x => absurd x (by decide))) (fun x => absurd hK x))) (fun x => absurd rfl x)))))) (fun x => absurd rfl x)))) (fun x => absurd rfl x)))
theorem m_op47 {m a : List Nat} (hC : mOK C) (hm : isMu m) (ha : isAl a) (hb : brk p) (hf : ∀ o, o ∈ p → o ≤ 27) (hl : p.length ≤ 95) (hG : cn S + m.length + a.length ≤ ti S + mDl C) (hK : tK (mTd C) (ti S) = 47) (h : MP C S (m ++ a ++ p) k bs I L)
    (hk : ∀ I' L', MP C (adv (fl m S)) (8 :: (a ++ p)) k bs I' L' → aw_m X (d + 3) y_M_readUnit [.ref 69] (aw_s I' L' D) (Q293 X d Q)) : aw_z X (d + 4) y_M_readSum Q 14 [some (.ref 69), some (.int 0), none, none] [] (aw_s I L D) := by
  have k200 : aw_z X (d + 4) y_M_readSum Q 200 [some (.ref 69), some (.int 0), some (.int 0), some (.int 8)] [] (aw_s I L D) := m_pops (lo := 7) (v2 := 0) (v3 := nI 8) hC (Or.inl ⟨rfl, rfl⟩) (fun x hx => by rcases List.mem_append.mp hx with g | g; (have := (isAl_b ha).1 x g; omega); exact hf x g) (fun x q e => by rcases ha with rfl | rfl | rfl; (rcases hb with rfl | ⟨y, z, rfl, hy⟩ <;> cases e; omega); (cases e; omega); (cases e; omega)) (by rw [List.length_append]; have := (isAl_b ha).2; omega) m S I (isMu_b hm).1 (by have := (isMu_b hm).2; omega) (by omega) (by rw [List.append_assoc] at h; exact h) (fun I1 L1 h1 => m_265 (K := 47) (o := 8) hC (by rw [List.length_append]; have := (isAl_b ha).2; omega) (by rw [fl_ti]; exact hK) (by decide) (by decide) h1 hk)
  exact b_M_readSum_14 (m_isSign h (by decide) (fun x => absurd (hK.symm.trans x) (by decide)) (fun _ => b_M_readSum_20 (fun _ => b_M_readSum_33 (m_isSign h (by decide) (fun x => absurd (hK.symm.trans x) (by decide)) (fun _ => b_M_readSum_39 (fun _ => b_M_readSum_107 (m_isSign h (by decide) (fun x => absurd (hK.symm.trans x) (by decide)) (fun _ => b_M_readSum_113 (fun x => absurd rfl x) (fun _ => m_isSign h (by decide) (fun x => absurd (hK.symm.trans x) (by decide)) (fun _ => b_M_readSum_122 (fun _ => b_M_readSum_130 (fun x => absurd rfl x) (fun _ => m_isSign h (by decide) (fun x => absurd (hK.symm.trans x) (by decide)) (fun _ => b_M_readSum_141 (fun x => absurd rfl x) (fun _ => m_isSign h (by decide) (fun _ => b_M_readSum_150 (fun _ => b_M_readSum_156 (m_isSign h (by decide) (fun x => absurd (hK.symm.trans x) (by decide)) (fun _ => b_M_readSum_162 (fun _ => m_isSign h (by decide) (fun x => absurd (hK.symm.trans x) (by decide)) (fun _ => b_M_readSum_175 (fun _ => m_isSign h (by decide) (fun x => absurd (hK.symm.trans x) (by decide)) (fun _ => b_M_readSum_189 (fun _ => k200) (fun x => absurd rfl x))) (fun x => absurd rfl x))) (fun x => absurd rfl x)))) (fun x => absurd x (by decide))) (fun x => absurd hK x))))) (fun x => absurd rfl x)))))) (fun x => absurd rfl x)))) (fun x => absurd rfl x)))
/-- what follows is no order: a bracket's end, or the sum's -/
theorem m_end {m a : List Nat} (hC : mOK C) (hm : isMu m) (ha : isAl a) (hb : brk p) (hf : ∀ o, o ∈ p → o ≤ 27) (hl : p.length ≤ 95) (hk10 : p ≠ [] → k < 10) (hG : cn S + m.length + a.length ≤ ti S + mDl C) (hK : notOp (tK (mTd C) (ti S))) (h : MP C S (m ++ a ++ p) k bs I L)
    (h0 : p = [] → ∀ I' L', MP C (fl (m ++ a) S) [] k bs I' L' → Q (some (.int 1)) (aw_s I' L' D))
    (h26 : ∀ q, p = 26 :: q → tK (mTd C) (ti S) = 41 → ∀ I' L', MP C (adv (fl (m ++ a) S)) q (k + 1) bs I' L' → aw_z X (d + 4) y_M_readSum Q 14 [some (.ref 69), some (.int 0), none, none] [] (aw_s I' L' D))
    (h27 : ∀ q, p = 27 :: q → tK (mTd C) (ti S) = 93 → ∀ I' L', MP C (adv (em 4 0 (fl (m ++ a) S))) q (k + 1) bs I' L' → aw_z X (d + 4) y_M_readSum Q 14 [some (.ref 69), some (.int 0), none, none] [] (aw_s I' L' D))
    (hx : p ≠ [] → (¬ ((∃ q, p = 26 :: q) ∧ tK (mTd C) (ti S) = 41)) → (¬ ((∃ q, p = 27 :: q) ∧ tK (mTd C) (ti S) = 93)) → ∀ I' L', MF C (1, ti S) I' L' → Q (some (.int 0)) (aw_s I' L' D)) :
    aw_z X (d + 4) y_M_readSum Q 14 [some (.ref 69), some (.int 0), none, none] [] (aw_s I L D) := by
  obtain ⟨pb1, pb2⟩ := pend_b hm ha
  have hlen : (m ++ a).length = m.length + a.length := List.length_append
  have hf2 : ∀ o, o ∈ m ++ a ++ p → o ≤ 27 := fun o ho => by
    rcases List.mem_append.mp ho with g | g
    · have := pb1 o g; omega
    · exact hf o g
  have hl2 : (m ++ a ++ p).length ≤ 120 := by rw [List.length_append]; omega
  have k315 : p = [] → aw_z X (d + 4) y_M_readSum Q 315 [some (.ref 69), some (.int 0), none, none] [] (aw_s I L D) := fun e => by
    subst e
    rw [List.append_nil] at h
    exact m_last hC (m ++ a) S I (by omega) (by omega) h (h0 rfl)
  have k306 : (¬ ((∃ q, p = 26 :: q) ∧ tK (mTd C) (ti S) = 41)) → (¬ ((∃ q, p = 27 :: q) ∧ tK (mTd C) (ti S) = 93)) → aw_m X (d + 3) y_M_isOpen [.ref 69, .int 0] (aw_s I L D) (fun r A => aw_z X (d + 4) y_M_readSum Q 306 [some (.ref 69), some (.int 0), none, none] (r.toList ++ []) A) := fun n1 n2 => by
    refine m_isOpen hf2 hl2 h (fun hex => b_M_readSum_306 (fun x => absurd x (by decide)) (fun _ => m_bad h (fun _ => rfl) (fun I' h' => b_M_readSum_314 (Or.inl rfl) (hx (fun e => ?_) n1 n2 I' L h')))) (fun hall => b_M_readSum_306 (fun _ => k315 ?_) (fun x => absurd rfl x))
    · obtain ⟨o, ho, o26⟩ := hex
      subst e
      rw [List.append_nil] at ho
      have := pb1 o ho
      omega
    · rcases hb with e | ⟨o, q, e, ho⟩
      · exact e
      · have := hall o (List.mem_append_right _ (by rw [e]; exact List.mem_cons_self))
        omega
  have k107 : (¬ ((∃ q, p = 26 :: q) ∧ tK (mTd C) (ti S) = 41)) → (¬ ((∃ q, p = 27 :: q) ∧ tK (mTd C) (ti S) = 93)) → aw_z X (d + 4) y_M_readSum Q 107 [some (.ref 69), some (.int 0), none, none] [] (aw_s I L D) := fun n1 n2 =>
    b_M_readSum_107 (m_isSign h (by decide) (fun x => absurd x hK.1) (fun _ => b_M_readSum_113 (fun x => absurd rfl x) (fun _ => m_isSign h (by decide) (fun x => absurd x hK.2.1) (fun _ => b_M_readSum_122 (fun _ => b_M_readSum_130 (fun x => absurd rfl x) (fun _ => m_isSign h (by decide) (fun x => absurd x hK.2.2.1) (fun _ => b_M_readSum_141 (fun x => absurd rfl x) (fun _ => m_isSign h (by decide) (fun x => absurd x hK.2.2.2) (fun _ => b_M_readSum_150 (fun x => absurd rfl x) (fun _ => k306 n1 n2)))))) (fun x => absurd rfl x)))))
  -- a bracket is closed
  have k52 : ∀ o q, p = o :: q → ((o = 26 ∧ tK (mTd C) (ti S) = 41) ∨ (o = 27 ∧ tK (mTd C) (ti S) = 93)) → aw_z X (d + 4) y_M_readSum Q 52 [some (.ref 69), some (.int 0), none, none] [] (aw_s I L D) := by
    intro o q e ho
    have hkk := hk10 (by rw [e]; exact List.cons_ne_nil _ _)
    have hq : q.length ≤ 95 := by rw [e] at hl; simp at hl; omega
    refine b_M_readSum_52 (aw_go rfl rfl (m_drop hC hf hb (by omega) (m ++ a) S I pb1 (by omega) (by omega) h (fun I1 L1 h1 => ?_)))
    rw [e] at h1
    have t := h1.topI (by omega)
    have B0 := @b_M_readSum_59 X (d + 3) Q I1 L1 D 0
    have e27 : I1 69 27 - 1 = nI (10 - (k + 1)) := by
      rw [h1.opens.1, show 10 - k = (10 - (k + 1)) + 1 by omega, nI_pred]
    rw [t.1, nI_clamp (show q.length < 2 ^ 31 by omega), h1.top.2, e27] at B0
    have h2 := h1.pop.opn (k' := k + 1) (by omega)
    rcases ho with ⟨rfl, hK41⟩ | ⟨rfl, hK93⟩
    · refine B0 (aw_in_nI (by omega) (by decide)) (fun _ => b_M_readSum_100 (m_go hC h2 ?_ ?_ (fun I3 L3 h3 => b_M_readSum_104 (h26 q e hK41 I3 L3 h3)))) (fun x => absurd x (by decide))
      · rw [fl_ti, hK41]; decide
      · rw [fl_ti, hK41]; decide
    · refine B0 (aw_in_nI (by omega) (by decide)) (fun x => absurd rfl x) (fun _ => m_emit (o := 4) hC h2 ?_ (fun I2 h2' => b_M_readSum_99 (b_M_readSum_100 (m_go hC h2' ?_ ?_ (fun I3 L3 h3 => b_M_readSum_104 (h27 q e hK93 I3 L3 h3))))))
      · rw [fl_cn, fl_ti]; omega
      · show tK (mTd C) (ti (fl (m ++ a) S)) ≠ 0
        rw [fl_ti, hK93]; decide
      · show tK (mTd C) (ti (fl (m ++ a) S)) ≠ 1
        rw [fl_ti, hK93]; decide
  have k33 : (¬ ((∃ q, p = 26 :: q) ∧ tK (mTd C) (ti S) = 41)) → aw_z X (d + 4) y_M_readSum Q 33 [some (.ref 69), some (.int 0), none, none] [] (aw_s I L D) := fun n1 =>
    b_M_readSum_33 (m_isSign h (by decide) (fun q93 => b_M_readSum_39 (fun x => absurd x (by decide)) (fun _ => m_closes (mark := 27) (Or.inr rfl) hf hb (by omega) pb1 (by omega) h (fun hq => b_M_readSum_49 (fun x => absurd x (by decide)) (fun _ => hq.elim (fun q e => k52 27 q e (Or.inr ⟨rfl, q93⟩)))) (fun hq => b_M_readSum_49 (fun _ => k107 n1 (fun x => hq x.1)) (fun x => absurd rfl x)))) (fun n93 => b_M_readSum_39 (fun _ => k107 n1 (fun x => n93 x.2)) (fun x => absurd rfl x)))
  exact b_M_readSum_14 (m_isSign h (by decide) (fun q41 => b_M_readSum_20 (fun x => absurd x (by decide)) (fun _ => m_closes (mark := 26) (Or.inl rfl) hf hb (by omega) pb1 (by omega) h (fun hq => b_M_readSum_30 (fun _ => hq.elim (fun q e => k52 26 q e (Or.inl ⟨rfl, q41⟩))) (fun x => absurd x (by decide))) (fun hq => b_M_readSum_30 (fun x => absurd rfl x) (fun _ => k33 (fun x => hq x.1))))) (fun n41 => b_M_readSum_20 (fun _ => k33 (fun x => n41 x.2)) (fun x => absurd rfl x)))
end MSM
