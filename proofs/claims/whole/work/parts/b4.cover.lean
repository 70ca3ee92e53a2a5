/-! PART b4: cover of both -/
section COVER
variable {X : aw_X} {d d2 : Nat} {Q : Option Value → aw_H → Prop} {I : Nat → Nat → Int32} {L : Nat → Nat → Int64} {D : Nat → Nat} {S : PT} {F B T O n : Nat} {E : Nat → PE} {wl wc wi : Nat → Nat}
theorem RWd.i22 {J : Nat → Nat → Int32} (h : RWd S F B T O E n wl wc wi I L) (f : ∀ o, o ≠ 22 → J o = I o) : RWd S F B T O E n wl wc wi J L := h.fr (fun k _ => by rw [f 1 (by decide)]) (fun o p q => f o (by omega)) (fun _ _ _ => rfl) (fun k p => by rw [f 69 (by decide)]) (KSl.same (fun o p q => f o (by omega))) (fun o p q => f o (by omega)) (fun _ _ => rfl)
theorem c_findRow {r : Nat} (h : RWd S F B T O E n wl wc wi I L) (hr : r < 2 ^ (B * (T + O))) (hQ : Q (some (.int (nI (wi r)))) (aw_s I L D)) : aw_m X (d + 1) y_Wk_find [.ref 11, .long (lN (keyN (E r)))] (aw_s I L D) Q := by
  have hk := h.1.2.2.2.1
  have hF := h.1.2.2.1
  have hW := h.1.2.2.2.2.2
  have hR := rows_lt hk
  obtain ⟨q1, q2, q3⟩ := h.2.2.2.2.2.2.2.2.1 r hr
  have nR := h.2.2.1.2.2.2.2.1.le
  refine c_Wk_find (d := d) (k := keyN (E r)) (n := n) (kf := fun i => kK E (wl i)) (by omega) h.2.2.1.2.2.2.2.2.1.1 (Nat.lt_trans (key_lt hF (hW.1 r)) (by decide)) (fun i hi => ⟨Nat.lt_trans (key_lt hF (hW.1 _)) (by decide), (h.2.2.1.2.2.2.2.2.1.2 i hi).1⟩) h.2.2.1.2.2.2.2.1.2.1 (fun a ha lo up => ?_)
  have ea : a = wi r := by
    rcases Nat.lt_trichotomy a (wi r) with g | g | g
    · have u := up a (Nat.le_refl _) (by omega)
      have m := h.2.2.1.2.2.2.2.1.2.1 a (wi r) g q2
      have u : keyN (E r) ≤ kK E (wl a) := u
      have q3 : kK E (wl (wi r)) = keyN (E r) := q3
      omega
    · exact g
    · have l := lo _ g
      have l : kK E (wl (wi r)) < keyN (E r) := l
      have q3 : kK E (wl (wi r)) = keyN (E r) := q3
      omega
  rw [ea]; exact hQ
theorem wl_least {r : Nat} (h : RWd S F B T O E n wl wc wi I L) (hr : r < 2 ^ (B * (T + O))) : wl (wi r) = r ↔ ∀ q, q < r → keyN (E q) ≠ keyN (E r) := by
  obtain ⟨q1, q2, q3⟩ := h.2.2.2.2.2.2.2.2.1 r hr
  have w := h.2.2.1.2.2.2.2.1
  constructor
  · intro e q hq k
    obtain ⟨i, hi, a, b⟩ := w.2.2.1 q (by omega)
    have := w.inj hi q2 (a.trans (k.trans q3.symm))
    subst this
    omega
  · intro hl
    obtain ⟨i, hi, a, b⟩ := w.2.2.1 r hr
    have := w.inj hi q2 (a.trans q3.symm)
    subst this
    by_cases e : wl (wi r) = r
    · exact e
    · exact absurd q3 (hl _ (by omega))
theorem l_Wk_gather (h : RWd S F B T O E n wl wc wi I L) (hQ : ∀ I' m c, (∀ o, o ≠ 22 → I' o = I o) → CDs E (2 ^ (B * (T + O))) m c → m ≤ 4096 → (∀ i, i < m → I' 22 i = nI (c i)) → Q (some (.int (nI m))) (aw_s I' L D)) :
    ∀ (k r m : Nat) (c : Nat → Nat) (J : Nat → Nat → Int32), r + k = 2 ^ (B * (T + O)) → (∀ o, o ≠ 22 → J o = I o) → CDs E r m c → m ≤ r → (∀ i, i < m → J 22 i = nI (c i)) → aw_z X (d + 2) y_Wk_gatherCandidates Q 4 [some (.ref 11), some (.int (nI m)), some (.int (nI r)), none] [] (aw_s J L D) := by
  have hR := rows_lt h.1.2.2.2.1
  intro k
  induction k with
  | zero =>
    intro r m c J e f g hm hc
    have j := h.i22 f
    have e11 : J 11 1 = nI (2 ^ (B * (T + O))) := j.2.2.1.2.1
    have er : r = 2 ^ (B * (T + O)) := by omega
    rw [← er] at e11
    have c1 : J 11 1 ≤ nI r := by rw [e11, nI_leI (by omega) (by omega)]; exact Nat.le_refl _
    refine b_Wk_gatherCandidates_4 (fun _ => ?_) (fun z => absurd c1 z) (fun z => absurd c1 z) (fun z => absurd c1 z)
    subst er
    exact hQ J m c f g (by omega) hc
  | succ k ih =>
    intro r m c J e f g hm hc
    have j := h.i22 f
    have e11 : J 11 1 = nI (2 ^ (B * (T + O))) := j.2.2.1.2.1
    have hr : r < 2 ^ (B * (T + O)) := by omega
    have c1 : ¬ J 11 1 ≤ nI r := by rw [e11, nI_leI (by omega) (by omega)]; omega
    have c2 : ¬ (4096 : Int32) ≤ nI r := by rw [show (4096 : Int32) = nI 4096 from rfl, nI_leI (by decide) (by omega)]; omega
    have vr := aw_in_nI (show r < 4096 by omega) (show 4096 < 2 ^ 31 by decide)
    have rc : (nI r).toNatClampNeg = r := nI_clamp (by omega)
    obtain ⟨k12, -, k14⟩ := j.2.2.1.2.2.2.1 r hr
    refine b_Wk_gatherCandidates_4 (fun z => absurd z c1) (fun _ z => absurd z c2) (fun _ _ => vr) (fun _ _ => ?_)
    rw [rc, k12]
    have q2 := (j.2.2.2.2.2.2.2.2.1 r hr).2.1
    have w := j.2.2.1.2.2.2.2.1
    have lw := w.1 (wi r) q2
    refine c_findRow (d := d) j hr (b_Wk_gatherCandidates_33 (c_valueAtN (N := 4096) (by decide) rfl (by decide) (show wi r < 4096 by have := w.le; omega) ?_))
    rw [(j.2.2.1.2.2.2.2.2.1.2 (wi r) q2).2.1]
    have wle := wl_least j hr
    have no : ¬ isC E r → aw_z X (d + 2) y_Wk_gatherCandidates Q 4 [some (.ref 11), some (.int (nI m)), some (.int (nI r + 1)), none] [] (aw_s J L D) := fun z => by
      rw [nI_1]; exact ih (r + 1) m c J (by omega) f (g.no z) (by omega) hc
    have cm : ¬ (4096 : Int32) ≤ nI m := by rw [show (4096 : Int32) = nI 4096 from rfl, nI_leI (by decide) (by omega)]; omega
    have B45 := fun s0 => @b_Wk_gatherCandidates_45 X (d + 1) Q J L D (nI m) (nI r) s0
    rw [rc, k14] at B45
    refine b_Wk_gatherCandidates_36 (fun z => ?_) (fun z => ?_)
    · have z : ¬ wl (wi r) = r := fun x => z (by rw [x])
      have nc : ¬ isC E r := fun x => z (wle.mpr x.2)
      exact B45 0 vr (fun _ => no nc) (fun _ _ => no nc) (fun _ x => absurd rfl x) (fun _ x => absurd rfl x) (fun _ x => absurd rfl x)
    · have z : wl (wi r) = r := (nI_eq (by omega) (by omega)).mp z
      refine B45 1 vr (fun x => no (fun y => y.1 ((cmp_eq _ _).mp x))) (fun _ x => absurd x (by decide)) (fun _ _ x => absurd x cm) (fun _ _ _ => aw_in_nI (by omega) (by decide)) (fun x _ _ => ?_)
      have yc : isC E r := ⟨fun y => x ((cmp_eq _ _).mpr y), wle.mp z⟩
      rw [nI_1, nI_1, nI_clamp (show m < 2 ^ 31 by omega)]
      refine ih (r + 1) (m + 1) _ _ (by omega) (fun o p => by rw [au_o p]; exact f o p) (g.yes yc) (by omega) (fun i hi => ?_)
      by_cases q : i = m
      · subst q; rw [au_s, up_s]
      · rw [au_k q, up_n _ _ q]; exact hc i (by omega)
theorem c_Wk_put {k : Nat} {v : Int32} (hk : k < 2) (hQ : Q none (aw_s (aw_u I 66 k v) L D)) : aw_m X d y_Wk_put [.ref 66, .int (nI k), .int v] (aw_s I L D) Q := by
  have c0 : ¬ nI k < 0 := by rw [i32_0, nI_ltI (by omega) (by decide)]; omega
  have c1 : ¬ (2 : Int32) ≤ nI k := by rw [show (2 : Int32) = nI 2 from rfl, nI_leI (by decide) (by omega)]; omega
  have B0 := @b_Wk_put_0 X d Q I L D (nI k) v
  rw [nI_clamp (show k < 2 ^ 31 by omega)] at B0
  exact aw_go rfl rfl (B0 (fun z => absurd z c0) (fun _ z => absurd z c1) (fun _ _ => aw_in_nI hk (by decide)) (fun _ _ => hQ))
section PAIRS
variable {m R : Nat} {c : Nat → Nat}
/-- what the class has at hand when it looks for a cover -/
def CvH (E : Nat → PE) (R m : Nat) (c : Nat → Nat) (I : Nat → Nat → Int32) (L : Nat → Nat → Int64) : Prop := R ≤ 4096 ∧ m ≤ 4096 ∧ (∀ i, i < m → c i < R ∧ I 22 i = nI (c i)) ∧ (∀ r, r < R → L 14 r = bsW E r) ∧ L 11 11 = allB E R
theorem l_Wk_pairI (h : CvH E R m c I L) {i : Nat} (hi : i < m) (hk : (∀ j, i < j → j < m → bsW E (c i) ||| bsW E (c j) ≠ allB E R) → aw_z X (d + 1) y_Wk_findPair Q 2 [some (.ref 11), some (.int (nI m)), some (.ref 66), some (.int (nI (i + 1))), none, none, none, none, none] [] (aw_s I L D))
    (hQ : ∀ j, i < j → j < m → bsW E (c i) ||| bsW E (c j) = allB E R → (∀ j', i < j' → j' < j → bsW E (c i) ||| bsW E (c j') ≠ allB E R) → Q (some (.int 2)) (aw_s (aw_u (aw_u I 66 0 (nI (c i))) 66 1 (nI (c j))) L D)) :
    ∀ (k j : Nat), i < j → j + k = m → (∀ j', i < j' → j' < j → bsW E (c i) ||| bsW E (c j') ≠ allB E R) → aw_z X (d + 1) y_Wk_findPair Q 42 [some (.ref 11), some (.int (nI m)), some (.ref 66), some (.int (nI i)), some (.int (nI (c i))), some (.long (allB E R &&& (bsW E (c i) ^^^ (-1)))), none, some (.int (nI j)), none] [] (aw_s I L D) := by
  obtain ⟨h1, h2, h3, h4, h5⟩ := h
  intro k
  induction k with
  | zero =>
    intro j hj e g
    have ej : j = m := by omega
    subst ej
    refine b_Wk_findPair_42 (fun _ => ?_) (fun z => absurd ?_ z)
    · rw [nI_1]; exact hk g
    · rw [nI_leI (by omega) (by omega)]; exact Nat.le_refl _
  | succ k ih =>
    intro j hj e g
    have c1 : ¬ nI m ≤ nI j := by rw [nI_leI (by omega) (by omega)]; omega
    obtain ⟨a1, a2⟩ := h3 j (by omega)
    refine b_Wk_findPair_42 (fun z => absurd z c1) (fun _ => c_valueAtN (N := 4096) (by decide) rfl (by decide) (show j < 4096 by omega) ?_)
    rw [a2]
    refine b_Wk_findPair_57 (c_valueAtJ (N := 4096) (by decide) rfl (by decide) (show c j < 4096 by omega) ?_)
    rw [h4 _ a1]
    have pe := pair_eq (bs_sub E R (h3 i hi).1) (bs_sub E R a1)
    refine b_Wk_findPair_70 (fun z => ?_) (fun z => ?_)
    · rw [cmp_eq] at z
      rw [nI_1]
      refine ih (j + 1) (by omega) (by omega) (fun j' p q => ?_)
      by_cases x : j' = j
      · subst x; exact fun y => z (pe.mpr y)
      · exact g j' p (by omega)
    · rw [cmp_eq] at z
      exact c_Wk_put (k := 0) (by decide) (b_Wk_findPair_87 (c_Wk_put (k := 1) (by decide) (b_Wk_findPair_94 (hQ j hj (by omega) (pe.mp z) g))))
theorem l_Wk_pair (h : CvH E R m c I L) (hN : (∀ i j, i < j → j < m → bsW E (c i) ||| bsW E (c j) ≠ allB E R) → Q (some (.int (-1))) (aw_s I L D))
    (hQ : ∀ i j, i < j → j < m → bsW E (c i) ||| bsW E (c j) = allB E R → (∀ i' j', i' < j' → j' < m → bsW E (c i') ||| bsW E (c j') = allB E R → i < i' ∨ (i = i' ∧ j ≤ j')) → Q (some (.int 2)) (aw_s (aw_u (aw_u I 66 0 (nI (c i))) 66 1 (nI (c j))) L D)) :
    ∀ (k i : Nat), i + k = m → (∀ i' j', i' < i → i' < j' → j' < m → bsW E (c i') ||| bsW E (c j') ≠ allB E R) → aw_z X (d + 1) y_Wk_findPair Q 2 [some (.ref 11), some (.int (nI m)), some (.ref 66), some (.int (nI i)), none, none, none, none, none] [] (aw_s I L D) := by
  intro k
  induction k with
  | zero =>
    intro i e g
    have ei : i = m := by omega
    subst ei
    refine b_Wk_findPair_2 (fun _ => hN (fun i' j' p q => g i' j' (by omega) p q)) (fun z => absurd ?_ z)
    have := h.2.1
    rw [nI_leI (by omega) (by omega)]; exact Nat.le_refl _
  | succ k ih =>
    intro i e g
    have h2 := h.2.1
    have c1 : ¬ nI m ≤ nI i := by rw [nI_leI (by omega) (by omega)]; omega
    obtain ⟨a1, a2⟩ := h.2.2.1 i (by omega)
    refine b_Wk_findPair_2 (fun z => absurd z c1) (fun _ => c_valueAtN (N := 4096) (by decide) rfl (by decide) (show i < 4096 by omega) ?_)
    rw [a2]
    refine b_Wk_findPair_15 (c_valueAtJ (N := 4096) (by decide) rfl (by decide) (show c i < 4096 by have := h.1; omega) ?_)
    rw [h.2.2.2.1 _ a1, h.2.2.2.2]
    refine b_Wk_findPair_30 ?_
    rw [nI_1]
    refine l_Wk_pairI (d := d) h (i := i) (by omega) (fun z => ih (i + 1) (by omega) (fun i' j' p q s => ?_)) (fun j p q s t => hQ i j p q s (fun i' j' p' q' s' => ?_)) (m - (i + 1)) (i + 1) (by omega) (by omega) (fun j' p q => by omega)
    · by_cases x : i' = i
      · subst x; exact z j' q s
      · exact g i' j' (by omega) q s
    · rcases Nat.lt_trichotomy i i' with y | y | y
      · exact Or.inl y
      · subst y
        refine Or.inr ⟨rfl, Nat.le_of_not_lt fun y => t j' p' y s'⟩
      · exact absurd s' (g i' j' y p' q')
theorem l_Wk_cov1 (h : CvH E R m c I L) (hN : (∀ i, i < m → bsW E (c i) ≠ allB E R) → aw_m X (d + 2) y_Wk_findPair [.ref 11, .int (nI m), .ref 66] (aw_s I L D) (fun r A => aw_z X (d + 3) y_Wk_findCover Q 71 [none, none, none, none, none] (r.toList ++ []) A))
    (hQ : ∀ i, i < m → bsW E (c i) = allB E R → (∀ j, j < i → bsW E (c j) ≠ allB E R) → Q (some (.int 1)) (aw_s (aw_u I 66 0 (nI (c i))) L D)) :
    ∀ (k i : Nat), i + k = m → (∀ j, j < i → bsW E (c j) ≠ allB E R) → aw_z X (d + 3) y_Wk_findCover Q 18 [some (.ref 11), some (.ref 66), some (.int (nI m)), some (.int (nI i)), none] [] (aw_s I L D) := by
  intro k
  induction k with
  | zero =>
    intro i e g
    have ei : i = m := by omega
    subst ei
    refine b_Wk_findCover_18 (fun _ => hN g) (fun z => absurd ?_ z)
    have := h.2.1
    rw [nI_leI (by omega) (by omega)]; exact Nat.le_refl _
  | succ k ih =>
    intro i e g
    have h2 := h.2.1
    have c1 : ¬ nI m ≤ nI i := by rw [nI_leI (by omega) (by omega)]; omega
    obtain ⟨a1, a2⟩ := h.2.2.1 i (by omega)
    refine b_Wk_findCover_18 (fun z => absurd z c1) (fun _ => c_valueAtN (N := 4096) (by decide) rfl (by decide) (show i < 4096 by omega) ?_)
    rw [a2]
    refine b_Wk_findCover_31 (c_valueAtJ (N := 4096) (by decide) rfl (by decide) (show c i < 4096 by have := h.1; omega) ?_)
    rw [h.2.2.2.1 _ a1]
    have B42 := @b_Wk_findCover_42 X (d + 2) Q I L D (nI m) (nI i) (nI (c i)) (bsW E (c i))
    rw [h.2.2.2.2] at B42
    refine B42 (fun z => ?_) (fun z => ?_)
    · rw [cmp_eq] at z
      rw [nI_1]
      refine ih (i + 1) (by omega) (fun j hj => ?_)
      by_cases x : j = i
      · subst x; exact z
      · exact g j (by omega)
    · rw [cmp_eq] at z
      exact c_Wk_put (k := 0) (by decide) (b_Wk_findCover_57 (hQ i (by omega) z g))
end PAIRS
theorem c_Wk_findCover (h : RWd S F B T O E n wl wc wi I L)
    (h0 : allB E (2 ^ (B * (T + O))) = 0 → Q (some (.int 0)) (aw_s I L D))
    (h1 : ∀ v I', allB E (2 ^ (B * (T + O))) ≠ 0 → Onf E (2 ^ (B * (T + O))) v → (∀ o, o ≠ 22 → I' o = I o) → Q (some (.int 1)) (aw_s (aw_u I' 66 0 (nI v)) L D))
    (h2 : ∀ v w I', allB E (2 ^ (B * (T + O))) ≠ 0 → (∀ r, r < 2 ^ (B * (T + O)) → ¬ oneC E (2 ^ (B * (T + O))) r) → CPf E (2 ^ (B * (T + O))) v w → (∀ o, o ≠ 22 → I' o = I o) → Q (some (.int 2)) (aw_s (aw_u (aw_u I' 66 0 (nI v)) 66 1 (nI w)) L D))
    (h3 : ∀ I', allB E (2 ^ (B * (T + O))) ≠ 0 → (∀ r, r < 2 ^ (B * (T + O)) → ¬ oneC E (2 ^ (B * (T + O))) r) → (∀ v w, ¬ CPr E (2 ^ (B * (T + O))) v w) → (∀ o, o ≠ 22 → I' o = I o) → Q (some (.int (-1))) (aw_s I' L D)) : aw_m X (d + 3) y_Wk_findCover [.ref 11, .ref 66] (aw_s I L D) Q := by
  have hF := h.1.2.2.1
  have hW := h.1.2.2.2.2.2
  have hR := rows_lt h.1.2.2.2.1
  have e11 : L 11 11 = allB E (2 ^ (B * (T + O))) := h.2.2.1.2.2.2.2.2.2.1
  have B0 := @b_Wk_findCover_0 X (d + 2) Q I L D
  rw [e11] at B0
  refine aw_go rfl rfl (B0 (fun z => ?_) (fun z => h0 ((cmp_eq _ _).mp z)))
  have z : allB E (2 ^ (B * (T + O))) ≠ 0 := fun y => z ((cmp_eq _ _).mpr y)
  refine aw_go rfl rfl (b_Wk_gatherCandidates_0 (l_Wk_gather (d := d) h (fun I' m c f g hm hc => ?_) (2 ^ (B * (T + O))) 0 0 (fun _ => 0) I (by omega) (fun _ _ => rfl) ⟨fun i hi => absurd hi (Nat.not_lt_zero i), fun i j _ hj => absurd hj (Nat.not_lt_zero j), fun r hr => absurd hr (Nat.not_lt_zero r)⟩ (Nat.le_refl _) (fun i hi => absurd hi (Nat.not_lt_zero i))))
  have H : CvH E (2 ^ (B * (T + O))) m c I' L := ⟨hR, hm, fun i hi => ⟨(g.1 i hi).1, hc i hi⟩, fun r hr => (h.2.2.1.2.2.2.1 r hr).2.2, e11⟩
  refine b_Wk_findCover_15 (l_Wk_cov1 (d := d) H (fun no => ?_) (fun i hi a b => h1 _ I' z (Onf.of hF hW z g hi a b) f) m 0 (by omega) (fun j hj => absurd hj (Nat.not_lt_zero j)))
  have no' : ∀ r, r < 2 ^ (B * (T + O)) → ¬ oneC E (2 ^ (B * (T + O))) r := fun r hr x => by
    obtain ⟨i, hi, -, a⟩ := one_cand hF hW z g hr x
    exact no i hi a
  exact aw_go rfl rfl (b_Wk_findPair_0 (l_Wk_pair (d := d + 1) H (fun a => b_Wk_findCover_71 (h3 I' z no' (CPf.none hF hW z g no' a) f)) (fun i j p q s t => b_Wk_findCover_71 (h2 _ _ I' z no' (CPf.of hF hW z g no' p q s t) f)) m 0 (by omega) (fun i' j' p => absurd p (Nat.not_lt_zero i'))))
end COVER
