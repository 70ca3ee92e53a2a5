/-! PART b5: cover of the reference, and of both -/
section COVERM
variable {X : aw_X} {d d2 : Nat} {Q : Option Value → aw_H → Prop} {I : Nat → Nat → Int32} {L : Nat → Nat → Int64} {D : Nat → Nat} {S : PT} {F B T O n : Nat} {E : Nat → PE} {wl wc wi : Nat → Nat}
/-- what the reference has at hand when it looks for a cover -/
def CvM (E : Nat → PE) (B T O : Nat) (I : Nat → Nat → Int32) (L : Nat → Nat → Int64) : Prop := SZok B T O ∧ SZ I B T O ∧ 2 ^ (B * (T + O)) ≤ 4096 ∧ ∀ q, q < 2 ^ (B * (T + O)) → I 95 q = eE (E q) ∧ L 92 q = setL (eT (E q))
theorem l_M_cov2I {v : Nat} (h : CvM E B T O I L) (hv : v < 2 ^ (B * (T + O))) (v4 : eE (E v) ≠ 4) (hN : (∀ w, ¬ CPr E (2 ^ (B * (T + O))) v w) → aw_z X (d + 1) y_M_cover Q 120 [some (.ref 69), some (.long (allB E (2 ^ (B * (T + O))))), none, some (.int (nI (v + 1))), none] [] (aw_s I L D))
    (hQ : ∀ w, CPr E (2 ^ (B * (T + O))) v w → (∀ w', CPr E (2 ^ (B * (T + O))) v w' → w ≤ w') → Q (some (.int 2)) (aw_s (aw_u (aw_u (aw_u I 105 0 (nI v)) 105 1 (nI w)) 69 71 2) L D)) :
    ∀ (k w : Nat), w + k = 2 ^ (B * (T + O)) → v < w → (∀ w', w' < w → ¬ CPr E (2 ^ (B * (T + O))) v w') → aw_z X (d + 1) y_M_cover Q 146 [some (.ref 69), some (.long (allB E (2 ^ (B * (T + O))))), none, some (.int (nI v)), some (.int (nI w))] [] (aw_s I L D) := by
  obtain ⟨hk, sz, hR, ms⟩ := h
  intro k
  induction k with
  | zero =>
    intro w e hw g
    have ew : w = 2 ^ (B * (T + O)) := by omega
    have c1 : nI (2 ^ (B * (T + O))) ≤ nI w := by rw [nI_leI (by omega) (by omega)]; omega
    refine b_M_cover_146 (c_M_rows hk sz (b_M_cover_152 (fun _ => ?_) (fun z => absurd c1 z) (fun z => absurd c1 z) (fun z => absurd c1 z) (fun z => absurd c1 z) (fun z => absurd c1 z) (fun z => absurd c1 z)))
    rw [nI_1]
    exact hN (fun w' p => g w' (by have := p.2.1; omega) p)
  | succ k ih =>
    intro w e hw g
    have c1 : ¬ nI (2 ^ (B * (T + O))) ≤ nI w := by rw [nI_leI (by omega) (by omega)]; omega
    have vw := aw_in_nI (show w < 4096 by omega) (show 4096 < 2 ^ 31 by decide)
    have vv := aw_in_nI (show v < 4096 by omega) (show 4096 < 2 ^ 31 by decide)
    obtain ⟨a1, a2⟩ := ms w (by omega)
    obtain ⟨-, b2⟩ := ms v hv
    have B1 := @b_M_cover_152 X d Q I L D (allB E (2 ^ (B * (T + O)))) (nI v) (nI w) (nI (2 ^ (B * (T + O)))) (nI w)
    rw [nI_clamp (show w < 2 ^ 31 by omega), nI_clamp (show v < 2 ^ 31 by omega), a1, a2, b2, nI_1, nI_1, cmp_eq] at B1
    have on : ¬ CPr E (2 ^ (B * (T + O))) v w → aw_z X (d + 1) y_M_cover Q 146 [some (.ref 69), some (.long (allB E (2 ^ (B * (T + O))))), none, some (.int (nI v)), some (.int (nI (w + 1)))] [] (aw_s I L D) := fun z => ih (w + 1) (by omega) (by omega) (fun w' p => by
      by_cases q : w' = w
      · subst q; exact z
      · exact g w' (by omega))
    refine b_M_cover_146 (c_M_rows hk sz (B1 (fun z => absurd z c1) (fun _ => vw) (fun _ z => on (fun p => p.2.2.2.1 z)) (fun _ _ => vv) (fun _ _ => vw) (fun _ x z => ?_) (fun _ _ z => on (fun p => z p.2.2.2.2))))
    exact hQ w ⟨hw, by omega, v4, x, z⟩ (fun w' p => Nat.le_of_not_lt fun q => g w' q p)
theorem l_M_cov2 (h : CvM E B T O I L) (hN : (∀ v w, ¬ CPr E (2 ^ (B * (T + O))) v w) → Q (some (.int (-1))) (aw_s I L D))
    (hQ : ∀ v w, CPf E (2 ^ (B * (T + O))) v w → Q (some (.int 2)) (aw_s (aw_u (aw_u (aw_u I 105 0 (nI v)) 105 1 (nI w)) 69 71 2) L D)) :
    ∀ (k v : Nat), v + k = 2 ^ (B * (T + O)) → (∀ v' w', v' < v → ¬ CPr E (2 ^ (B * (T + O))) v' w') → aw_z X (d + 1) y_M_cover Q 120 [some (.ref 69), some (.long (allB E (2 ^ (B * (T + O))))), none, some (.int (nI v)), none] [] (aw_s I L D) := by
  obtain ⟨hk, sz, hR, ms⟩ := h
  intro k
  induction k with
  | zero =>
    intro v e g
    have c1 : nI (2 ^ (B * (T + O))) ≤ nI v := by rw [nI_leI (by omega) (by omega)]; omega
    exact b_M_cover_120 (c_M_rows hk sz (b_M_cover_125 (fun _ => hN (fun v' w' p => g v' w' (by have := p.1; have := p.2.1; omega) p)) (fun z => absurd c1 z) (fun z => absurd c1 z) (fun z => absurd c1 z)))
  | succ k ih =>
    intro v e g
    have c1 : ¬ nI (2 ^ (B * (T + O))) ≤ nI v := by rw [nI_leI (by omega) (by omega)]; omega
    have vv := aw_in_nI (show v < 4096 by omega) (show 4096 < 2 ^ 31 by decide)
    obtain ⟨b1, b2⟩ := ms v (by omega)
    have B1 := @b_M_cover_125 X d Q I L D (allB E (2 ^ (B * (T + O)))) (nI v) (nI (2 ^ (B * (T + O)))) (nI v)
    rw [nI_clamp (show v < 2 ^ 31 by omega), b1, nI_1] at B1
    have on : (∀ w, ¬ CPr E (2 ^ (B * (T + O))) v w) → aw_z X (d + 1) y_M_cover Q 120 [some (.ref 69), some (.long (allB E (2 ^ (B * (T + O))))), none, some (.int (nI (v + 1))), none] [] (aw_s I L D) := fun z => ih (v + 1) (by omega) (fun v' w' p => by
      by_cases q : v' = v
      · subst q; exact z w'
      · exact g v' w' (by omega))
    refine b_M_cover_120 (c_M_rows hk sz (B1 (fun z => absurd z c1) (fun _ => vv) (fun _ z => ?_) (fun _ z => on (fun w p => p.2.2.1 z))))
    refine l_M_cov2I (d := d) ⟨hk, sz, hR, ms⟩ (by omega) z on (fun w p q => hQ v w ⟨p, fun v' w' s => ?_⟩) (2 ^ (B * (T + O)) - (v + 1)) (v + 1) (by omega) (by omega) (fun w' p s => by have := s.1; omega)
    rcases Nat.lt_trichotomy v v' with y | y | y
    · exact Or.inl y
    · subst y; exact Or.inr ⟨rfl, q w' s⟩
    · exact absurd s (g v' w' y)
theorem l_M_cov1 (h : CvM E B T O I L) (hN : (∀ r, r < 2 ^ (B * (T + O)) → ¬ oneC E (2 ^ (B * (T + O))) r) → aw_z X (d + 1) y_M_cover Q 120 [some (.ref 69), some (.long (allB E (2 ^ (B * (T + O))))), none, some (.int (nI 0)), none] [] (aw_s I L D))
    (hQ : ∀ v, Onf E (2 ^ (B * (T + O))) v → Q (some (.int 1)) (aw_s (aw_u (aw_u I 105 0 (nI v)) 69 71 1) L D)) :
    ∀ (k v : Nat), v + k = 2 ^ (B * (T + O)) → (∀ r, r < v → ¬ oneC E (2 ^ (B * (T + O))) r) → aw_z X (d + 1) y_M_cover Q 66 [some (.ref 69), some (.long (allB E (2 ^ (B * (T + O))))), none, some (.int (nI v)), none] [] (aw_s I L D) := by
  obtain ⟨hk, sz, hR, ms⟩ := h
  intro k
  induction k with
  | zero =>
    intro v e g
    have c1 : nI (2 ^ (B * (T + O))) ≤ nI v := by rw [nI_leI (by omega) (by omega)]; omega
    exact b_M_cover_66 (c_M_rows hk sz (b_M_cover_71 (fun _ => hN (fun r hr => g r (by omega))) (fun z => absurd c1 z) (fun z => absurd c1 z) (fun z => absurd c1 z) (fun z => absurd c1 z) (fun z => absurd c1 z)))
  | succ k ih =>
    intro v e g
    have c1 : ¬ nI (2 ^ (B * (T + O))) ≤ nI v := by rw [nI_leI (by omega) (by omega)]; omega
    have vv := aw_in_nI (show v < 4096 by omega) (show 4096 < 2 ^ 31 by decide)
    obtain ⟨b1, b2⟩ := ms v (by omega)
    have B1 := @b_M_cover_71 X d Q I L D (allB E (2 ^ (B * (T + O)))) (nI v) (nI (2 ^ (B * (T + O)))) (nI v)
    rw [nI_clamp (show v < 2 ^ 31 by omega), b1, b2, nI_1, cmp_eq] at B1
    have on : ¬ oneC E (2 ^ (B * (T + O))) v → aw_z X (d + 1) y_M_cover Q 66 [some (.ref 69), some (.long (allB E (2 ^ (B * (T + O))))), none, some (.int (nI (v + 1))), none] [] (aw_s I L D) := fun z => ih (v + 1) (by omega) (fun r p => by
      by_cases q : r = v
      · subst q; exact z
      · exact g r (by omega))
    exact b_M_cover_66 (c_M_rows hk sz (B1 (fun z => absurd z c1) (fun _ => vv) (fun _ z => on (fun p => p.1 z)) (fun _ _ => vv) (fun _ x z => hQ v ⟨by omega, ⟨x, z⟩, g⟩) (fun _ _ z => on (fun p => z p.2))))
theorem l_M_cov0 (h : CvM E B T O I L) (hN : allB E (2 ^ (B * (T + O))) ≠ 0 → aw_z X (d + 1) y_M_cover Q 66 [some (.ref 69), some (.long (allB E (2 ^ (B * (T + O))))), none, some (.int (nI 0)), none] [] (aw_s I L D))
    (hQ : allB E (2 ^ (B * (T + O))) = 0 → Q (some (.int 0)) (aw_s (aw_u I 69 71 0) L D)) :
    ∀ (k v : Nat), v + k = 2 ^ (B * (T + O)) → aw_z X (d + 1) y_M_cover Q 18 [some (.ref 69), some (.long (allB E v)), none, some (.int (nI v)), none] [] (aw_s I L D) := by
  obtain ⟨hk, sz, hR, ms⟩ := h
  intro k
  induction k with
  | zero =>
    intro v e
    have ev : v = 2 ^ (B * (T + O)) := by omega
    have c1 : nI (2 ^ (B * (T + O))) ≤ nI v := by rw [nI_leI (by omega) (by omega)]; omega
    refine b_M_cover_18 (c_M_rows hk sz (b_M_cover_23 (fun _ z => ?_) (fun _ z => ?_) (fun z => absurd c1 z) (fun z => absurd c1 z) (fun z => absurd c1 z) (fun z => absurd c1 z)))
    · rw [cmp_eq, ev] at z
      rw [ev]; exact hN z
    · rw [cmp_eq, ev] at z
      exact hQ z
  | succ k ih =>
    intro v e
    have c1 : ¬ nI (2 ^ (B * (T + O))) ≤ nI v := by rw [nI_leI (by omega) (by omega)]; omega
    have vv := aw_in_nI (show v < 4096 by omega) (show 4096 < 2 ^ 31 by decide)
    obtain ⟨b1, b2⟩ := ms v (by omega)
    have B1 := @b_M_cover_23 X d Q I L D (allB E v) (nI v) (nI (2 ^ (B * (T + O)))) (nI v)
    rw [nI_clamp (show v < 2 ^ 31 by omega), b1, b2, nI_1] at B1
    have i1 := ih (v + 1) (by omega)
    rw [allB] at i1
    refine b_M_cover_18 (c_M_rows hk sz (B1 (fun z => absurd z c1) (fun z => absurd z c1) (fun _ => vv) (fun _ z => ?_) (fun _ _ => vv) (fun _ z => ?_)))
    · rw [if_pos z] at i1; exact i1
    · rw [if_neg z] at i1; exact i1
/-- what cover() leaves -/
def FCv (I I' : Nat → Nat → Int32) : Prop := ∀ o k, o ≠ 22 → o ≠ 66 → o ≠ 105 → ¬ (o = 0 ∧ k = 11) → ¬ (o = 69 ∧ (k = 0 ∨ k = 71)) → I' o k = I o k
theorem RWk.fcv {I' : Nat → Nat → Int32} (h : RWk I L) (f : FCv I I') : RWk I' L := h.fr (fun k _ => f 1 k (by decide) (by decide) (by decide) (by omega) (by omega)) (fun o p q => funext fun k => f o k (by omega) (by omega) (by omega) (by omega) (by omega)) (fun _ _ _ => rfl) (fun k p => f 69 k (by decide) (by decide) (by decide) (by omega) (by omega)) (KSl.same (fun o p q => funext fun k => f o k (by omega) (by omega) (by omega) (by omega) (by omega))) (fun o p q => funext fun k => f o k (by omega) (by omega) (by omega) (by omega) (by omega)) (fun _ _ => rfl)
theorem q_cover (hK : RWk I L) (hR : RRow I 2 0 11 66 69 71 105) (hQ : ∀ r I1,
      (∀ (Q2 : Option Value → aw_H → Prop), (∀ I2, RWk I2 L → RRow I2 2 0 11 66 69 71 105 → I2 69 0 = 0 → FCv I I2 → Q2 (some (.int r)) (aw_s I2 L D)) → aw_m X (d2 + 1) y_M_cover [.ref 69] (aw_s I1 L D) Q2) → Q (some (.int r)) (aw_s I1 L D)) :
    aw_m X (d + 4) y_AW_cover [.ref 0] (aw_s I L D) Q := by
  rcases id hK with ⟨a, b⟩ | ⟨S, F, B, T, O, E, n, wl, wc, wi, h⟩
  · refine aw_go rfl rfl (b_AW_cover_0 (fun z => absurd a z) (fun _ => hQ (-1) I (fun Q2 hQ2 => aw_go rfl rfl (b_M_cover_0 (fun z => absurd b z) (fun _ => hQ2 _ hK.z ?_ (au_s _ _ _ _) (fun o k _ _ _ _ p => au_ok (by omega)))))))
    obtain ⟨m, a1, a2, a3, a4⟩ := hR
    exact ⟨m, a1, by rw [au_o (by decide)]; exact a2, by rw [au_k (by decide)]; exact a3, fun j hj => by rw [au_o (by decide), au_o (by decide)]; exact a4 j hj⟩
  · have hk := h.1.2.2.2.1
    have hRw := rows_lt hk
    have n0 : ¬ I 11 0 = 0 := by rw [h.2.2.1.1]; decide
    have m0 : ¬ I 69 36 = 0 := by rw [h.2.2.2.1]; decide
    -- the reference, from what the class left
    have ref : ∀ (I1 : Nat → Nat → Int32) (Q2 : Option Value → aw_H → Prop), (∀ o k, o ≠ 22 → o ≠ 66 → ¬ (o = 0 ∧ k = 11) → I1 o k = I o k) →
        (allB E (2 ^ (B * (T + O))) = 0 → Q2 (some (.int 0)) (aw_s (aw_u (aw_u I1 69 0 0) 69 71 0) L D)) →
        (∀ v, allB E (2 ^ (B * (T + O))) ≠ 0 → Onf E (2 ^ (B * (T + O))) v → Q2 (some (.int 1)) (aw_s (aw_u (aw_u (aw_u I1 69 0 0) 105 0 (nI v)) 69 71 1) L D)) →
        (∀ v w, allB E (2 ^ (B * (T + O))) ≠ 0 → (∀ r, r < 2 ^ (B * (T + O)) → ¬ oneC E (2 ^ (B * (T + O))) r) → CPf E (2 ^ (B * (T + O))) v w → Q2 (some (.int 2)) (aw_s (aw_u (aw_u (aw_u (aw_u I1 69 0 0) 105 0 (nI v)) 105 1 (nI w)) 69 71 2) L D)) →
        (allB E (2 ^ (B * (T + O))) ≠ 0 → (∀ r, r < 2 ^ (B * (T + O)) → ¬ oneC E (2 ^ (B * (T + O))) r) → (∀ v w, ¬ CPr E (2 ^ (B * (T + O))) v w) → Q2 (some (.int (-1))) (aw_s (aw_u I1 69 0 0) L D)) →
        aw_m X (d2 + 1) y_M_cover [.ref 69] (aw_s I1 L D) Q2 := fun I1 Q2 f k0 k1 k2 k3 => by
      have i69 : ∀ k, k ≠ 0 → (aw_u I1 69 0 0) 69 k = I 69 k := fun k p => by rw [au_k p]; exact f 69 k (by decide) (by decide) (by omega)
      have H : CvM E B T O (aw_u I1 69 0 0) L := ⟨hk, ⟨by rw [i69 33 (by decide)]; exact h.2.1.2.2.2.1, by rw [i69 34 (by decide)]; exact h.2.1.2.2.2.2.1, by rw [i69 35 (by decide)]; exact h.2.1.2.2.2.2.2⟩, hRw, fun q hq => by
        obtain ⟨-, a2, -, -, a5, -⟩ := h.2.2.2.2.2.2.1.1 q hq
        rw [au_o (by decide), f 95 q (by decide) (by decide) (by omega)]; exact ⟨a5, a2⟩⟩
      refine aw_go rfl rfl (b_M_cover_0 (fun _ => l_M_cov0 (d := d2) H (fun z => l_M_cov1 (d := d2) H (fun no => l_M_cov2 (d := d2) H (fun y => k3 z no y) (fun v w y => k2 v w z no y) _ 0 (Nat.zero_add _) (fun v' w' p => absurd p (Nat.not_lt_zero v'))) (fun v y => k1 v z y) _ 0 (Nat.zero_add _) (fun r p => absurd p (Nat.not_lt_zero r))) k0 _ 0 (Nat.zero_add _)) (fun z => absurd ((f 69 36 (by decide) (by decide) (by omega)).symm.trans z) m0))
    -- the relation that both leave
    have fin : ∀ (I1 I2 : Nat → Nat → Int32) (m : Nat) (r : Int32) (Q2 : Option Value → aw_H → Prop), (∀ I2, RWk I2 L → RRow I2 2 0 11 66 69 71 105 → I2 69 0 = 0 → FCv I I2 → Q2 (some (.int r)) (aw_s I2 L D)) →
        FCv I I2 → I2 69 0 = 0 → m ≤ 2 → I2 0 11 = nI m → I2 69 71 = nI m → (∀ j, j < m → I2 66 j = I2 105 j) → Q2 (some (.int r)) (aw_s I2 L D) := fun I1 I2 m r Q2 hQ2 f f0 hm g1 g2 g3 => hQ2 I2 (hK.fcv f) ⟨m, hm, g1, g2, g3⟩ f0 f
    refine aw_go rfl rfl (b_AW_cover_0 (fun _ => c_Wk_findCover (d := d) h (fun z => ?_) (fun v I' z y f => ?_) (fun v w I' z no y f => ?_) (fun I' z no y f => ?_)) (fun z => absurd z n0))
    · refine b_AW_cover_23 (fun x => absurd x (by decide)) (fun _ => hQ 0 _ (fun Q2 hQ2 => ref _ Q2 (fun o k p1 p2 p3 => au_ok (by omega)) (fun _ => ?_) (fun v y => absurd z y) (fun v w y => absurd z y) (fun y => absurd z y)))
      exact fin I _ 0 0 Q2 hQ2 (fun o k p1 p2 p3 p4 p5 => by rw [au_ok (by omega), au_ok (by omega), au_ok (by omega)]) (by rw [au_k (by decide), au_s]) (by decide) (by rw [au_o (by decide), au_o (by decide), au_s]; rfl) (au_s _ _ _ _) (fun j hj => absurd hj (Nat.not_lt_zero j))
    · refine b_AW_cover_23 (fun x => absurd x (by decide)) (fun _ => hQ 1 _ (fun Q2 hQ2 => ref _ Q2 (fun o k p1 p2 p3 => by rw [au_ok (by omega), au_o p2, f o p1]) (fun x => absurd x z) (fun v' _ y' => ?_) (fun v' w' _ no _ => absurd y.2.1 (no v y.1)) (fun _ no _ => absurd y.2.1 (no v y.1))))
      have ev := y.u y'
      subst ev
      exact fin I _ 1 1 Q2 hQ2 (fun o k p1 p2 p3 p4 p5 => by rw [au_ok (by omega), au_o p3, au_ok (by omega), au_ok (by omega), au_o p2, f o p1]) (by rw [au_k (by decide), au_o (by decide), au_s]) (by decide) (by rw [au_o (by decide), au_o (by decide), au_o (by decide), au_s]; rfl) (au_s _ _ _ _) (fun j hj => by
        have : j = 0 := by omega
        subst this
        rw [au_o (by decide), au_o (by decide), au_o (by decide), au_o (by decide), au_s, au_o (by decide), au_s])
    · refine b_AW_cover_23 (fun x => absurd x (by decide)) (fun _ => hQ 2 _ (fun Q2 hQ2 => ref _ Q2 (fun o k p1 p2 p3 => by rw [au_ok (by omega), au_o p2, au_o p2, f o p1]) (fun x => absurd x z) (fun v' _ y' => absurd y'.2.1 (no v' y'.1)) (fun v' w' _ _ y' => ?_) (fun _ _ y' => absurd y.1 (y' v w))))
      obtain ⟨ev, ew⟩ := y.u y'
      subst ev; subst ew
      exact fin I _ 2 2 Q2 hQ2 (fun o k p1 p2 p3 p4 p5 => by rw [au_ok (by omega), au_o p3, au_o p3, au_ok (by omega), au_ok (by omega), au_o p2, au_o p2, f o p1]) (by rw [au_k (by decide), au_o (by decide), au_o (by decide), au_s]) (by decide) (by rw [au_o (by decide), au_o (by decide), au_o (by decide), au_o (by decide), au_s]; rfl) (au_s _ _ _ _) (fun j hj => by
        rcases (show j = 0 ∨ j = 1 by omega) with q | q <;> subst q
        · rw [au_o (by decide), au_o (by decide), au_o (by decide), au_o (by decide), au_o (by decide), au_k (by decide), au_s, au_o (by decide), au_k (by decide), au_s]
        · rw [au_o (by decide), au_o (by decide), au_o (by decide), au_o (by decide), au_o (by decide), au_s, au_o (by decide), au_s])
    · refine b_AW_cover_23 (fun _ => hQ (-1) _ (fun Q2 hQ2 => ref _ Q2 (fun o k p1 p2 p3 => by rw [f o p1]) (fun x => absurd x z) (fun v' _ y' => absurd y'.2.1 (no v' y'.1)) (fun v' w' _ _ y' => absurd y'.1 (y v' w')) (fun _ _ _ => ?_))) (fun x => absurd rfl x)
      have i0 : I' 0 11 = I 0 11 := by rw [f 0 (by decide)]
      obtain ⟨m, a1, a2, a3, a4⟩ := hR
      exact fin I _ m (-1) Q2 hQ2 (fun o k p1 p2 p3 p4 p5 => by rw [au_ok (by omega), f o p1]) (au_s _ _ _ _) a1 (by rw [au_o (by decide), i0]; exact a2) (by rw [au_k (by decide), f 69 (by decide)]; exact a3) (fun j hj => by rw [au_o (by decide), au_o (by decide), f 66 (by decide), f 105 (by decide)]; exact a4 j hj)
end COVERM
