/-! PART 64: the class's reading: sums and conditions (the two loops of operands by a short program) -/
theorem uFt_0 {T : TD} {i : Nat} (h : uFt T i = 0) : tK T i = 2 ∨ tK T i = 4 ∨ tK T i = 7 ∨ tK T i = 40 := by
  unfold uFt at h
  split at h
  · next q => exact Or.inl q
  · split at h
    · next q => exact Or.inr (Or.inl q)
    · split at h
      · next q => exact Or.inr (Or.inr (Or.inl q))
      · split at h
        · next q => exact Or.inr (Or.inr (Or.inr q))
        · exact absurd h (by decide)
section KSUM
variable {X : aw_X} {D : Nat → Nat} {c : Nat} {T : TD}
theorem l_Ps_product {u : PT → PR} {N d : Nat} {a : Int32} {Q : Option Value → aw_H → Prop} (hc : c ∈ aw_codes) (hT : tOK T) (hD : D 6 = c) (hu : KC X c T D N y_Ps_unit [.ref 60, .int a] u) (hd : N ≤ d) (hd2 : 1 ≤ d) {I0 : Nat → Nat → Int32} {L0 : Nat → Nat → Int64} : ∀ (f : Nat) (S : PT) (I : Nat → Nat → Int32) (L : Nat → Nat → Int64), f ≤ 501 → KP c T S I L → FRK c I0 I L0 L →
    (∀ v I' L', KRes c T I0 L0 (olp T 42 47 7 8 u f S) v I' L' → Q (some (.int v)) (aw_s I' L' D)) →
    aw_z X (d + 1) y_Ps_product Q 8 [some (.ref 60), some (.int a), some (.int 1), some (.int (nI (501 - f))), none] [] (aw_s I L D) := by
  intro f
  induction f with
  | zero =>
    intro S I L _ h fr hQ
    have k := hQ 1 I L (KRes.ok fr h)
    exact b_Ps_product_8 (fun _ => Or.inr rfl) (fun _ => k) (fun q => absurd (by decide) q) (fun q => absurd (by decide) q) (fun q => absurd (by decide) q) (fun q => absurd (by decide) q) (fun q => absurd (by decide) q) (fun q => absurd (by decide) q)
  | succ f ih =>
    intro S I L hf h fr hQ
    have cc : ((501 : Int32) ≤ nI (501 - (f + 1))) = (501 ≤ 501 - (f + 1)) := nI_le' (a := 501) (by decide) (by omega)
    have en : nI (501 - (f + 1)) + 1 = nI (501 - f) := by rw [nI_1, show 501 - (f + 1) + 1 = 501 - f by omega]
    have B0 := @b_Ps_product_8 X d Q I L D a 1 (nI (501 - (f + 1)))
    have B1 := @b_Ps_product_43 X d Q I L D a (nI (501 - (f + 1)))
    rw [h.tok.1, cc] at B0
    rw [h.tok.1] at B1
    have go : ∀ o : Nat, (if tK T (ti S) = 42 then 7 else 8) = o → (tK T (ti S) = 42 ∨ tK T (ti S) = 47) → aw_z X (d + 1) y_Ps_product Q 62 [some (.ref 60), some (.int a), none, some (.int (nI (501 - (f + 1)))), none] [.int (nI (opC o))] (aw_s I L D) := by
      intro o ho hK
      have e : olp T 42 47 7 8 u (f + 1) S = pb (u (adv S)) (fun S' => olp T 42 47 7 8 u f (em o 0 S')) := by rw [olp, if_pos hK, ho]
      rw [e] at hQ
      have n0 : tK T (ti S) ≠ 0 := by rcases hK with q | q <;> rw [q] <;> decide
      have n1 : tK T (ti S) ≠ 1 := by rcases hK with q | q <;> rw [q] <;> decide
      refine b_Ps_product_62 (k_adv hc hT h n0 n1 (fun I1 k1 f1 => b_Ps_product_71 (hu d hd _ I1 L _ k1 (fun v I2 L2 r => ?_))))
      have r := r.tr (fr.tr f1)
      cases hR : u (adv S) with
      | error e =>
        rw [hR] at r hQ
        obtain rfl : v = 0 := r.2.1
        refine b_Ps_product_76 hD hc (k_addE hc r (fun I3 r3 => b_Ps_product_87 ?_))
        have k := hQ 0 I3 L2 r3
        exact b_Ps_product_8 (fun _ => Or.inl rfl) (fun _ => k) (fun _ _ => Or.inl rfl) (fun _ _ => k) (fun _ q => absurd rfl q) (fun _ q => absurd rfl q) (fun _ q => absurd rfl q) (fun _ q => absurd rfl q)
      | ok S2 =>
        rw [hR] at r hQ
        obtain ⟨fr2, rfl, k2⟩ := r
        refine b_Ps_product_76 hD hc (k_add hc k2 (fun I3 k3 f3 => b_Ps_product_87 ?_))
        rw [en]
        exact ih _ I3 L2 (by omega) k3 (fr2.tr f3.k) hQ
    refine B0 (fun q => absurd q (by omega)) (fun q => absurd q (by omega)) (fun _ q => absurd q (by decide)) (fun _ q => absurd q (by decide)) (fun _ _ q => B1 (fun q2 => absurd q q2) (fun _ => go 7 (if_pos q) (Or.inl q))) (fun _ _ _ _ => Or.inr rfl) (fun _ _ q q2 => hQ 1 I L ?_) (fun _ _ q q2 => B1 (fun _ => go 8 (if_neg q) (Or.inr q2)) (fun q3 => absurd q3 q))
    rw [olp, if_neg (fun h => h.elim q q2)]
    exact KRes.ok fr h
theorem k_Ps_product {u : PT → PR} {N : Nat} {a : Int32} (hc : c ∈ aw_codes) (hT : tOK T) (hD : D 6 = c) (hu : KC X c T D N y_Ps_unit [.ref 60, .int a] u) : KC X c T D (N + 2) y_Ps_product [.ref 60, .int a] (prd T u) := by
  intro e he S I L Q h hQ
  obtain ⟨d, rfl⟩ : ∃ d, e = d + 1 := ⟨e - 1, by omega⟩
  refine aw_go rfl rfl (b_Ps_product_0 (hu d (by omega) S I L _ h (fun v I1 L1 r => b_Ps_product_5 ?_)))
  cases hR : u S with
  | error e =>
    rw [hR] at r
    obtain rfl : v = 0 := r.2.1
    have k := hQ 0 I1 L1 (by unfold prd; rw [hR]; exact r)
    exact b_Ps_product_8 (fun _ => Or.inl rfl) (fun _ => k) (fun _ _ => Or.inl rfl) (fun _ _ => k) (fun _ q => absurd rfl q) (fun _ q => absurd rfl q) (fun _ q => absurd rfl q) (fun _ q => absurd rfl q)
  | ok S2 =>
    rw [hR] at r
    obtain ⟨fr2, rfl, k2⟩ := r
    exact l_Ps_product hc hT hD hu (by omega) (by omega) 501 S2 I1 L1 (by omega) k2 fr2 (fun v I' L' r => hQ v I' L' (by unfold prd; rw [hR]; exact r))
theorem l_Ps_sum {u : PT → PR} {N d : Nat} {a : Int32} {Q : Option Value → aw_H → Prop} (hc : c ∈ aw_codes) (hT : tOK T) (hD : D 6 = c) (hu : KC X c T D N y_Ps_product [.ref 60, .int a] u) (hd : N ≤ d) (hd2 : 1 ≤ d) {I0 : Nat → Nat → Int32} {L0 : Nat → Nat → Int64} : ∀ (f : Nat) (S : PT) (I : Nat → Nat → Int32) (L : Nat → Nat → Int64), f ≤ 501 → KP c T S I L → FRK c I0 I L0 L →
    (∀ v I' L', KRes c T I0 L0 (olp T 43 45 5 6 u f S) v I' L' → Q (some (.int v)) (aw_s I' L' D)) →
    aw_z X (d + 1) y_Ps_sum Q 8 [some (.ref 60), some (.int a), some (.int 1), some (.int (nI (501 - f))), none] [] (aw_s I L D) := by
  intro f
  induction f with
  | zero =>
    intro S I L _ h fr hQ
    have k := hQ 1 I L (KRes.ok fr h)
    exact b_Ps_sum_8 (fun _ => Or.inr rfl) (fun _ => k) (fun q => absurd (by decide) q) (fun q => absurd (by decide) q) (fun q => absurd (by decide) q) (fun q => absurd (by decide) q) (fun q => absurd (by decide) q) (fun q => absurd (by decide) q)
  | succ f ih =>
    intro S I L hf h fr hQ
    have cc : ((501 : Int32) ≤ nI (501 - (f + 1))) = (501 ≤ 501 - (f + 1)) := nI_le' (a := 501) (by decide) (by omega)
    have en : nI (501 - (f + 1)) + 1 = nI (501 - f) := by rw [nI_1, show 501 - (f + 1) + 1 = 501 - f by omega]
    have B0 := @b_Ps_sum_8 X d Q I L D a 1 (nI (501 - (f + 1)))
    have B1 := @b_Ps_sum_43 X d Q I L D a (nI (501 - (f + 1)))
    rw [h.tok.1, cc] at B0
    rw [h.tok.1] at B1
    have go : ∀ o : Nat, (if tK T (ti S) = 43 then 5 else 6) = o → (tK T (ti S) = 43 ∨ tK T (ti S) = 45) → aw_z X (d + 1) y_Ps_sum Q 60 [some (.ref 60), some (.int a), none, some (.int (nI (501 - (f + 1)))), none] [.int (nI (opC o))] (aw_s I L D) := by
      intro o ho hK
      have e : olp T 43 45 5 6 u (f + 1) S = pb (u (adv S)) (fun S' => olp T 43 45 5 6 u f (em o 0 S')) := by rw [olp, if_pos hK, ho]
      rw [e] at hQ
      have n0 : tK T (ti S) ≠ 0 := by rcases hK with q | q <;> rw [q] <;> decide
      have n1 : tK T (ti S) ≠ 1 := by rcases hK with q | q <;> rw [q] <;> decide
      refine b_Ps_sum_60 (k_adv hc hT h n0 n1 (fun I1 k1 f1 => b_Ps_sum_69 (hu d hd _ I1 L _ k1 (fun v I2 L2 r => ?_))))
      have r := r.tr (fr.tr f1)
      cases hR : u (adv S) with
      | error e =>
        rw [hR] at r hQ
        obtain rfl : v = 0 := r.2.1
        refine b_Ps_sum_74 hD hc (k_addE hc r (fun I3 r3 => b_Ps_sum_85 ?_))
        have k := hQ 0 I3 L2 r3
        exact b_Ps_sum_8 (fun _ => Or.inl rfl) (fun _ => k) (fun _ _ => Or.inl rfl) (fun _ _ => k) (fun _ q => absurd rfl q) (fun _ q => absurd rfl q) (fun _ q => absurd rfl q) (fun _ q => absurd rfl q)
      | ok S2 =>
        rw [hR] at r hQ
        obtain ⟨fr2, rfl, k2⟩ := r
        refine b_Ps_sum_74 hD hc (k_add hc k2 (fun I3 k3 f3 => b_Ps_sum_85 ?_))
        rw [en]
        exact ih _ I3 L2 (by omega) k3 (fr2.tr f3.k) hQ
    refine B0 (fun q => absurd q (by omega)) (fun q => absurd q (by omega)) (fun _ q => absurd q (by decide)) (fun _ q => absurd q (by decide)) (fun _ _ q => B1 (fun q2 => absurd q q2) (fun _ => go 5 (if_pos q) (Or.inl q))) (fun _ _ _ _ => Or.inr rfl) (fun _ _ q q2 => hQ 1 I L ?_) (fun _ _ q q2 => B1 (fun _ => go 6 (if_neg q) (Or.inr q2)) (fun q3 => absurd q3 q))
    rw [olp, if_neg (fun h => h.elim q q2)]
    exact KRes.ok fr h
theorem k_Ps_sum {u : PT → PR} {N : Nat} {a : Int32} (hc : c ∈ aw_codes) (hT : tOK T) (hD : D 6 = c) (hu : KC X c T D N y_Ps_product [.ref 60, .int a] u) : KC X c T D (N + 2) y_Ps_sum [.ref 60, .int a] (smm T u) := by
  intro e he S I L Q h hQ
  obtain ⟨d, rfl⟩ : ∃ d, e = d + 1 := ⟨e - 1, by omega⟩
  refine aw_go rfl rfl (b_Ps_sum_0 (hu d (by omega) S I L _ h (fun v I1 L1 r => b_Ps_sum_5 ?_)))
  cases hR : u S with
  | error e =>
    rw [hR] at r
    obtain rfl : v = 0 := r.2.1
    have k := hQ 0 I1 L1 (by unfold smm; rw [hR]; exact r)
    exact b_Ps_sum_8 (fun _ => Or.inl rfl) (fun _ => k) (fun _ _ => Or.inl rfl) (fun _ _ => k) (fun _ q => absurd rfl q) (fun _ q => absurd rfl q) (fun _ q => absurd rfl q) (fun _ q => absurd rfl q)
  | ok S2 =>
    rw [hR] at r
    obtain ⟨fr2, rfl, k2⟩ := r
    exact l_Ps_sum hc hT hD hu (by omega) (by omega) 501 S2 I1 L1 (by omega) k2 fr2 (fun v I' L' r => hQ v I' L' (by unfold smm; rw [hR]; exact r))
theorem lvl {k : Nat} (h1 : 0 < k) (h2 : k ≤ 10) : nI (10 - k) + 1 = nI (10 - (k - 1)) := by rw [nI_1, show 10 - k + 1 = 10 - (k - 1) by omega]
theorem k_place {k N : Nat} {inn : PT → PR} (hc : c ∈ aw_codes) (hT : tOK T) (hk : k ≤ 10) (hin : 0 < k → KC X c T D N y_Ps_sum [.ref 60, .int (nI (10 - (k - 1)))] inn) : KC X c T D (N + 3) y_Ps_place [.ref 60, .int (nI (10 - k))] (plc T k inn) := by
  intro e he S I L Q h hQ
  obtain ⟨d, rfl⟩ : ∃ d, e = d + 2 := ⟨e - 2, by omega⟩
  refine aw_go rfl rfl (b_Ps_place_0 (k_opening hc hT hk h (by decide) (by decide) (fun v I1 L1 r => ?_)))
  unfold plc at hQ
  cases hR : opn T 91 k S with
  | error e =>
    rw [hR] at r hQ
    obtain rfl : v = 0 := r.2.1
    exact b_Ps_place_7 (fun _ => hQ 0 I1 L1 r) (fun q => absurd rfl q)
  | ok S1 =>
    rw [hR] at r hQ
    obtain ⟨fr1, rfl, k1⟩ := r
    have hk0 : 0 < k := by
      rcases Nat.eq_zero_or_pos k with q | q
      · subst q; unfold opn at hR; split at hR <;> simp at hR
      · exact q
    refine b_Ps_place_7 (fun q => absurd q (by decide)) (fun _ => ?_)
    rw [lvl hk0 hk]
    refine hin hk0 (d + 1) (by omega) S1 I1 L1 _ k1 (fun v I2 L2 r => ?_)
    have r := r.tr fr1
    rw [pb_ok] at hQ
    cases hR2 : inn S1 with
    | error e =>
      rw [hR2] at r hQ
      obtain rfl : v = 0 := r.2.1
      exact b_Ps_place_17 (fun _ => hQ 0 I2 L2 r) (fun q => absurd rfl q)
    | ok S2 =>
      rw [hR2] at r hQ
      obtain ⟨fr2, rfl, k2⟩ := r
      refine b_Ps_place_17 (fun q => absurd q (by decide)) (fun _ => k_sign hc hT k2 (by decide) (by decide) (fun v I3 L3 r => ?_))
      have r := r.tr fr2
      rcases r.e01 with rfl | rfl
      · exact b_Ps_place_26 (fun _ => hQ 0 I3 L3 r) (fun q => absurd rfl q)
      · exact b_Ps_place_26 (fun q => absurd q (by decide)) (fun _ => hQ 1 I3 L3 r)
theorem k_unit {k N : Nat} {inn : PT → PR} (hc : c ∈ aw_codes) (hT : tOK T) (hD : D 6 = c) (hk : k ≤ 10) (hin : 0 < k → KC X c T D N y_Ps_sum [.ref 60, .int (nI (10 - (k - 1)))] inn) : KC X c T D (N + 5) y_Ps_unit [.ref 60, .int (nI (10 - k))] (unF T k inn) := by
  intro e he S I L Q h hQ
  obtain ⟨b1, b2⟩ := codes_bd hc
  obtain ⟨d, rfl⟩ : ∃ d, e = d + 3 := ⟨e - 3, by omega⟩
  refine aw_go rfl rfl (b_Ps_unit_0 (k_unitFault h ?_))
  have e6 : aw_u I c 7 (I c 7 + 1) 62 = I 62 := au_o (by omega)
  have cu : (I c 7 < (150 : Int32)) = (cU S < 150) := by rw [h.2.2.2.2.1]; exact nI_lt' (b := 150) (by have := h.2.2.2.2.2.2.2.2.2.2.2.2.2.1; omega) (by decide)
  have B0 := @b_Ps_unit_4 X (d + 2) Q I L D (nI (10 - k)) (uFt T (ti S)) c hD hc
  rw [e6, h.tok.1, h.tok.2.2.1, cu] at B0
  unfold unF at hQ
  refine B0 (fun q q2 q3 => ?_) (fun q q2 q3 => ?_) (fun q q2 => ?_) (fun q => ?_)
  · rw [if_neg (fun x => x q), if_neg (by omega), if_neg q3] at hQ
    obtain ⟨kU, fU⟩ := h.unU hc q2
    have hK := uFt_0 q
    have n0 : tK T (ti S) ≠ 0 := by rcases hK with q | q | q | q <;> rw [q] <;> decide
    have n1 : tK T (ti S) ≠ 1 := by rcases hK with q | q | q | q <;> rw [q] <;> decide
    refine k_adv hc hT kU n0 n1 (fun I1 k1 f1 => ?_)
    have fr1 := fU.k.tr f1
    refine b_Ps_unit_112 (fun q7 => b_Ps_unit_126 (b_Ps_unit_131 hD hc (fun q4 q2' => ?_) (fun q4 q2' => ?_) (fun q4 => ?_))) (fun q7 => ?_)
    · rcases hK with g | g | g | g
      · exact absurd g q2'
      · exact absurd g q4
      · exact absurd g q7
      · exact absurd g q3
    · rw [if_neg q7, if_neg q4] at hQ
      exact b_Ps_unit_164 hc (k_add (o := 3) hc k1 (fun I2 k2 f2 => b_Ps_unit_169 (Or.inr rfl) (hQ 1 I2 L (KRes.ok (fr1.tr f2.k) k2))))
    · rw [if_neg q7, if_pos q4] at hQ
      exact k_addNumber hc k1 (fun I2 k2 f2 => b_Ps_unit_147 (b_Ps_unit_169 (Or.inr rfl) (hQ 1 I2 L (KRes.ok (fr1.tr f2.k) k2))))
    · rw [if_pos q7] at hQ
      have v0 : tV T (ti S) = 0 := hT.2.2.2.2.2.2 (ti S) h.tok.2.2.2 q7
      refine k_place hc hT hk hin (d + 2) (by omega) _ I1 L _ k1 (fun v I2 L2 r => ?_)
      have r := r.tr fr1
      rw [v0]
      cases hR : plc T k inn (adv (unU S)) with
      | error e =>
        rw [hR] at r hQ
        obtain rfl : v = 0 := r.2.1
        refine b_Ps_unit_123 (fun _ => b_Ps_unit_131 hD hc (fun _ _ => b_Ps_unit_164 hc (k_addE (o := 4) hc r (fun I3 r3 => b_Ps_unit_169 (Or.inl rfl) (hQ 0 I3 L2 r3)))) (fun _ q => ?_) (fun q => ?_)) (fun q => absurd rfl q)
        · rw [q7] at q; exact absurd q (by decide)
        · rw [q7] at q; exact absurd q (by decide)
      | ok S2 =>
        rw [hR] at r hQ
        obtain ⟨fr2, rfl, k2⟩ := r
        refine b_Ps_unit_123 (fun q => absurd q (by decide)) (fun _ => b_Ps_unit_126 (b_Ps_unit_131 hD hc (fun _ _ => b_Ps_unit_164 hc (k_add (o := 4) hc k2 (fun I3 k3 f3 => b_Ps_unit_169 (Or.inr rfl) (hQ 1 I3 L2 (KRes.ok (fr2.tr f3.k) k3))))) (fun _ q => ?_) (fun q => ?_)))
        · rw [q7] at q; exact absurd q (by decide)
        · rw [q7] at q; exact absurd q (by decide)
  · rw [if_neg (fun x => x q), if_neg (by omega), if_pos q3] at hQ
    obtain ⟨kU, fU⟩ := h.unU hc q2
    refine k_opening hc hT hk kU (by decide) (by decide) (fun v I1 L1 r => ?_)
    have r := r.tr fU.k
    cases hR : opn T 40 k (unU S) with
    | error e =>
      rw [hR] at r hQ
      obtain rfl : v = 0 := r.2.1
      exact b_Ps_unit_68 (fun _ => hQ 0 I1 L1 r) (fun q => absurd rfl q)
    | ok S1 =>
      rw [hR] at r hQ
      obtain ⟨fr1, rfl, k1⟩ := r
      have hk0 : 0 < k := by
        rcases Nat.eq_zero_or_pos k with q | q
        · subst q; unfold opn at hR; split at hR <;> simp at hR
        · exact q
      refine b_Ps_unit_68 (fun q => absurd q (by decide)) (fun _ => ?_)
      rw [lvl hk0 hk]
      refine hin hk0 (d + 2) (by omega) S1 I1 L1 _ k1 (fun v I2 L2 r => ?_)
      have r := r.tr fr1
      rw [pb_ok] at hQ
      cases hR2 : inn S1 with
      | error e =>
        rw [hR2] at r hQ
        obtain rfl : v = 0 := r.2.1
        exact b_Ps_unit_78 (fun _ => hQ 0 I2 L2 r) (fun q => absurd rfl q)
      | ok S2 =>
        rw [hR2] at r hQ
        obtain ⟨fr2, rfl, k2⟩ := r
        refine b_Ps_unit_78 (fun q => absurd q (by decide)) (fun _ => k_sign hc hT k2 (by decide) (by decide) (fun v I3 L3 r => ?_))
        have r := r.tr fr2
        rcases r.e01 with rfl | rfl
        · exact b_Ps_unit_87 (fun _ => hQ 0 I3 L3 r) (fun q => absurd rfl q)
        · exact b_Ps_unit_87 (fun q => absurd q (by decide)) (fun _ => hQ 1 I3 L3 r)
  · rw [if_neg (fun x => x q), if_pos (by omega)] at hQ
    exact k_fail hc h (fun I' r => b_Ps_unit_33 (Or.inl rfl) (hQ 0 I' L r))
  · rw [if_pos q] at hQ
    exact k_fail hc h (fun I' r => b_Ps_unit_14 (Or.inl rfl) (hQ 0 I' L r))
/-- a SUM -/
theorem k_rdI (hc : c ∈ aw_codes) (hT : tOK T) (hD : D 6 = c) : ∀ k, k ≤ 10 → KC X c T D (9 * (k + 1) + 2) y_Ps_sum [.ref 60, .int (nI (10 - k))] (rdI T (k + 1))
  | 0, hk => fun e he S I L Q h hQ => k_Ps_sum hc hT hD (k_Ps_product hc hT hD (k_unit (N := 0) hc hT hD hk (fun h => absurd h (Nat.lt_irrefl 0)))) e (by omega) S I L Q h hQ
  | k + 1, hk => fun e he S I L Q h hQ => k_Ps_sum hc hT hD (k_Ps_product hc hT hD (k_unit (N := 9 * (k + 1) + 2) hc hT hD hk (fun _ => k_rdI hc hT hD k (by omega)))) e (by omega) S I L Q h hQ
theorem k_test (hc : c ∈ aw_codes) (hT : tOK T) (hD : D 6 = c) {k : Nat} (hk : k ≤ 10) : KC X c T D (9 * (k + 1) + 3) y_Ps_test [.ref 60, .int (nI (10 - k))] (tst T k) := by
  intro e he S I L Q h hQ
  obtain ⟨d, rfl⟩ : ∃ d, e = d + 1 := ⟨e - 1, by omega⟩
  refine aw_go rfl rfl (b_Ps_test_0 (k_rdI hc hT hD k hk d (by omega) S I L _ h (fun v I1 L1 r => ?_)))
  unfold tst at hQ
  cases hR : rdI T (k + 1) S with
  | error e =>
    rw [hR] at r hQ
    obtain rfl : v = 0 := r.2.1
    exact b_Ps_test_5 (fun q => absurd rfl q) (fun _ => hQ 0 I1 L1 r)
  | ok S1 =>
    rw [hR] at r hQ
    obtain ⟨fr1, rfl, k1⟩ := r
    rw [pb_ok] at hQ
    have B0 := @b_Ps_test_5 X d Q I1 L1 D (nI (10 - k)) 1
    rw [k1.tok.1] at B0
    refine B0 (fun _ => ?_) (fun q => absurd q (by decide))
    have good : ∀ o : Nat, rlo T (ti S1) = o → (tK T (ti S1) = 60 ∨ tK T (ti S1) = 61 ∨ tK T (ti S1) = 62 ∨ tK T (ti S1) = 35) → nI (opC o) ≠ -1 → aw_z X (d + 1) y_Ps_test Q 20 [some (.ref 60), some (.int (nI (10 - k))), none, none] [.int (nI (opC o))] (aw_s I1 L1 D) := by
      intro o ho hK hne
      rw [if_pos hK, ho] at hQ
      have n0 : tK T (ti S1) ≠ 0 := by rcases hK with q | q | q | q <;> rw [q] <;> decide
      have n1 : tK T (ti S1) ≠ 1 := by rcases hK with q | q | q | q <;> rw [q] <;> decide
      refine b_Ps_test_20 (fun _ => k_adv hc hT k1 n0 n1 (fun I2 k2 f2 => b_Ps_test_39 (k_rdI hc hT hD k hk d (by omega) _ I2 L1 _ k2 (fun v I3 L3 r => ?_)))) (fun q => absurd q hne)
      have r := r.tr (fr1.tr f2)
      cases hR2 : rdI T (k + 1) (adv S1) with
      | error e =>
        rw [hR2] at r hQ
        obtain rfl : v = 0 := r.2.1
        exact b_Ps_test_44 hD hc (k_addE hc r (fun I4 r4 => b_Ps_test_54 (Or.inl rfl) (hQ 0 I4 L3 r4)))
      | ok S2 =>
        rw [hR2] at r hQ
        obtain ⟨fr2, rfl, k3⟩ := r
        exact b_Ps_test_44 hD hc (k_add hc k3 (fun I4 k4 f4 => b_Ps_test_54 (Or.inr rfl) (hQ 1 I4 L3 (KRes.ok (fr2.tr f4.k) k4))))
    refine aw_go rfl rfl (b_Ps_relationOp_0 (fun q => ?_) (fun q q2 => ?_) (fun q q2 q3 => ?_) (fun q q2 q3 q4 => ?_) (fun q q2 q3 q4 => ?_))
    · exact good 12 (by unfold rlo; rw [q]; decide) (Or.inr (Or.inr (Or.inr q))) (by decide)
    · exact good 9 (by unfold rlo; rw [if_pos q2]) (Or.inl q2) (by decide)
    · exact good 10 (by unfold rlo; rw [if_neg q2, if_pos q3]) (Or.inr (Or.inl q3)) (by decide)
    · exact good 11 (by unfold rlo; rw [if_neg q2, if_neg q3, if_pos q4]) (Or.inr (Or.inr (Or.inl q4))) (by decide)
    · rw [if_neg (fun x => x.elim q2 (fun x => x.elim q3 (fun x => x.elim q4 q)))] at hQ
      exact b_Ps_test_20 (fun q => absurd rfl q) (fun _ => k_fail hc k1 (fun I' r => b_Ps_test_31 (Or.inl rfl) (hQ 0 I' L1 (r.tr fr1))))
theorem l_cond (hc : c ∈ aw_codes) (hT : tOK T) (hD : D 6 = c) {k d : Nat} (hk : k ≤ 10) (hd : 9 * (k + 1) + 3 ≤ d) {Q : Option Value → aw_H → Prop} {I0 : Nat → Nat → Int32} {L0 : Nat → Nat → Int64} : ∀ (f : Nat) (w : Bool) (S : PT) (I : Nat → Nat → Int32) (L : Nat → Nat → Int64), f ≤ 501 → KP c T S I L → FRK c I0 I L0 L →
    (∀ v I' L', KRes c T I0 L0 (clp T k f w S) v I' L' → Q (some (.int v)) (aw_s I' L' D)) →
    aw_z X (d + 1) y_Ps_cond Q 11 [some (.ref 60), some (.int (nI (10 - k))), some (.int 1), some (.int (p_b w)), some (.int (nI (501 - f))), none] [] (aw_s I L D) := by
  have fin : ∀ (w : Bool) (S : PT) (I : Nat → Nat → Int32) (L : Nat → Nat → Int64), KP c T S I L → FRK c I0 I L0 L → (∀ v I' L', KRes c T I0 L0 (.ok (if w = true then em 14 0 S else S)) v I' L' → Q (some (.int v)) (aw_s I' L' D)) →
      aw_z X (d + 1) y_Ps_cond Q 123 [some (.ref 60), none, some (.int 1), some (.int (p_b w)), none, none] [] (aw_s I L D) := by
    intro w S I L h fr hQ
    cases w with
    | false => exact b_Ps_cond_123 hD hc (fun _ => b_Ps_cond_137 (Or.inr rfl) (hQ 1 I L (KRes.ok fr h))) (fun q => absurd rfl q)
    | true => exact b_Ps_cond_123 hD hc (fun q => absurd q (by decide)) (fun _ => k_add (o := 14) hc h (fun I2 k2 f2 => b_Ps_cond_137 (Or.inr rfl) (hQ 1 I2 L (KRes.ok (fr.tr f2.k) k2))))
  have err : ∀ (e : Int32 × Nat) (w : Bool) (x : Int32) (I : Nat → Nat → Int32) (L : Nat → Nat → Int64), KRes c T I0 L0 (.error e) 0 I L → (∀ v I' L', KRes c T I0 L0 (.error e) v I' L' → Q (some (.int v)) (aw_s I' L' D)) →
      aw_z X (d + 1) y_Ps_cond Q 11 [some (.ref 60), some (.int (nI (10 - k))), some (.int 0), some (.int (p_b w)), some (.int x), none] [] (aw_s I L D) := by
    intro e w x I L r hQ
    have k123 : aw_z X (d + 1) y_Ps_cond Q 123 [some (.ref 60), none, some (.int 0), some (.int (p_b w)), none, none] [] (aw_s I L D) := by
      cases w with
      | false => exact b_Ps_cond_123 hD hc (fun _ => b_Ps_cond_137 (Or.inl rfl) (hQ 0 I L r)) (fun q => absurd rfl q)
      | true => exact b_Ps_cond_123 hD hc (fun q => absurd q (by decide)) (fun _ => k_addE (o := 14) hc r (fun I2 r2 => b_Ps_cond_137 (Or.inl rfl) (hQ 0 I2 L r2)))
    exact b_Ps_cond_11 (fun _ => k123) (fun _ _ => k123) (fun _ q => absurd rfl q)
  intro f
  induction f with
  | zero =>
    intro w S I L _ h fr hQ
    exact b_Ps_cond_11 (fun _ => fin w S I L h fr hQ) (fun q => absurd (by decide) q) (fun q => absurd (by decide) q)
  | succ f ih =>
    intro w S I L hf h fr hQ
    have cc : ((501 : Int32) ≤ nI (501 - (f + 1))) = (501 ≤ 501 - (f + 1)) := nI_le' (a := 501) (by decide) (by omega)
    have en : nI (501 - (f + 1)) + 1 = nI (501 - f) := by rw [nI_1, show 501 - (f + 1) + 1 = 501 - f by omega]
    have B0 := @b_Ps_cond_11 X d Q I L D (nI (10 - k)) 1 (p_b w) (nI (501 - (f + 1)))
    have B3 := fun s0 => @b_Ps_cond_33 X d Q I L D (nI (10 - k)) 1 (p_b w) (nI (501 - (f + 1))) s0
    rw [cc, h.tok.1] at B0
    simp only [h.tok.1] at B3
    refine B0 (fun q => absurd q (by omega)) (fun _ q => absurd q (by decide)) (fun _ _ => aw_go rfl rfl (b_Ps_joins_0 (fun q => ?_) (fun q q2 => ?_) (fun q q2 => ?_)))
    · have n15 : ¬ tK T (ti S) = 15 := by rw [q]; decide
      have e : clp T k (f + 1) w S = pb (tst T k (adv S)) (fun S' => clp T k f w (em 13 0 S')) := by rw [clp, if_neg n15, if_pos q]
      rw [e] at hQ
      refine B3 1 (fun q => absurd q (by decide)) (fun _ _ => b_Ps_cond_53 hD hc (fun _ => ?_) (fun q => absurd rfl q) (fun q => absurd rfl q)) (fun _ q2 => absurd q2 n15)
      have k88 : aw_z X (d + 1) y_Ps_cond Q 88 [some (.ref 60), some (.int (nI (10 - k))), none, none, some (.int (nI (501 - (f + 1)))), some (.int 0)] [.int (p_b w)] (aw_s I L D) := by
        refine b_Ps_cond_88 (k_adv hc hT h (by rw [q]; decide) (by rw [q]; decide) (fun I1 k1 f1 => b_Ps_cond_96 (k_test hc hT hD hk d (by omega) _ I1 L _ k1 (fun v I2 L2 r => ?_))))
        have r := r.tr (fr.tr f1)
        cases hR : tst T k (adv S) with
        | error e =>
          rw [hR] at r hQ
          obtain rfl : v = 0 := r.2.1
          exact b_Ps_cond_101 hD hc (fun q => absurd rfl q) (fun _ => k_addE (o := 13) hc r (fun I3 r3 => b_Ps_cond_117 (err e w _ I3 L2 r3 hQ)))
        | ok S2 =>
          rw [hR] at r hQ
          obtain ⟨fr2, rfl, k2⟩ := r
          refine b_Ps_cond_101 hD hc (fun q => absurd rfl q) (fun _ => k_add (o := 13) hc k2 (fun I3 k3 f3 => b_Ps_cond_117 ?_))
          rw [en]
          exact ih w _ I3 L2 (by omega) k3 (fr2.tr f3.k) hQ
      cases w with
      | false => exact b_Ps_cond_74 (fun q => absurd rfl q) (fun _ _ => k88) (fun _ q => absurd rfl q)
      | true => exact b_Ps_cond_74 (fun _ => b_Ps_cond_83 k88) (fun q => absurd q (by decide)) (fun q => absurd q (by decide))
    · have e : clp T k (f + 1) w S = .ok (if w = true then em 14 0 S else S) := by rw [clp, if_neg q2, if_neg q]
      rw [e] at hQ
      exact B3 0 (fun _ => fin w S I L h fr hQ) (fun q => absurd rfl q) (fun q => absurd rfl q)
    · have e : clp T k (f + 1) w S = pb (tst T k (adv (if w = true then em 14 0 S else S))) (clp T k f true) := by rw [clp, if_pos q2]
      rw [e] at hQ
      have k88 : ∀ (S1 : PT) (I1 : Nat → Nat → Int32), (∀ v I' L', KRes c T I0 L0 (pb (tst T k (adv S1)) (clp T k f true)) v I' L' → Q (some (.int v)) (aw_s I' L' D)) → ti S1 = ti S → KP c T S1 I1 L → FRK c I0 I1 L0 L → aw_z X (d + 1) y_Ps_cond Q 88 [some (.ref 60), some (.int (nI (10 - k))), none, none, some (.int (nI (501 - (f + 1)))), some (.int 1)] [.int 1] (aw_s I1 L D) := by
        intro S1 I1 hQ ht h1 fr1
        refine b_Ps_cond_88 (k_adv hc hT h1 (by rw [ht, q2]; decide) (by rw [ht, q2]; decide) (fun I2 k2 f2 => b_Ps_cond_96 (k_test hc hT hD hk d (by omega) _ I2 L _ k2 (fun v I3 L3 r => ?_))))
        have r := r.tr (fr1.tr f2)
        cases hR : tst T k (adv S1) with
        | error e =>
          rw [hR] at r hQ
          obtain rfl : v = 0 := r.2.1
          exact b_Ps_cond_101 hD hc (fun _ => b_Ps_cond_117 (err e true _ I3 L3 r hQ)) (fun q => absurd q (by decide))
        | ok S2 =>
          rw [hR] at r hQ
          obtain ⟨fr2, rfl, k3⟩ := r
          refine b_Ps_cond_101 hD hc (fun _ => b_Ps_cond_117 ?_) (fun q => absurd q (by decide))
          rw [en]
          exact ih true _ I3 L3 (by omega) k3 fr2 hQ
      refine B3 1 (fun q => absurd q (by decide)) (fun _ q3 => absurd q2 q3) (fun _ _ => ?_)
      cases w with
      | false => exact b_Ps_cond_53 hD hc (fun q => absurd q (by decide)) (fun _ _ => b_Ps_cond_74 (fun q => absurd rfl q) (fun _ q => absurd q (by decide)) (fun _ _ => b_Ps_cond_83 (k88 S I hQ rfl h fr))) (fun _ q => absurd rfl q)
      | true => exact b_Ps_cond_53 hD hc (fun q => absurd q (by decide)) (fun _ q => absurd q (by decide)) (fun _ _ => k_add (o := 14) hc h (fun I1 k1 f1 => b_Ps_cond_74 (fun _ => b_Ps_cond_83 (k88 _ I1 hQ rfl k1 (fr.tr f1.k))) (fun q => absurd q (by decide)) (fun q => absurd q (by decide))))
theorem k_cond (hc : c ∈ aw_codes) (hT : tOK T) (hD : D 6 = c) {k : Nat} (hk : k ≤ 10) : KC X c T D (9 * (k + 1) + 4) y_Ps_cond [.ref 60, .int (nI (10 - k))] (cnd T k) := by
  intro e he S I L Q h hQ
  obtain ⟨d, rfl⟩ : ∃ d, e = d + 1 := ⟨e - 1, by omega⟩
  refine aw_go rfl rfl (b_Ps_cond_0 (k_test hc hT hD hk d (by omega) S I L _ h (fun v I1 L1 r => b_Ps_cond_5 ?_)))
  unfold cnd at hQ
  cases hR : tst T k S with
  | error e =>
    rw [hR] at r hQ
    obtain rfl : v = 0 := r.2.1
    have k123 : aw_z X (d + 1) y_Ps_cond Q 123 [some (.ref 60), none, some (.int 0), some (.int 0), none, none] [] (aw_s I1 L1 D) := b_Ps_cond_123 hD hc (fun _ => b_Ps_cond_137 (Or.inl rfl) (hQ 0 I1 L1 r)) (fun q => absurd rfl q)
    exact b_Ps_cond_11 (fun _ => k123) (fun _ _ => k123) (fun _ q => absurd rfl q)
  | ok S2 =>
    rw [hR] at r hQ
    obtain ⟨fr2, rfl, k2⟩ := r
    exact l_cond hc hT hD hk (by omega) 501 false S2 I1 L1 (by omega) k2 fr2 hQ
end KSUM
