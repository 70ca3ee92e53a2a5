/-! PART 73: the reference's reading: one unit -/
section MUN
variable {X : aw_X} {d : Nat} {Q : Option Value → aw_H → Prop} {I : Nat → Nat → Int32} {L : Nat → Nat → Int64} {D : Nat → Nat} {C : MC} {S : PT} {p : List Nat} {k : Nat} {bs : List (Nat × Nat × Nat)}
theorem MP.st {I' : Nat → Nat → Int32} {p' : List Nat} {k' : Nat} (h : MP C S p k bs I L) (fr : FRM C I' L) (f : ∀ o, o ≠ 69 → o ≠ 79 → I' o = I o) (g : ∀ x, x ≠ 25 → x ≠ 27 → I' 69 x = I 69 x) (h25 : I' 69 25 = nI p'.length) (h79 : PL (I' 79) p') (h27 : I' 69 27 = nI (10 - k')) (hk' : k' ≤ 10) : MP C S p' k' bs I' L := by
  obtain ⟨-, tp, ⟨t1, t2, t3, t4⟩, c1, c2, c3, c4, c5, c6, c7, c8, c9, c10, c11, c12, c13, c14, c15, c16, c17, c18, c19, c20⟩ := h
  exact ⟨fr, ⟨by rw [g 3 (by decide) (by decide)]; exact tp.1, tp.2.1, fun j hj => by rw [f 70 (by decide) (by decide)]; exact tp.2.2 j hj⟩, ⟨t1, by rw [g 5 (by decide) (by decide)]; exact t2, by rw [g 6 (by decide) (by decide), g 7 (by decide) (by decide), g 8 (by decide) (by decide)]; exact t3, by rw [g 4 (by decide) (by decide)]; exact t4⟩, h25, h79, by rw [g 26 (by decide) (by decide)]; exact c3, by rw [f 80 (by decide) (by decide), f 81 (by decide) (by decide), f 82 (by decide) (by decide)]; exact c4, h27, by rw [g 28 (by decide) (by decide)]; exact c6, by rw [g 29 (by decide) (by decide)]; exact c7, by rw [g 30 (by decide) (by decide)]; exact c8, by rw [f 75 (by decide) (by decide)]; exact c9, by rw [f 76 (by decide) (by decide)]; exact c10, fun j a b => by rw [f 71 (by decide) (by decide), f 72 (by decide) (by decide)]; exact c11 j a b, fun a j b c => by rw [f 78 (by decide) (by decide)]; exact c12 a j b c, fun s a => by rw [f 77 (by decide) (by decide)]; exact c13 s a, fun j a => by rw [f 83 (by decide) (by decide)]; exact c14 j a, c15, c16, c17, c18, hk', c20⟩
theorem MP.push {o : Nat} (h : MP C S p k bs I L) : MP C S (o :: p) k bs (aw_u (aw_u I 79 p.length (nI o)) 69 25 (nI (p.length + 1))) L := by
  refine h.st ((h.1.u (by omega)).u (by omega)) (fun x a b => by rw [au_o a, au_o b]) (fun x a b => by rw [au_k a, au_o (by decide)]) (by rw [au_s]; rfl) ⟨by rw [au_o (by decide), au_s], ?_⟩ (by rw [au_k (by decide), au_o (by decide)]; exact h.2.2.2.2.2.2.2.1) h.2.2.2.2.2.2.2.2.2.2.2.2.2.2.2.2.2.2.2.2.2.1
  rw [au_o (by decide), aw_u_same]
  exact PL_up (Nat.le_refl _) h.2.2.2.2.1
theorem MP.pop {o : Nat} (h : MP C S (o :: p) k bs I L) : MP C S p k bs (aw_u I 69 25 (nI p.length)) L := by
  exact h.st (h.1.u (by omega)) (fun x a b => au_o a) (fun x a b => au_k a) (au_s _ _ _ _) (by rw [au_o (by decide)]; exact h.2.2.2.2.1.2) (by rw [au_k (by decide)]; exact h.2.2.2.2.2.2.2.1) h.2.2.2.2.2.2.2.2.2.2.2.2.2.2.2.2.2.2.2.2.2.1
theorem MP.top {o : Nat} (h : MP C S (o :: p) k bs I L) : I 69 25 = nI (p.length + 1) ∧ I 79 p.length = nI o := ⟨h.2.2.2.1, h.2.2.2.2.1.1⟩
theorem MP.opn {k' : Nat} (h : MP C S p k bs I L) (hk : k' ≤ 10) : MP C S p k' bs (aw_u I 69 27 (nI (10 - k'))) L := by
  exact h.st (h.1.u (by omega)) (fun x a b => au_o a) (fun x a b => au_k b) (by rw [au_k (by decide)]; exact h.2.2.2.1) (by rw [au_o (by decide)]; exact h.2.2.2.2.1) (au_s _ _ _ _) hk
theorem MP.len (h : MP C S p k bs I L) : I 69 25 = nI p.length := h.2.2.2.1
theorem MP.opens (h : MP C S p k bs I L) : I 69 27 = nI (10 - k) ∧ k ≤ 10 := ⟨h.2.2.2.2.2.2.2.1, h.2.2.2.2.2.2.2.2.2.2.2.2.2.2.2.2.2.2.2.2.2.1⟩
theorem MP.units (h : MP C S p k bs I L) : I 69 28 = nI (cU S) ∧ cU S ≤ 150 := ⟨h.2.2.2.2.2.2.2.2.1, h.2.2.2.2.2.2.2.2.2.2.2.2.2.2.2.2.2.1⟩
/-- another unit -/
theorem MP.unU (h : MP C S p k bs I L) (hu : cU S < 150) : MP C (unU S) p k bs (aw_u I 69 28 (nI (cU S + 1))) L := by
  obtain ⟨fr, tp, ⟨t1, t2, t3, t4⟩, c1, c2, c3, c4, c5, c6, c7, c8, c9, c10, c11, c12, c13, c14, c15, c16, c17, c18, c19, c20⟩ := h
  have f : ∀ o, o ≠ 69 → aw_u I 69 28 (nI (cU S + 1)) o = I o := fun o a => au_o a
  have g : ∀ x, x ≠ 28 → aw_u I 69 28 (nI (cU S + 1)) 69 x = I 69 x := fun x a => au_k a
  exact ⟨fr.u (by omega), ⟨by rw [g 3 (by decide)]; exact tp.1, tp.2.1, fun j hj => by rw [f 70 (by decide)]; exact tp.2.2 j hj⟩, ⟨t1, by rw [g 5 (by decide)]; exact t2, by rw [g 6 (by decide), g 7 (by decide), g 8 (by decide)]; exact t3, by rw [g 4 (by decide)]; exact t4⟩, by rw [g 25 (by decide)]; exact c1, by rw [f 79 (by decide)]; exact c2, by rw [g 26 (by decide)]; exact c3, by rw [f 80 (by decide), f 81 (by decide), f 82 (by decide)]; exact c4, by rw [g 27 (by decide)]; exact c5, au_s _ _ _ _, by rw [g 29 (by decide)]; exact c7, by rw [g 30 (by decide)]; exact c8, by rw [f 75 (by decide)]; exact c9, by rw [f 76 (by decide)]; exact c10, fun j a b => by rw [f 71 (by decide), f 72 (by decide)]; exact c11 j a b, fun a j b c => by rw [f 78 (by decide)]; exact c12 a j b c, fun s a => by rw [f 77 (by decide)]; exact c13 s a, fun j a => by rw [f 83 (by decide)]; exact c14 j a, hu, c16, Nat.le_succ_of_le c17, c18, c19, c20⟩
/-- a number's place: kept for the first twenty; I': the heap where it is kept -/
theorem MP.noN {I' : Nat → Nat → Int32} (h : MP C S p k bs I L) (hm : cM S < cU S) (f : ∀ o, o ≠ 76 → o ≠ 78 → I' o = I o) (h76 : ∀ j, j ≠ 5 → I' 76 j = I 76 j) (h765 : I' 76 5 = nI (cM S + 1)) (h78 : ∀ j, j ≠ 100 + cM S → I' 78 j = I 78 j) (h7820 : ¬ cM S < 20 → I' 78 = I 78) (h78m : cM S < 20 → I' 78 (100 + cM S) = nI (cn S - mDl C)) : MP C (noN S) p k bs I' L := by
  obtain ⟨⟨f1, f2, f3, f4, f5, f6, f7⟩, tp, ⟨t1, t2, t3, t4⟩, c1, c2, c3, c4, c5, c6, c7, c8, c9, c10, c11, c12, c13, c14, c15, c16, c17, c18, c19, c20⟩ := h
  have g : ∀ x, I' 69 x = I 69 x := fun x => by rw [f 69 (by decide) (by decide)]
  refine ⟨⟨fun o a1 a2 a3 a4 a5 a6 a7 a8 a9 a10 a11 a12 => (f o a5 a7).trans (f1 o a1 a2 a3 a4 a5 a6 a7 a8 a9 a10 a11 a12), fun x a b c => (g x).trans (f2 x a b c), fun j a => by rw [f 71 (by decide) (by decide), f 72 (by decide) (by decide)]; exact f3 j a, fun j a => by rw [f 75 (by decide) (by decide), h76 j a]; exact f4 j a, fun j a => by rw [f 77 (by decide) (by decide)] at a ⊢; exact f5 j a, fun j a => ?_, f7⟩, ⟨by rw [g]; exact tp.1, tp.2.1, fun j hj => by rw [f 70 (by decide) (by decide)]; exact tp.2.2 j hj⟩, ⟨t1, by rw [g]; exact t2, by rw [g, g, g]; exact t3, by rw [g]; exact t4⟩, by rw [g]; exact c1, by rw [f 79 (by decide) (by decide)]; exact c2, by rw [g]; exact c3, by rw [f 80 (by decide) (by decide), f 81 (by decide) (by decide), f 82 (by decide) (by decide)]; exact c4, by rw [g]; exact c5, by rw [g]; exact c6, by rw [g]; exact c7, by rw [g]; exact c8, by rw [f 75 (by decide) (by decide)]; exact c9, h765, fun j a b => by rw [f 71 (by decide) (by decide), f 72 (by decide) (by decide)]; exact c11 j a b, fun a j b c => ?_, fun s a => by rw [f 77 (by decide) (by decide)]; exact c13 s a, fun j a => by rw [f 83 (by decide) (by decide)]; exact c14 j a, c15, c16, hm, c18, c19, c20⟩
  · by_cases q : cM S < 20
    · rw [h78 j (by omega)]; exact f6 j a
    · rw [h7820 q]; exact f6 j a
  · have c : j < cM S + 1 := c
    show I' 78 (100 + j) = nI (va_up (cA S) (cM S) (cn S) j)
    by_cases q : j = cM S
    · subst q
      rw [up_s, h78m b, a, Nat.sub_zero]
    · rw [up_n _ _ q, h78 _ (by omega)]
      exact c12 a j b (by omega)
theorem uFt_i {T : TD} {i : Nat} (h : tK T i = 2 ∨ (tK T i = 4 ∧ tV T i ≤ 255) ∨ tK T i = 7 ∨ tK T i = 40) : uFt T i = 0 := by
  unfold uFt
  rcases h with h | ⟨h, h2⟩ | h | h
  · rw [if_pos h]
  · rw [h, if_neg (by decide), if_pos rfl, if_pos h2]
  · rw [h]; rfl
  · rw [h]; rfl
/-- from the head of the reference's loop over brackets: one unit, or one bracket more -/
theorem m_unit1 {inn : PT → PR} (hC : mOK C) (h : MP C S p k bs I L) (hG : cn S ≤ ti S + mDl C) (hp : p.length ≤ 100)
    (hA : ∀ S', unF (mTd C) k inn S = .ok S' → ∀ I' L', MP C S' p k bs I' L' → Q (some (.int 1)) (aw_s I' L' D))
    (hB : 0 < k → unF (mTd C) k inn S = pb (inn (adv (unU S))) (sgn (mTd C) 41) → ∀ I' L', MP C (adv (unU S)) (26 :: p) (k - 1) bs I' L' → aw_z X (d + 3) y_M_readUnit Q 0 [some (.ref 69), none] [] (aw_s I' L' D))
    (hR : 0 < k → unF (mTd C) k inn S = pb (pb (inn (adv (adv (unU S)))) (sgn (mTd C) 93)) (fun S => .ok (em 4 0 S)) → ∀ I' L', MP C (adv (adv (unU S))) (27 :: p) (k - 1) bs I' L' → aw_z X (d + 3) y_M_readUnit Q 0 [some (.ref 69), none] [] (aw_s I' L' D))
    (hE : ∀ e, unF (mTd C) k inn S = .error e → ∀ I' L', MF C e I' L' → Q (some (.int 0)) (aw_s I' L' D)) :
    aw_z X (d + 3) y_M_readUnit Q 0 [some (.ref 69), none] [] (aw_s I L D) := by
  have num := h.num
  have opens := h.opens
  have units := h.units
  have c150 : (nI (cU S) = (150 : Int32)) = (cU S = 150) := nI_eq' (b := 150) (by omega) (by decide)
  have c10 : (nI (10 - k) = (10 : Int32)) = (k = 0) := by
    have : (nI (10 - k) = (10 : Int32)) = (10 - k = 10) := nI_eq' (b := 10) (by omega) (by decide)
    rw [this]; apply propext; omega
  -- brackets
  have k260 : ∀ (v1 : Int32) (o : Nat) (S1 : PT) (I1 : Nat → Nat → Int32) (L1 : Nat → Nat → Int64), ((v1 = 0 ∧ o = 26) ∨ (v1 = 1 ∧ o = 27)) → 0 < k → MP C S1 p k bs I1 L1 → tK (mTd C) (ti S1) ≠ 0 → tK (mTd C) (ti S1) ≠ 1 → (∀ I' L', MP C (adv S1) (o :: p) (k - 1) bs I' L' → aw_z X (d + 3) y_M_readUnit Q 0 [some (.ref 69), none] [] (aw_s I' L' D)) → aw_z X (d + 3) y_M_readUnit Q 260 [some (.ref 69), some (.int v1)] [] (aw_s I1 L1 D) := by
    intro v1 o S1 I1 L1 hv hk0 h1 n0 n1 hk
    have e27 : I1 69 27 + 1 = nI (10 - (k - 1)) := by rw [h1.opens.1, lvl hk0 opens.2]
    have e25 : I1 69 25 = nI p.length := h1.len
    have B0 := @b_M_readUnit_260 X (d + 2) Q I1 L1 D v1
    rw [e27, e25] at B0
    have k289 : ∀ s2 : Int32, s2 = nI o → aw_z X (d + 3) y_M_readUnit Q 289 [some (.ref 69), none] [.int s2, .int (nI p.length), .ref 79] (aw_s (aw_u I1 69 27 (nI (10 - (k - 1)))) L1 D) := by
      intro s2 hs
      rw [hs]
      have h2 := h1.opn (k' := k - 1) (by omega)
      have B1 := @b_M_readUnit_289 X (d + 2) Q (aw_u I1 69 27 (nI (10 - (k - 1)))) L1 D (nI o) (nI p.length)
      rw [h2.len, nI_clamp (show p.length < 2 ^ 31 by omega), nI_1] at B1
      exact B1 (aw_in_nI (by omega) (by decide)) (m_go hC (h2.push (o := o)) n0 n1 (fun I' L' h' => b_M_readUnit_304 (hk I' L' h')))
    rcases hv with ⟨rfl, rfl⟩ | ⟨rfl, rfl⟩
    · exact B0 (fun _ => k289 26 rfl) (fun q => absurd rfl q)
    · exact B0 (fun q => absurd q (by decide)) (fun _ => k289 27 rfl)
  have k103 : tK (mTd C) (ti S) ≠ 0 → unF (mTd C) k inn S = .error (3, ti S) → aw_z X (d + 3) y_M_readUnit Q 103 [some (.ref 69), none] [] (aw_s I L D) := by
    intro n0 hu
    exact b_M_readUnit_103 (m_bad h (fun q => absurd q n0) (fun I' h' => b_M_readUnit_108 (Or.inl rfl) (hE _ hu I' L h')))
  -- from 75 on: a unit begins here
  have k75 : ∀ v1 : Int32, v1 = p_b (decide (tK (mTd C) (ti S) = 7)) → uFt (mTd C) (ti S) = 0 → aw_z X (d + 3) y_M_readUnit Q 75 [some (.ref 69), some (.int v1)] [] (aw_s I L D) := by
    intro v1 hv hu
    have hK := uFt_0 hu
    have n0 : tK (mTd C) (ti S) ≠ 0 := by rcases hK with q | q | q | q <;> rw [q] <;> decide
    have n1 : tK (mTd C) (ti S) ≠ 1 := by rcases hK with q | q | q | q <;> rw [q] <;> decide
    have B0 := @b_M_readUnit_75 X (d + 2) Q I L D v1
    rw [units.1, c150] at B0
    refine B0 (fun q => k103 n0 (by unfold unF; rw [if_neg (fun x => x hu), if_pos (by omega)])) (fun q => ?_)
    have hu2 : cU S < 150 := by omega
    have un : unF (mTd C) k inn S = (if tK (mTd C) (ti S) = 40 then pb (opn (mTd C) 40 k (unU S)) (fun S => pb (inn S) (sgn (mTd C) 41))
        else if tK (mTd C) (ti S) = 7 then pb (plc (mTd C) k inn (adv (unU S))) (fun S => .ok (em 4 0 S))
        else if tK (mTd C) (ti S) = 4 then .ok (adN (tV (mTd C) (ti S)) (adv (unU S)))
        else .ok (em 3 (tV (mTd C) (ti S)) (adv (unU S)))) := by
      unfold unF; rw [if_neg (fun x => x hu), if_neg (by omega)]
    have kU := h.unU hu2
    have k109 : (tK (mTd C) (ti S) = 40 → 0 < k) → aw_z X (d + 3) y_M_readUnit Q 109 [some (.ref 69), some (.int v1)] [] (aw_s I L D) := by
      intro h40
      have B1 := @b_M_readUnit_109 X (d + 2) Q I L D v1
      have e29 : I 69 29 = 5 := h.2.2.2.2.2.2.2.2.2.1
      have e30 : I 69 30 = nI (cn S - mDl C) := h.2.2.2.2.2.2.2.2.2.2.1
      have e76 : I 76 5 = nI (cM S) := h.2.2.2.2.2.2.2.2.2.2.2.2.1
      have hmn : cM S ≤ cU S := h.2.2.2.2.2.2.2.2.2.2.2.2.2.2.2.2.2.2.2.1
      have e5 : (5 : Int32).toNatClampNeg = 5 := rfl
      have e20 : (20 : Int32) * 5 + nI (cM S) = nI (100 + cM S) := by rw [show (20 : Int32) * 5 = nI 100 from rfl, nI_add]
      have c20 : ((20 : Int32) ≤ nI (cM S)) = (20 ≤ cM S) := nI_le' (a := 20) (by decide) (by omega)
      rw [units.1, nI_1, e29, e5, e76, c20, e20, nI_clamp (show 100 + cM S < 2 ^ 31 by omega), e30] at B1
      have k167 : ∀ I1, (∀ o, o ≠ 69 → o ≠ 78 → I1 o = I o) → (I1 69 = aw_u I 69 28 (nI (cU S + 1)) 69) → (∀ j, j ≠ 100 + cM S → I1 78 j = I 78 j) → (¬ cM S < 20 → I1 78 = I 78) → (cM S < 20 → I1 78 (100 + cM S) = nI (cn S - mDl C)) → tK (mTd C) (ti S) = 4 → aw_z X (d + 3) y_M_readUnit Q 167 [some (.ref 69), none] [] (aw_s I1 L D) := by
        intro I1 g1 g2 g3 g4 g5 q4
        have B2 := @b_M_readUnit_167 X (d + 2) Q I1 L D
        have x29 : I1 69 29 = 5 := by rw [g2, au_k (by decide)]; exact e29
        have x76 : I1 76 5 = nI (cM S) := by rw [g1 76 (by decide) (by decide)]; exact e76
        have x7 : I1 69 7 = tV (mTd C) (ti S) := by rw [g2, au_k (by decide)]; exact num.2.1 q4
        rw [x29, e5, x76, nI_1, x7] at B2
        have h2 : MP C (noN (unU S)) p k bs (aw_u I1 76 5 (nI (cM S + 1))) L := by
          refine kU.noN (Nat.lt_succ_of_le hmn) (fun o a b => ?_) (fun j a => ?_) (au_s _ _ _ _) (fun j a => ?_) (fun q => ?_) (fun q => ?_)
          · rw [au_o a]
            by_cases ho : o = 69
            · subst ho; exact g2
            · rw [au_o ho]; exact g1 o ho b
          · rw [au_k a, au_o (by decide), g1 76 (by decide) (by decide)]
          · rw [au_o (by decide), au_o (by decide)]; exact g3 j a
          · rw [au_o (by decide), au_o (by decide)]; exact g4 q
          · rw [au_o (by decide)]; exact g5 q
        refine B2 (aw_in_nI (n := 5) (by decide) (by decide)) (aw_in_nI (n := 5) (by decide) (by decide)) (m_emit (o := 2) hC h2 (Nat.le_succ_of_le hG) (fun I3 h3 => b_M_readUnit_189 (m_go hC h3 n0 n1 (fun I4 L4 h4 => b_M_readUnit_194 (hA _ ?_ I4 L4 h4)))))
        rw [un, if_neg (by rw [q4]; decide), if_neg (by rw [q4]; decide), if_pos q4]
        rfl
      refine B1 (fun q3 => ?_) (fun _ => aw_in_nI (n := 5) (by decide) (by decide)) (fun q3 q4 => k167 _ (fun o a b => au_o a) rfl (fun j a => by rw [au_o (by decide)]) (fun _ => au_o (by decide)) (fun q => absurd q (by omega)) (num.1.mp q3)) (fun _ _ => aw_in_nI (n := 5) (by decide) (by decide)) (fun _ _ => aw_in_nI (by omega) (by decide)) (fun q3 q4 => k167 _ (fun o a b => by rw [au_o b, au_o a]) (au_o (by decide)) (fun j a => by rw [au_k a, au_o (by decide)]) (fun q => absurd q (by omega)) (fun _ => au_s _ _ _ _) (num.1.mp q3))
      have n4 : ¬ tK (mTd C) (ti S) = 4 := fun x => q3 (num.1.mpr x)
      refine m_isName kU (fun q2 => b_M_readUnit_200 (fun x => absurd x (by decide)) (fun x => absurd x (by decide)) (fun _ => ?_)) (fun q2 => b_M_readUnit_200 (fun _ x => ?_) (fun _ x => ?_) (fun x => absurd rfl x))
      · have q2 : tK (mTd C) (ti S) = 2 := q2
        have ev : (L 69 11).toInt32 - 1 = tV (mTd C) (ti S) := h.let.1 q2
        rw [ev]
        refine m_emit (o := 3) hC kU (Nat.le_succ_of_le hG) (fun I3 h3 => b_M_readUnit_215 (m_go hC h3 n0 n1 (fun I4 L4 h4 => b_M_readUnit_220 (hA _ ?_ I4 L4 h4))))
        rw [un, if_neg (by rw [q2]; decide), if_neg (by rw [q2]; decide), if_neg n4]
        rfl
      · have q2 : ¬ tK (mTd C) (ti S) = 2 := q2
        have n7 : ¬ tK (mTd C) (ti S) = 7 := fun q7 => by rw [hv, decide_eq_true q7] at x; exact absurd x (by decide)
        have q40 : tK (mTd C) (ti S) = 40 := by
          rcases hK with g | g | g | g
          · exact absurd g q2
          · exact absurd g n4
          · exact absurd g n7
          · exact g
        refine k260 v1 26 (unU S) _ L (Or.inl ⟨x, rfl⟩) (h40 q40) kU n0 n1 (fun I' L' h' => hB (h40 q40) ?_ I' L' h')
        have hk0 := h40 q40
        rw [un, if_pos q40, opn, if_pos (show tK (mTd C) (ti (unU S)) = 40 from q40), if_neg (by omega)]
        rfl
      · have q2 : ¬ tK (mTd C) (ti S) = 2 := q2
        have q7 : tK (mTd C) (ti S) = 7 := Classical.byContradiction fun n7 => by rw [hv, decide_eq_false n7] at x; exact x rfl
        have v1e : v1 = 1 := by rw [hv, decide_eq_true q7]; rfl
        have un7 : unF (mTd C) k inn S = pb (plc (mTd C) k inn (adv (unU S))) (fun S => .ok (em 4 0 S)) := by rw [un, if_neg (by rw [q7]; decide), if_pos q7]
        refine m_go hC kU n0 n1 (fun I1 L1 h1 => b_M_readUnit_230 (m_isSign h1 (by decide) (fun q91 => ?_) (fun q91 => ?_)))
        · have B2 := @b_M_readUnit_236 X (d + 2) Q I1 L1 D v1 1
          rw [h1.opens.1, c10] at B2
          refine B2 (fun _ hk => ?_) (fun _ hk => m_bad h1 (fun q => by rw [q91] at q; exact absurd q (by decide)) (fun I' h' => b_M_readUnit_259 (Or.inl rfl) (hE _ ?_ I' L1 h'))) (fun x => absurd x (by decide))
          · refine k260 v1 27 (adv (unU S)) I1 L1 (Or.inr ⟨v1e, rfl⟩) (by omega) h1 (by rw [q91]; decide) (by rw [q91]; decide) (fun I' L' h' => hR (by omega) ?_ I' L' h')
            rw [un7, plc, opn, if_pos q91, if_neg hk]
            rfl
          · rw [un7, plc, opn, if_pos q91, if_pos hk]
            rfl
        · refine b_M_readUnit_236 (fun x => absurd rfl x) (fun x => absurd rfl x) (fun _ => m_bad h1 (fun _ => rfl) (fun I' h' => b_M_readUnit_244 (Or.inl rfl) (hE _ ?_ I' L1 h')))
          rw [un7, plc, opn, if_neg q91]
          rfl
    refine m_isSign h (by decide) (fun q40 => b_M_readUnit_91 (fun x => absurd x (by decide)) (fun _ x => ?_) (fun _ x => ?_)) (fun q40 => b_M_readUnit_91 (fun _ => k109 (fun x => absurd x q40)) (fun x => absurd rfl x) (fun x => absurd rfl x))
    · rw [opens.1, c10] at x
      exact k109 (fun _ => by omega)
    · rw [opens.1, c10] at x
      refine k103 n0 ?_
      rw [un, if_pos q40, opn, if_pos (show tK (mTd C) (ti (unU S)) = 40 from q40), if_pos x]; rfl
  have k51 : ∀ v1 : Int32, v1 = p_b (decide (tK (mTd C) (ti S) = 7)) → (tK (mTd C) (ti S) = 2 ∨ tK (mTd C) (ti S) = 4 ∨ tK (mTd C) (ti S) = 7 ∨ tK (mTd C) (ti S) = 40) → aw_z X (d + 3) y_M_readUnit Q 51 [some (.ref 69), some (.int v1)] [] (aw_s I L D) := by
    intro v1 hv hK
    refine b_M_readUnit_51 (fun q => k75 v1 hv (uFt_i ?_)) (fun q q2 => k75 v1 hv (uFt_i (Or.inr (Or.inl ⟨num.1.mp q, by rw [← num.2.1 (num.1.mp q)]; exact q2⟩)))) (fun q q2 => m_bad h (fun x => by rw [num.1.mp q] at x; exact absurd x (by decide)) (fun I' h' => b_M_readUnit_74 (Or.inl rfl) (hE _ ?_ I' L h')))
    · have n4 : ¬ tK (mTd C) (ti S) = 4 := fun x => q (num.1.mpr x)
      rcases hK with g | g | g | g
      · exact Or.inl g
      · exact absurd g n4
      · exact Or.inr (Or.inr (Or.inl g))
      · exact Or.inr (Or.inr (Or.inr g))
    · have q4 := num.1.mp q
      have u2 : uFt (mTd C) (ti S) = 2 := by
        unfold uFt
        rw [q4, if_neg (by decide), if_pos rfl, if_neg (by rw [← num.2.1 q4]; exact q2)]
      unfold unF
      rw [u2, if_pos (by decide)]
  have k16 : ∀ v1 : Int32, v1 = p_b (decide (tK (mTd C) (ti S) = 7)) → aw_z X (d + 3) y_M_readUnit Q 16 [some (.ref 69), none] [.int v1] (aw_s I L D) := by
    intro v1 hv
    refine b_M_readUnit_16 (fun q => k51 v1 hv (Or.inr (Or.inl (num.1.mp q)))) (fun q => m_isName h (fun q2 => b_M_readUnit_29 (fun _ => k51 v1 hv (Or.inl q2)) (fun x => absurd x (by decide)) (fun x => absurd x (by decide))) (fun q2 => b_M_readUnit_29 (fun x => absurd rfl x) (fun _ x => k51 v1 hv ?_) (fun _ x => m_isSign h (by decide) (fun q40 => b_M_readUnit_42 (fun _ => k51 v1 hv (Or.inr (Or.inr (Or.inr q40)))) (fun x => absurd x (by decide))) (fun q40 => b_M_readUnit_42 (fun x => absurd rfl x) (fun _ => m_bad h (fun _ => rfl) (fun I' h' => b_M_readUnit_50 (Or.inl rfl) (hE _ ?_ I' L h')))))))
    · exact Or.inr (Or.inr (Or.inl (Classical.byContradiction fun n7 => by rw [hv, decide_eq_false n7] at x; exact x rfl)))
    · have n7 : ¬ tK (mTd C) (ti S) = 7 := fun q7 => by rw [hv, decide_eq_true q7] at x; exact absurd x (by decide)
      have u1 : uFt (mTd C) (ti S) = 1 := by
        unfold uFt
        rw [if_neg q2, if_neg (fun x => q (num.1.mpr x)), if_neg n7, if_neg q40]
      unfold unF
      rw [u1, if_pos (by decide)]
  refine b_M_readUnit_0 (c_M_spelt (v := lN (kyC 2)) (by decide +kernel) (b_M_readUnit_13 (m_isKey h (by decide) (fun q => k16 1 (by rw [decide_eq_true (show tK (mTd C) (ti S) = 7 from q)]; rfl)) (fun q => k16 0 (by rw [decide_eq_false (show ¬ tK (mTd C) (ti S) = 7 from q)]; rfl)))))
end MUN
