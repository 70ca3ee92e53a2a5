/-! PART 78: the reference's reading: what begins a step; blocks are opened and mended -/
section MST
variable {X : aw_X} {d : Nat} {Q : Option Value → aw_H → Prop} {I : Nat → Nat → Int32} {L : Nat → Nat → Int64} {D : Nat → Nat} {C : MC} {S : PT} {k : Nat} {bs : List (Nat × Nat × Nat)}
theorem t_isKey {K V : Int32} {w : Nat} (hm : mT K V (I 69 6) (I 69 7) (I 69 8) (L 69 11)) (hw : w < 12) (h1 : K = nI (w + 5) → Q (some (.int 1)) (aw_s I L D)) (h0 : ¬ K = nI (w + 5) → Q (some (.int 0)) (aw_s I L D)) : aw_m X d y_M_isKey [.ref 69, .long (lN (kyC w))] (aw_s I L D) Q := by
  have e := mT_key hm hw
  have B0 := @b_M_isKey_0 X d Q I L D (lN (kyC w))
  rw [cmp_eq] at B0
  exact aw_go rfl rfl (B0 (fun q => h0 (fun x => q (e.mpr x).1)) (fun _ q => h0 (fun x => q (e.mpr x).2)) (fun q q2 => h1 (e.mp ⟨q, q2⟩)))
theorem t_isName {K V : Int32} (hm : mT K V (I 69 6) (I 69 7) (I 69 8) (L 69 11)) (h1 : K = 2 → Q (some (.int 1)) (aw_s I L D)) (h0 : ¬ K = 2 → Q (some (.int 0)) (aw_s I L D)) : aw_m X d y_M_isName [.ref 69] (aw_s I L D) Q := by
  have e := (mT_rng hm).1
  exact aw_go rfl rfl (b_M_isName_0 (fun q => h0 (fun x => q (e.mpr x).1)) (fun _ q => h0 (fun x => (e.mpr x).2.1 q)) (fun _ _ q => h0 (fun x => (e.mpr x).2.2 q)) (fun q q2 q3 => h1 (e.mp ⟨q, q2, q3⟩)))
theorem t_isIf {K V : Int32} (hm : mT K V (I 69 6) (I 69 7) (I 69 8) (L 69 11)) (h1 : K = 8 → Q (some (.int 1)) (aw_s I L D)) (h0 : ¬ K = 8 → Q (some (.int 0)) (aw_s I L D)) : aw_m X (d + 1) y_M_isIf [.ref 69] (aw_s I L D) Q :=
  aw_go rfl rfl (b_M_isIf_0 (c_M_spelt (v := lN (kyC 3)) (by decide +kernel) (b_M_isIf_11 (t_isKey hm (by decide) (fun q => b_M_isIf_14 (Or.inr rfl) (h1 q)) (fun q => b_M_isIf_14 (Or.inl rfl) (h0 q))))))
theorem t_isLoop {K V : Int32} (hm : mT K V (I 69 6) (I 69 7) (I 69 8) (L 69 11)) (h1 : K = 10 → Q (some (.int 1)) (aw_s I L D)) (h0 : ¬ K = 10 → Q (some (.int 0)) (aw_s I L D)) : aw_m X (d + 1) y_M_isLoop [.ref 69] (aw_s I L D) Q :=
  aw_go rfl rfl (b_M_isLoop_0 (c_M_spelt (v := lN (kyC 5)) (by decide +kernel) (b_M_isLoop_14 (t_isKey hm (by decide) (fun q => b_M_isLoop_17 (Or.inr rfl) (h1 q)) (fun q => b_M_isLoop_17 (Or.inl rfl) (h0 q))))))
theorem t_beginsStep {K V : Int32} (hm : mT K V (I 69 6) (I 69 7) (I 69 8) (L 69 11)) (h1 : isSt K → Q (some (.int 1)) (aw_s I L D)) (h0 : ¬ isSt K → Q (some (.int 0)) (aw_s I L D)) : aw_m X (d + 2) y_M_beginsStep [.ref 69] (aw_s I L D) Q := by
  have s2 : K = 2 → isSt K := fun q => Or.inl q
  have s6 : K = 6 → isSt K := fun q => Or.inr (Or.inl q)
  have s7 : K = 7 → isSt K := fun q => Or.inr (Or.inr (Or.inl q))
  have s8 : K = 8 → isSt K := fun q => Or.inr (Or.inr (Or.inr (Or.inl q)))
  have s10 : K = 10 → isSt K := fun q => Or.inr (Or.inr (Or.inr (Or.inr (Or.inl q))))
  have s11 : K = 11 → isSt K := fun q => Or.inr (Or.inr (Or.inr (Or.inr (Or.inr (Or.inl q)))))
  have s12 : K = 12 → isSt K := fun q => Or.inr (Or.inr (Or.inr (Or.inr (Or.inr (Or.inr (Or.inl q))))))
  have s13 : K = 13 → isSt K := fun q => Or.inr (Or.inr (Or.inr (Or.inr (Or.inr (Or.inr (Or.inr (Or.inl q)))))))
  have s14 : K = 14 → isSt K := fun q => Or.inr (Or.inr (Or.inr (Or.inr (Or.inr (Or.inr (Or.inr (Or.inr q)))))))
  have z113 : (¬ K = 14 → ¬ isSt K) → aw_z X (d + 2) y_M_beginsStep Q 113 [some (.ref 69)] [.int 0] (aw_s I L D) := fun hx => b_M_beginsStep_113 (fun x => absurd rfl x) (fun _ => c_M_spelt (v := lN (kyC 9)) (by decide +kernel) (b_M_beginsStep_128 (t_isKey (w := 9) hm (by decide) (fun q => b_M_beginsStep_131 (fun x => absurd x (by decide)) (fun _ => h1 (s14 q))) (fun n => b_M_beginsStep_131 (fun _ => h0 (hx n)) (fun x => absurd rfl x)))))
  have z95 : (¬ K = 13 → ¬ K = 14 → ¬ isSt K) → aw_z X (d + 2) y_M_beginsStep Q 95 [some (.ref 69)] [.int 0] (aw_s I L D) := fun hx => b_M_beginsStep_95 (fun x => absurd rfl x) (fun _ => c_M_spelt (v := lN (kyC 8)) (by decide +kernel) (b_M_beginsStep_110 (t_isKey (w := 8) hm (by decide) (fun q => b_M_beginsStep_113 (fun _ => h1 (s13 q)) (fun x => absurd x (by decide))) (fun n => z113 (hx n)))))
  have z77 : (¬ K = 12 → ¬ K = 13 → ¬ K = 14 → ¬ isSt K) → aw_z X (d + 2) y_M_beginsStep Q 77 [some (.ref 69)] [.int 0] (aw_s I L D) := fun hx => b_M_beginsStep_77 (fun x => absurd rfl x) (fun _ => c_M_spelt (v := lN (kyC 7)) (by decide +kernel) (b_M_beginsStep_92 (t_isKey (w := 7) hm (by decide) (fun q => b_M_beginsStep_95 (fun _ => h1 (s12 q)) (fun x => absurd x (by decide))) (fun n => z95 (hx n)))))
  have z56 : (¬ K = 11 → ¬ K = 12 → ¬ K = 13 → ¬ K = 14 → ¬ isSt K) → aw_z X (d + 2) y_M_beginsStep Q 56 [some (.ref 69)] [.int 0] (aw_s I L D) := fun hx => b_M_beginsStep_56 (fun _ => c_M_spelt (v := lN (kyC 6)) (by decide +kernel) (b_M_beginsStep_74 (t_isKey (w := 6) hm (by decide) (fun q => b_M_beginsStep_77 (fun _ => h1 (s11 q)) (fun x => absurd x (by decide))) (fun n => z77 (hx n))))) (fun x => absurd rfl x)
  have z37 : (¬ K = 7 → ¬ K = 11 → ¬ K = 12 → ¬ K = 13 → ¬ K = 14 → ¬ isSt K) → aw_z X (d + 2) y_M_beginsStep Q 37 [some (.ref 69)] [.int 0] (aw_s I L D) := fun hx => b_M_beginsStep_37 (fun x => absurd rfl x) (fun _ => c_M_spelt (v := lN (kyC 2)) (by decide +kernel) (b_M_beginsStep_53 (t_isKey (w := 2) hm (by decide) (fun q => b_M_beginsStep_56 (fun x => absurd x (by decide)) (fun _ => h1 (s7 q))) (fun n => z56 (hx n)))))
  have z18 : (¬ K = 6 → ¬ K = 7 → ¬ K = 11 → ¬ K = 12 → ¬ K = 13 → ¬ K = 14 → ¬ isSt K) → aw_z X (d + 2) y_M_beginsStep Q 18 [some (.ref 69)] [.int 0] (aw_s I L D) := fun hx => b_M_beginsStep_18 (fun x => absurd rfl x) (fun _ => c_M_spelt (v := lN (kyC 1)) (by decide +kernel) (b_M_beginsStep_34 (t_isKey (w := 1) hm (by decide) (fun q => b_M_beginsStep_37 (fun _ => h1 (s6 q)) (fun x => absurd x (by decide))) (fun n => z37 (hx n)))))
  have z11 : (¬ K = 10 → ¬ K = 6 → ¬ K = 7 → ¬ K = 11 → ¬ K = 12 → ¬ K = 13 → ¬ K = 14 → ¬ isSt K) → aw_z X (d + 2) y_M_beginsStep Q 11 [some (.ref 69)] [.int 0] (aw_s I L D) := fun hx => b_M_beginsStep_11 (fun x => absurd rfl x) (fun _ => t_isLoop hm (fun q => b_M_beginsStep_18 (fun _ => h1 (s10 q)) (fun x => absurd x (by decide))) (fun n => z18 (hx n)))
  have z4 : (¬ K = 8 → ¬ K = 10 → ¬ K = 6 → ¬ K = 7 → ¬ K = 11 → ¬ K = 12 → ¬ K = 13 → ¬ K = 14 → ¬ isSt K) → aw_z X (d + 2) y_M_beginsStep Q 4 [some (.ref 69)] [.int 0] (aw_s I L D) := fun hx => b_M_beginsStep_4 (fun x => absurd rfl x) (fun _ => t_isIf hm (fun q => b_M_beginsStep_11 (fun _ => h1 (s8 q)) (fun x => absurd x (by decide))) (fun n => z11 (hx n)))
  refine aw_go rfl rfl (b_M_beginsStep_0 (t_isName hm (fun q => b_M_beginsStep_4 (fun _ => h1 (s2 q)) (fun x => absurd x (by decide))) (fun n2 => z4 (fun n8 n10 n6 n7 n11 n12 n13 n14 hs => ?_))))
  rcases hs with g | g | g | g | g | g | g | g | g
  · exact n2 g
  · exact n6 g
  · exact n7 g
  · exact n8 g
  · exact n10 g
  · exact n11 g
  · exact n12 g
  · exact n13 g
  · exact n14 g
theorem MP.mt {p : List Nat} (h : MP C S p k bs I L) : mT (tK (mTd C) (ti S)) (tV (mTd C) (ti S)) (I 69 6) (I 69 7) (I 69 8) (L 69 11) := h.2.2.1.2.2.1
theorem MP.bl {p : List Nat} (h : MP C S p k bs I L) : I 69 26 = nI bs.length ∧ BL (I 80) (I 81) (I 82) bs ∧ bs.length ≤ 10 := ⟨h.2.2.2.2.2.1, h.2.2.2.2.2.2.1, h.2.2.2.2.2.2.2.2.2.2.2.2.2.2.2.2.2.2.2.2.2.2⟩
/-- another step begins -/
theorem MP.stU {p : List Nat} {w : Bool} (h : MP C S p k bs I L) (hs : cS S < 60) : MP C (stU w S) p k bs (aw_u (aw_u I 75 5 (nI (cS S + 1))) 77 (300 + cS S) (p_b w)) L := by
  obtain ⟨fr, tp, ⟨t1, t2, t3, t4⟩, c1, c2, c3, c4, c5, c6, c7, c8, c9, c10, c11, c12, c13, c14, c15, c16, c17, c18, c19, c20⟩ := h
  generalize eI : aw_u (aw_u I 75 5 (nI (cS S + 1))) 77 (300 + cS S) (p_b w) = I'
  have f : ∀ o, o ≠ 75 → o ≠ 77 → I' o = I o := fun o a b => by rw [← eI, au_o b, au_o a]
  have fr' : FRM C I' L := by rw [← eI]; exact (fr.u (by omega)).u77 (by omega) (by cases w; exact Or.inl rfl; exact Or.inr rfl)
  have g := f 69 (by decide) (by decide)
  refine ⟨fr', ⟨by rw [g]; exact tp.1, tp.2.1, fun j hj => by rw [f 70 (by decide) (by decide)]; exact tp.2.2 j hj⟩, ⟨t1, by rw [g]; exact t2, by rw [g]; exact t3, by rw [g]; exact t4⟩, by rw [g]; exact c1, by rw [f 79 (by decide) (by decide)]; exact c2, by rw [g]; exact c3, by rw [f 80 (by decide) (by decide), f 81 (by decide) (by decide), f 82 (by decide) (by decide)]; exact c4, by rw [g]; exact c5, by rw [g]; exact c6, by rw [g]; exact c7, by rw [g]; exact c8, ?_, by rw [f 76 (by decide) (by decide)]; exact c10, fun j a b => by rw [f 71 (by decide) (by decide), f 72 (by decide) (by decide)]; exact c11 j a b, fun a j b c => by rw [f 78 (by decide) (by decide)]; exact c12 a j b c, fun s a => ?_, fun j a => by rw [f 83 (by decide) (by decide)]; exact c14 j a, c15, hs, c17, c18, c19, c20⟩
  · rw [← eI, au_o (by decide), au_s]; rfl
  · have a : s < cS S + 1 := a
    show I' 77 (300 + s) = p_b (va_up (cW S) (cS S) w s)
    by_cases q : s = cS S
    · subst q; rw [up_s, ← eI, au_s]
    · rw [up_n _ _ q, ← eI, au_k (by omega), au_o (by decide)]; exact c13 s (by omega)
/-- a block is opened -/
theorem m_open {a b c : Nat} (hC : mOK C) (h : MP C S [] k bs I L) (hbl : 0 < k → bs.length ≤ 9)
    (hok : 0 < k → tK (mTd C) (ti S) = 123 → ∀ I' L', MP C (adv S) [] (k - 1) ((a, b, c) :: bs) I' L' → Q (some (.int 1)) (aw_s I' L' D)) (her : ∀ e, opn (mTd C) 123 k S = .error e → FLp D C Q e) : aw_m X (d + 2) y_M_open [.ref 69, .int (nI a), .int (nI b), .int (nI c)] (aw_s I L D) Q := by
  have ho := h.opens
  have hb10 := h.bl.2.2
  have c10 : (nI (10 - k) = (10 : Int32)) = (k = 0) := by
    have : (nI (10 - k) = (10 : Int32)) = (10 - k = 10) := nI_eq' (b := 10) (by omega) (by decide)
    rw [this]; apply propext; omega
  refine aw_go rfl rfl (b_M_open_0 (m_isSign h (by decide) (fun q => ?_) (fun q => b_M_open_6 (fun x => absurd rfl x) (fun x => absurd rfl x) (fun x => absurd rfl x) (fun x => absurd rfl x) (fun x => absurd rfl x) (fun _ => m_bad h (fun _ => rfl) (fun I' h' => b_M_open_14 (Or.inl rfl) (her _ (by rw [opn, if_neg q]) I' L h'))))))
  have B0 := @b_M_open_6 X (d + 1) Q I L D (nI a) (nI b) (nI c) 1
  rw [ho.1, c10, h.bl.1, nI_clamp (show bs.length < 2 ^ 31 by omega)] at B0
  refine B0 (fun _ hk => aw_in_nI (by have := hbl (by omega); omega) (by decide)) (fun _ hk => aw_in_nI (by have := hbl (by omega); omega) (by decide)) (fun _ hk => aw_in_nI (by have := hbl (by omega); omega) (by decide)) (fun _ hk => ?_) (fun _ hk => m_bad h (fun x => by rw [q] at x; exact absurd x (by decide)) (fun I' h' => b_M_open_29 (Or.inl rfl) (her _ (by rw [opn, if_pos q, if_pos hk]) I' L h'))) (fun x => absurd x (by decide))
  have hbl := hbl (by omega)
  rw [lvl (by omega) ho.2, nI_1]
  generalize eI : aw_u (aw_u (aw_u (aw_u (aw_u I 69 27 (nI (10 - (k - 1)))) 80 bs.length (nI a)) 81 bs.length (nI b)) 82 bs.length (nI c)) 69 26 (nI (bs.length + 1)) = I1
  have h1 : MP C S [] (k - 1) ((a, b, c) :: bs) I1 L := by
    obtain ⟨fr, tp, ⟨t1, t2, t3, t4⟩, c1, c2, c3, c4, c5, c6, c7, c8, c9, c10, c11, c12, c13, c14, c15, c16, c17, c18, c19, c20⟩ := h
    have f : ∀ o, o ≠ 69 → o ≠ 80 → o ≠ 81 → o ≠ 82 → I1 o = I o := fun o x y z w => by rw [← eI, au_o x, au_o w, au_o z, au_o y, au_o x]
    have g : ∀ x, x ≠ 26 → x ≠ 27 → I1 69 x = I 69 x := fun x y z => by rw [← eI, au_k y, au_o (by decide), au_o (by decide), au_o (by decide), au_k z]
    have fr' : FRM C I1 L := by rw [← eI]; exact ((((fr.u (by omega)).u (by omega)).u (by omega)).u (by omega)).u (by omega)
    refine ⟨fr', ⟨by rw [g 3 (by decide) (by decide)]; exact tp.1, tp.2.1, fun j hj => by rw [f 70 (by decide) (by decide) (by decide) (by decide)]; exact tp.2.2 j hj⟩, ⟨t1, by rw [g 5 (by decide) (by decide)]; exact t2, by rw [g 6 (by decide) (by decide), g 7 (by decide) (by decide), g 8 (by decide) (by decide)]; exact t3, by rw [g 4 (by decide) (by decide)]; exact t4⟩, by rw [g 25 (by decide) (by decide)]; exact c1, trivial, ?_, ?_, ?_, by rw [g 28 (by decide) (by decide)]; exact c6, by rw [g 29 (by decide) (by decide)]; exact c7, by rw [g 30 (by decide) (by decide)]; exact c8, by rw [f 75 (by decide) (by decide) (by decide) (by decide)]; exact c9, by rw [f 76 (by decide) (by decide) (by decide) (by decide)]; exact c10, fun j a b => by rw [f 71 (by decide) (by decide) (by decide) (by decide), f 72 (by decide) (by decide) (by decide) (by decide)]; exact c11 j a b, fun a j b c => by rw [f 78 (by decide) (by decide) (by decide) (by decide)]; exact c12 a j b c, fun s a => by rw [f 77 (by decide) (by decide) (by decide) (by decide)]; exact c13 s a, fun j a => by rw [f 83 (by decide) (by decide) (by decide) (by decide)]; exact c14 j a, c15, c16, c17, c18, by omega, by simp; omega⟩
    · rw [← eI, au_s]; rfl
    · refine ⟨?_, ?_, ?_, ?_⟩
      · rw [← eI, au_o (by decide), au_o (by decide), au_o (by decide), au_s]
      · rw [← eI, au_o (by decide), au_o (by decide), au_s]
      · rw [← eI, au_o (by decide), au_s]
      · have := BL_up (x := nI a) (y := nI b) (z := nI c) (Nat.le_refl _) c4
        rw [← eI, au_o (by decide), au_o (by decide), au_o (by decide), aw_u_same, au_o (by decide), au_o (by decide), au_o (by decide), aw_u_same, au_o (by decide), au_o (by decide), au_o (by decide), aw_u_same, au_o (by decide), au_o (by decide), au_o (by decide)]
        exact this
    · rw [← eI, au_k (by decide), au_o (by decide), au_o (by decide), au_o (by decide), au_s]
  exact m_go hC h1 (by rw [q]; decide) (by rw [q]; decide) (fun I' L' h' => b_M_open_84 (hok (by omega) q I' L' h'))
/-- an order is mended -/
theorem m_patch {j : Nat} (hC : mOK C) (h0 : mDl C = 0) (h0' : mLo C = 0) (h : MP C S [] k bs I L) (hj : j < cn S) (hcn : cn S ≤ 600) (hQ : ∀ I', MP C (pat j S) [] k bs I' L → Q none (aw_s I' L D)) : aw_m X d y_M_patch [.ref 69, .int (nI j)] (aw_s I L D) Q := by
  obtain ⟨fr, tp, ⟨t1, t2, t3, t4⟩, c1, c2, c3, c4, c5, c6, c7, c8, c9, c10, c11, c12, c13, c14, c15, c16, c17, c18, c19, c20⟩ := h
  have B0 := @b_M_patch_0 X d Q I L D (nI j)
  have e1 : (800 : Int32) * 5 + nI j = nI (4000 + j) := by rw [show (800 : Int32) * 5 = nI 4000 from rfl, nI_add]
  rw [c7, e1, c8, nI_clamp (show 4000 + j < 2 ^ 31 by omega)] at B0
  have f : ∀ o, o ≠ 72 → aw_u I 72 (4000 + j) (nI (cn S - mDl C)) o = I o := fun o a => au_o a
  refine aw_go rfl rfl (B0 (aw_in_nI (by omega) (by decide)) (hQ _ ⟨fr.u (by omega), ⟨by rw [f 69 (by decide)]; exact tp.1, tp.2.1, fun j hj => by rw [f 70 (by decide)]; exact tp.2.2 j hj⟩, ⟨t1, by rw [f 69 (by decide)]; exact t2, by rw [f 69 (by decide)]; exact t3, by rw [f 69 (by decide)]; exact t4⟩, by rw [f 69 (by decide)]; exact c1, trivial, by rw [f 69 (by decide)]; exact c3, by rw [f 80 (by decide), f 81 (by decide), f 82 (by decide)]; exact c4, by rw [f 69 (by decide)]; exact c5, by rw [f 69 (by decide)]; exact c6, by rw [f 69 (by decide)]; exact c7, by rw [f 69 (by decide)]; exact c8, by rw [f 75 (by decide)]; exact c9, by rw [f 76 (by decide)]; exact c10, fun i a b => ?_, fun a j b c => by rw [f 78 (by decide)]; exact c12 a j b c, fun s a => by rw [f 77 (by decide)]; exact c13 s a, fun j a => by rw [f 83 (by decide)]; exact c14 j a, c15, c16, c17, c18, c19, c20⟩))
  have b : i < cn S := b
  show aw_u I 72 (4000 + j) (nI (cn S - mDl C)) 71 (4000 + (i - mDl C)) = nI (va_up (cP S) j ((cP S j).1, nI (min (cn S) 600)) i).1 ∧ aw_u I 72 (4000 + j) (nI (cn S - mDl C)) 72 (4000 + (i - mDl C)) = (va_up (cP S) j ((cP S j).1, nI (min (cn S) 600)) i).2
  rw [au_o (by decide)]
  have ci := c11 i a b
  rw [h0, Nat.sub_zero] at ci ⊢
  by_cases q : i = j
  · subst q
    rw [up_s, au_s, Nat.sub_zero, Nat.min_eq_left hcn]
    exact ⟨ci.1, rfl⟩
  · rw [up_n _ _ q, au_k (by omega)]
    exact ci
end MST
