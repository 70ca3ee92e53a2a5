/-! PART 49: the class's machine: working out -/
theorem opC_w {o : Nat} (h : 2 ≤ o ∧ o ≤ 14) : opC o = o - 1 := by
  rcases (show o = 2 ∨ o = 3 ∨ o = 4 ∨ o = 5 ∨ o = 6 ∨ o = 7 ∨ o = 8 ∨ o = 9 ∨ o = 10 ∨ o = 11 ∨ o = 12 ∨ o = 13 ∨ o = 14 by omega) with rfl | rfl | rfl | rfl | rfl | rfl | rfl | rfl | rfl | rfl | rfl | rfl | rfl <;> rfl
section KW
variable {X : aw_X} {d : Nat} {Q : Option Value → aw_H → Prop} {I : Nat → Nat → Int32} {L : Nat → Nat → Int64} {D : Nat → Nat}
theorem l_Mc_work1 {P : Nat → Nat × Int32} {n pc c : Nat} {ty : Nat → List Bool} {sg : Nat → Nat} {B : Nat} {stk : List Int32} {nm cl : Nat → Int32} (hc : c ∈ aw_codes) (hC : CodeC P n c I) (hn6 : n ≤ 600) (hpc : pc < n) (h6 : B ≤ 6) (hg : I 4 7 = mk B) (hgo : I 4 15 = -1)
    (hok : p_ok P n ty sg pc) (ho : 2 ≤ (P pc).1 ∧ (P pc).1 ≤ 14) (hty : p_ty B (ty pc) stk) (hnm : ∀ k, k < 8 → I 5 k = nm k) (hcl : ∀ k, k < 8 → I 6 k = cl k) (hS : KS I stk) (hlen : stk.length ≤ 30)
    (h0 : ∀ st I', p_work (mk B) nm cl (P pc).1 (P pc).2 stk = .ok st → KF I I' → KS I' st → aw_z X (d + 3) y_Mc_workOut Q 2 [some (.ref 4), some (.ref c), none, some (.int (nI (pc + 1))), none] [] (aw_s I' L D))
    (h1 : ∀ e I', e = 2 ∨ e = 3 → p_work (mk B) nm cl (P pc).1 (P pc).2 stk = .error e → KF I I' → Q (some (.int (nI pc))) (aw_s (aw_u (aw_u I' 4 15 e) 4 16 (I 4 11)) L D)) :
    aw_z X (d + 3) y_Mc_workOut Q 2 [some (.ref 4), some (.ref c), none, some (.int (nI pc)), none] [] (aw_s I L D) := by
  obtain ⟨m, C1, hmn, hpm, C3, C4⟩ := hC.lt hpc (by omega)
  have hm6 : m ≤ 600 := by omega
  obtain ⟨-, -, -, hL⟩ := hok
  have two : ∀ {b c : Bool} {t : List Bool}, ty pc = b :: c :: t → ∃ v w st, stk = v :: w :: st ∧ (if b = true then (v = 0 ∨ v = 1) else rg B v) ∧ (if c = true then (w = 0 ∨ w = 1) else rg B w) := by
    intro b c t e
    rw [e] at hty
    obtain ⟨v, st, rfl, z1, z2⟩ := p_ty1 hty
    obtain ⟨w, st, rfl, z3, z4⟩ := p_ty1 z2
    exact ⟨v, w, st, rfl, z1, z3⟩
  have nle : ¬ I c 4 ≤ nI pc := by rw [C1, nI_leI (by omega) (by omega)]; omega
  refine b_Mc_workOut_2 hc (fun q => absurd q nle) (fun _ => c_Cd_opAt hc C1 hm6 hpm ?_)
  rw [C3, opC_w ho]
  have next : ∀ st I', p_work (mk B) nm cl (P pc).1 (P pc).2 stk = .ok st → KF I I' → KS I' st → aw_z X (d + 3) y_Mc_workOut Q 93 [some (.ref 4), some (.ref c), none, some (.int (nI pc)), none] [] (aw_s I' L D) := by
    intro st I' h k s
    refine b_Mc_workOut_93 (fun _ => ?_) (fun q => absurd (by rw [k.2 15 (by decide)]; exact hgo) q)
    rw [nI_1]
    exact h0 st I' h k s
  have stop : ∀ e I', e = 2 ∨ e = 3 → p_work (mk B) nm cl (P pc).1 (P pc).2 stk = .error e → KF I I' → aw_z X (d + 3) y_Mc_workOut Q 93 [some (.ref 4), some (.ref c), none, some (.int (nI pc)), none] [] (aw_s (aw_u (aw_u I' 4 15 e) 4 16 (I 4 11)) L D) := by
    intro e I' he h k
    refine b_Mc_workOut_93 (fun q => ?_) (fun _ => h1 e I' he h k)
    rw [au_k (by decide), au_s] at q
    rcases he with rfl | rfl <;> exact absurd q (by decide)
  generalize (P pc).2 = a at *
  generalize (P pc).1 = o at *
  have c13 : (nI (o - 1) ≤ (13 : Int32)) = True := by
    have : (nI (o - 1) ≤ (13 : Int32)) = (o - 1 ≤ 13) := nI_le' (b := 13) (by omega) (by decide)
    rw [this]; simp; omega
  have c1 : (nI (o - 1) = (1 : Int32)) = (o = 2) := by
    have : (nI (o - 1) = (1 : Int32)) = (o - 1 = 1) := eqI (k := 1) (by omega) (by omega)
    rw [this]; apply propext; omega
  have c2 : (nI (o - 1) = (2 : Int32)) = (o = 3) := by
    have : (nI (o - 1) = (2 : Int32)) = (o - 1 = 2) := eqI (k := 2) (by omega) (by omega)
    rw [this]; apply propext; omega
  have c3 : (nI (o - 1) = (3 : Int32)) = (o = 4) := by
    have : (nI (o - 1) = (3 : Int32)) = (o - 1 = 3) := eqI (k := 3) (by omega) (by omega)
    rw [this]; apply propext; omega
  have B0 := @b_Mc_workOut_15 X (d + 2) Q I L D c (nI pc) (nI (o - 1)) hc
  simp only [c13, c1, c2, c3, not_true_eq_false, true_implies, false_implies, implies_true] at B0
  refine B0 (fun q1 q2 q3 => ?_) (fun q1 q2 q3 => ?_) (fun q1 q2 => ?_) (fun q => ?_)
  · obtain ⟨v, w, st, rfl, hv, hw⟩ : ∃ v w st, stk = v :: w :: st ∧ (o ≤ 8 → rg B v ∧ rg B w) ∧ (13 ≤ o → (v = 0 ∨ v = 1) ∧ (w = 0 ∨ w = 1)) := by
      split at hL <;> first
        | (exfalso; omega)
        | (obtain ⟨t, q, -⟩ := hL; obtain ⟨v, w, st, e, a1, a2⟩ := two q; exact ⟨v, w, st, e, fun _ => ⟨a1, a2⟩, fun h => by omega⟩)
        | (obtain ⟨t, q, -⟩ := hL; obtain ⟨v, w, st, e, a1, a2⟩ := two q; exact ⟨v, w, st, e, fun h => by omega, fun _ => ⟨a1, a2⟩⟩)
        | (obtain ⟨t, q, -⟩ := hL; obtain ⟨v, w, st, e, a1, a2⟩ := two q; exact ⟨v, w, st, e, fun h => by omega, fun h => by omega⟩)
    exact c_Mc_operate (nm := nm) (cl := cl) (a := a) h6 hg ⟨by omega, ho.2⟩ hS hv hw (fun r I' e k s => next _ I' e k s) (fun I' e k => stop 2 I' (Or.inl rfl) e k)
  · subst q3
    obtain ⟨t, q, -⟩ := hL
    rw [q] at hty
    obtain ⟨v, st, rfl, hv, -⟩ := p_ty1 hty
    refine c_Mc_readCell h6 hv hS (fun I' q k s => b_Mc_workOut_84 (next _ I' ?_ k s)) (fun I' q k => b_Mc_workOut_84 (stop 3 I' (Or.inr rfl) ?_ k))
    · obtain ⟨j, hj, hj2, rfl⟩ := rg_nat h6 hv
      have : (nI j ≤ (7 : Int32)) = (j ≤ 7) := nI_le' (b := 7) (by omega) (by decide)
      have hj7 : j ≤ 7 := by rw [← this]; exact q
      simp only [p_work, if_pos q]
      rw [nI_clamp (show j < 2 ^ 31 by omega), hcl j (by omega)]
    · simp only [p_work, if_neg q]
  · subst q2
    obtain ⟨-, j, hj, hj2⟩ := hL
    refine c_Cd_argAt hc C1 hm6 hpm (b_Mc_workOut_65 ?_)
    rw [C4]
    rw [hj2] at next ⊢
    refine c_valueAt5 hj (b_Mc_workOut_68 (c_Mc_push hS (by omega) (fun I' k s => b_Mc_workOut_71 (next _ I' ?_ k s))))
    simp only [p_work]
    rw [nI_clamp (show j < 2 ^ 31 by omega), hnm j hj]
  · subst q
    refine c_Cd_argAt hc C1 hm6 hpm (b_Mc_workOut_38 ?_)
    rw [C4, hg]
    exact c_Mc_push hS (by omega) (fun I' k s => b_Mc_workOut_46 (next _ I' rfl k s))
end KW
