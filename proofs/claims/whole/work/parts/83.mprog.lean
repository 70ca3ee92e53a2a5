/-! PART 83: the reference reads a whole program -/
section MPI
variable {X : aw_X} {d : Nat} {Q : Option Value → aw_H → Prop} {I : Nat → Nat → Int32} {L : Nat → Nat → Int64} {D : Nat → Nat}
theorem m_readProgram {bt : Nat → Int32} {z : Nat} {T : TD} {ps : Nat → Nat} (hT : MTp I bt z) (hts : isToks bt z T.1 ps (tK T) (tV T) (tP T))
    (hok : ∀ J S' I' L', rdP T PT0 = .ok S' → JR (aw_u (aw_u (aw_u I 69 29 5) 69 9 0) 74 5 0) J → MP (T, bt, z, ps, 0, 0, J, L) S' [] 10 [] I' L' → J 74 5 = nI (cB S') → Q (some (.int 1)) (aw_s (aw_u I' 73 5 (nI (cn S'))) L' D))
    (her : ∀ J e, rdP T PT0 = .error e → JR (aw_u (aw_u (aw_u I 69 29 5) 69 9 0) 74 5 0) J → FLp D (T, bt, z, ps, 0, 0, J, L) Q e) : aw_m X (d + 10) y_M_readProgram [.ref 69] (aw_s I L D) Q := by
  refine aw_go rfl rfl (b_M_readProgram_0 (m_begin hT hts (fun I1 L1 h1 _ => b_M_readProgram_5 ?_)))
  have h2 := h1.r74 (v := 0)
  have hC : mOK (rb (T, bt, z, ps, 0, 0, aw_u (aw_u I 69 29 5) 69 9 0, L) (aw_u (aw_u (aw_u I 69 29 5) 69 9 0) 74 5 0)) := ⟨hts, Nat.le_refl _, Nat.zero_le _⟩
  have h501 : T.1 ≤ 500 := hts.2.2.2.2
  refine l_mprl (X := X) (d := d) (D := D) (Q := Q) 501 (rb (T, bt, z, ps, 0, 0, aw_u (aw_u I 69 29 5) 69 9 0, L) (aw_u (aw_u (aw_u I 69 29 5) 69 9 0) 74 5 0)) PT0 hC rfl rfl (show aw_u (aw_u (aw_u I 69 29 5) 69 9 0) 74 5 0 74 5 = nI 0 from au_s _ _ _ _) (by show T.1 < 0 + 501; omega) (Nat.le_refl _) (fun J S' hJ e1 n5 h74 hG => ?_) (fun J e hJ he => her J e (by rw [rdP, show prl T 501 PT0 = .error e from he]; rfl) hJ) _ L1 h2
  have e1 : prl T 501 PT0 = .ok S' := e1
  have hCJ : mOK (rb (T, bt, z, ps, 0, 0, aw_u (aw_u I 69 29 5) 69 9 0, L) J) := hC
  have t := l_mstl (X := X) (d := d) (D := D) (Q := Q) hCJ rfl rfl 501 (seB S') true (fun _ => n5) (by show T.1 < ti S' + 501; omega) hG (fun S2 e2 hG2 I2 L2 h3 => ?_) (fun e he => her J e (by rw [rdP, e1, pb_ok, show stl T 501 (seB S') = .error e from he]; rfl) hJ)
  · exact fun I2 L2 h => t I2 L2 h
  · have e2 : stl T 501 (seB S') = .ok S2 := e2
    have hb := (Mb_stl T 501 _ _ e2).1
    exact hok J (em 25 0 S2) I2 L2 (by rw [rdP, e1, pb_ok, e2, pb_ok]) hJ h3 (by rw [h74]; exact congrArg nI hb.symm)
end MPI
