/-! PART 55: the class's machine: a run from its entry -/
section KLAUN
variable {X : aw_X} {d : Nat} {Q : Option Value → aw_H → Prop} {D : Nat → Nat}
/-- the end of a run, against the heap it began with -/
def KLE (I0 : Nat → Nat → Int32) (L0 : Nat → Nat → Int64) (I : Nat → Nat → Int32) (L : Nat → Nat → Int64) : PE → Prop
  | (e, sp, (_, _, _, nm, cl, _, bg, ds, _, ys, tr)) =>
    (∀ o, o ≠ 4 → o ≠ 5 → o ≠ 6 → o ≠ 7 → o ≠ 8 → o ≠ 10 → I o = I0 o) ∧ (∀ k, k ≠ 4 → k ≠ 6 → k ≠ 7 → k ≠ 8 → k ≠ 9 → k ≠ 10 → k ≠ 11 → k ≠ 12 → k ≠ 13 → k ≠ 15 → k ≠ 16 → I 4 k = I0 4 k) ∧ (∀ o, o ≠ 4 → o ≠ 9 → L o = L0 o) ∧ (∀ k, k ≠ 14 → L 4 k = L0 4 k) ∧
    KRst I0 L0 nm cl bg ds ys tr I L ∧ I 4 15 = e ∧ I 4 16 = sp
theorem c_Mc_launchAnswered {P : Nat → Nat × Int32} {n st0 c : Nat} {ty : Nat → List Bool} {sg : Nat → Nat} {B T O F r : Nat} {rule : Int32} {I : Nat → Nat → Int32} {L : Nat → Nat → Int64} (hW : p_WF P n st0 ty sg) (hc : c ∈ aw_codes) (hP : CodeC P n c I) (hst : I c 5 = nI st0) (h1 : I 1 0 = nI B) (h2 : I 1 1 = nI T) (hk : SZok B T O) (hF0 : 0 < F) (hF : F ≤ 40) (hrule : rule = -1 ∨ rg B rule) (hr : r < 2 ^ (B * (T + O))) {N : Nat} {E : PE}
    (hrun : p_run P (mk B) F (ansF B T O (nI r) rule) N (ps0 st0 (rowNm B T (nI r)) (fun _ => 0)) = some E)
    (hQ : ∀ I' L', KLE I L I' L' E → Q (some (.int E.1)) (aw_s I' L' D)) : aw_m X (d + 4) y_Mc_launchAnswered [.ref 4, .ref c, .int (nI r), .int (nI F), .int rule] (aw_s I L D) Q := by
  have h12 : 2 ^ (B * (T + O)) ≤ 2 ^ 12 := Nat.pow_le_pow_right (by decide) hk.2.2.2.2.2
  have han := ansF_rg (T := T) (O := O) (row := nI r) hk.2.1 (rule := rule) (fun h => by
    rcases hrule with q | q
    · rw [q] at h; exact absurd (by decide) h
    · exact q)
  refine aw_go rfl rfl (b_Mc_launchAnswered_0 (c_Mc_layRow hk (Nat.lt_of_lt_of_le hr h12) h1 h2 (fun I1 hI1 => b_Mc_launchAnswered_5 hc ?_)))
  obtain ⟨a1, a2, a3, a4, a5, a6, a7, a8, a9, a10, a11, a12⟩ := hI1
  have hc2 : c = 30 ∨ c = 35 ∨ c = 40 ∨ c = 45 ∨ c = 50 ∨ c = 55 := by simpa [aw_codes] using hc
  have hc4 : ∀ k, k ≤ 4 → c + k ≠ 4 ∧ c + k ≠ 5 ∧ c + k ≠ 6 := fun k hk => by
    rcases hc2 with h | h | h | h | h | h <;> rw [h] <;> exact ⟨fun e => by omega, fun e => by omega, fun e => by omega⟩
  have frI : ∀ o, o ≠ 4 → o ≠ 5 → o ≠ 6 → aw_u (aw_u I1 4 9 rule) 4 10 (nI F) o = I o := fun o x y z => by rw [au_o x, au_o x]; exact a1 o x y z
  have ec : aw_u (aw_u I1 4 9 rule) 4 10 (nI F) c 5 = nI st0 := by rw [frI c (hc4 0 (by decide)).1 (hc4 0 (by decide)).2.1 (hc4 0 (by decide)).2.2]; exact hst
  rw [ec]
  have hC : RunK P n c B T O F r rule (aw_u (aw_u I1 4 9 rule) 4 10 (nI F)) := by
    refine ⟨hc, hP.fr (by rw [frI c (hc4 0 (by decide)).1 (hc4 0 (by decide)).2.1 (hc4 0 (by decide)).2.2]) (frI (c + 1) (hc4 1 (by decide)).1 (hc4 1 (by decide)).2.1 (hc4 1 (by decide)).2.2) (frI (c + 2) (hc4 2 (by decide)).1 (hc4 2 (by decide)).2.1 (hc4 2 (by decide)).2.2), ?_, hk, hF, hrule, hr, ?_, ?_, ?_⟩
    · rw [frI 1 (by decide) (by decide) (by decide)]; exact h1
    · rw [au_k (by decide), au_k (by decide)]; exact a3
    · rw [au_k (by decide), au_s]
    · rw [au_s]
  obtain ⟨N2, E2, hr2, hend⟩ := run_ex (F := F) (an := ansF B T O (nI r) rule) (nm := rowNm B T (nI r)) (cl := fun _ => 0) hW hk.2.1 hF0 han (fun k _ => rowNm_rg hk.2.1 k) (fun _ _ => rg_0 B)
  have hEE : E = E2 := p_run_one hrun hr2
  have hE1 : ¬ E.1 = -1 := by
    rw [hEE]
    obtain ⟨e, sp, pc, stk, cs, nm, cl, sp0, bg, ds, ak, ys, tr⟩ := E2
    obtain ⟨j, hj, hj2⟩ := hend.1
    show ¬ e = -1
    intro h
    rw [hj2] at h
    have : ¬ nI j < 0 := nI_pos (Nat.lt_of_le_of_lt hj (by decide))
    rw [h] at this
    exact this (by decide)
  have hV := ps0_V (nm := rowNm B T (nI r)) (cl := fun _ => 0) hW
  refine l_launch hW hC han hE1 (L0 := aw_u L 4 14 0) (fun I' L' h => hQ I' L' ?_) N N (ps0 st0 (rowNm B T (nI r)) (fun _ => 0)) _ _ 0 (Nat.le_refl _) hrun (ps0_good hW hF0 (fun k _ => rowNm_rg hk.2.1 k) (fun _ _ => rg_0 B)) ⟨⟨fun _ _ _ _ _ _ _ => rfl, fun _ _ _ _ _ _ _ _ _ => rfl, fun _ _ _ => rfl, fun _ _ => rfl⟩, ⟨fun k hk => ?_, fun k hk => ?_, ?_, ?_, ?_, fun k hk => ?_, ?_⟩, ⟨?_, trivial, Nat.zero_le _⟩, trivial, ?_, ?_, ?_, fun _ => ?_⟩ (Nat.le_trans (Nat.add_le_add_left hV 0) (by decide))
  · obtain ⟨e, sp, pc, stk, cs, nm, cl, sp0, bg, ds, ak, ys, tr⟩ := E
    obtain ⟨⟨b1, b2, b3, b4⟩, ⟨c1, c2, c3, c4, c5, c6, c7⟩, b5, b6⟩ := h
    refine ⟨fun o x1 x2 x3 x4 x5 x6 => (b1 o x1 x2 x3 x4 x5 x6).trans (frI o x1 x2 x3), fun k x1 x2 x3 x4 x5 x6 x7 x8 x9 x10 x11 => ?_, fun o x1 x2 => (b3 o x1 x2).trans (au_o x1), fun k x => (b4 k x).trans (au_k x), ⟨c1, c2, c3, c4, c5, fun k hk => ?_, ?_⟩, b5, b6⟩
    · rw [b2 k x1 x2 x4 x7 x8 x9 x10 x11, au_k x6, au_k x5]
      exact a2 k x1 x2 x3 x4 x7 x8 x9 x10 x11
    · rw [c6 k hk, frI 10 (by decide) (by decide) (by decide)]
    · rw [au_k (by decide), au_k (by decide), a2 19 (by decide) (by decide) (by decide) (by decide) (by decide) (by decide) (by decide) (by decide) (by decide), au_o (by decide)] at c7
      exact c7
  · rw [au_o (by decide), au_o (by decide)]; exact a5 k hk
  · rw [au_o (by decide), au_o (by decide)]; exact a6 k hk
  · rw [au_k (by decide), au_k (by decide)]; exact a10
  · rw [au_k (by decide), au_k (by decide)]; exact a11
  · rw [au_s]; rfl
  · show _ = _ + nI 0
    rw [show nI 0 = (0 : Int32) from rfl, Int32.add_zero]
  · split <;> rfl
  · rw [au_k (by decide), au_k (by decide)]; exact a7
  · rw [au_k (by decide), au_k (by decide)]; exact a8
  · rw [au_k (by decide), au_k (by decide)]; exact a9
  · rw [au_k (by decide), au_k (by decide)]; exact a12
  · rw [au_k (by decide), au_k (by decide), Nat.add_zero]; exact a4
theorem c_Mc_launch {P : Nat → Nat × Int32} {n st0 c : Nat} {ty : Nat → List Bool} {sg : Nat → Nat} {B T O F r : Nat} {I : Nat → Nat → Int32} {L : Nat → Nat → Int64} (hW : p_WF P n st0 ty sg) (hc : c ∈ aw_codes) (hP : CodeC P n c I) (hst : I c 5 = nI st0) (h1 : I 1 0 = nI B) (h2 : I 1 1 = nI T) (hk : SZok B T O) (hF0 : 0 < F) (hF : F ≤ 40) (hr : r < 2 ^ (B * (T + O))) {N : Nat} {E : PE}
    (hrun : p_run P (mk B) F (ansF B T O (nI r) (-1)) N (ps0 st0 (rowNm B T (nI r)) (fun _ => 0)) = some E)
    (hQ : ∀ I' L', KLE I L I' L' E → Q (some (.int E.1)) (aw_s I' L' D)) : aw_m X (d + 5) y_Mc_launch [.ref 4, .ref c, .int (nI r), .int (nI F)] (aw_s I L D) Q :=
  aw_go rfl rfl (b_Mc_launch_0 (c_Mc_launchAnswered hW hc hP hst h1 h2 hk hF0 hF (Or.inl rfl) hr hrun (fun I' L' h => b_Mc_launch_8 (hQ I' L' h))))
end KLAUN
