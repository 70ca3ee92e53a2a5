/-! PART 56: the class's machine: what a run answers, and a traced run -/
section KTRA
variable {X : aw_X} {d : Nat} {Q : Option Value → aw_H → Prop} {D : Nat → Nat}
/-- the answer of a run: the name of the document that it leaves, or the harm -/
def p_out : PE → Int32
  | (e, _, (_, _, _, nm, _, _, _, _, _, _, _)) => if e = 0 then nm 7 else 100 + e
/-- the end of a traced run -/
def KTE (I0 : Nat → Nat → Int32) (L0 : Nat → Nat → Int64) (I : Nat → Nat → Int32) (L : Nat → Nat → Int64) : PE → Prop
  | (e, sp, (_, _, _, nm, cl, _, bg, ds, _, ys, tr)) =>
    (∀ o, o ≠ 4 → o ≠ 5 → o ≠ 6 → o ≠ 7 → o ≠ 8 → o ≠ 10 → I o = I0 o) ∧ (∀ k, k ≠ 4 → k ≠ 6 → k ≠ 7 → k ≠ 8 → k ≠ 9 → k ≠ 10 → k ≠ 11 → k ≠ 12 → k ≠ 13 → k ≠ 15 → k ≠ 16 → k ≠ 19 → I 4 k = I0 4 k) ∧ (∀ o, o ≠ 4 → o ≠ 9 → L o = L0 o) ∧ (∀ k, k ≠ 14 → L 4 k = L0 4 k) ∧
    (∀ k, k < 8 → I 5 k = nm k) ∧ (∀ k, k < 8 → I 6 k = cl k) ∧ I 4 12 = nI bg ∧ I 4 13 = nI ds.length ∧ L 4 14 = pathL ds ∧ (∀ k, k < 60 → I 10 k = nI (ys k)) ∧ L 9 = trL (L0 9) tr ∧ I 4 15 = e ∧ I 4 16 = sp ∧ I 4 19 = 0
theorem l_K_trace {c : Nat} {v2 v3 : Int32} {I0 : Nat → Nat → Int32} {L : Nat → Nat → Int64}
    (hk : ∀ I', (∀ o, o ≠ 10 → I' o = I0 o) → (∀ k, k < 60 → I' 10 k = 0) → aw_m X d y_Mc_launch [.ref 4, .ref c, .int v2, .int v3] (aw_s (aw_u I' 4 19 1) L D) (fun r A => aw_z X (d + 1) y_Mc_launchTraced Q 39 [some (.ref 4), none, none, none, none] (r.toList ++ []) A)) :
    ∀ (m k : Nat) (I : Nat → Nat → Int32), k + m = 60 → (∀ o, o ≠ 10 → I o = I0 o) → (∀ j, j < k → I 10 j = 0) → aw_z X (d + 1) y_Mc_launchTraced Q 3 [some (.ref 4), some (.ref c), some (.int v2), some (.int v3), some (.int (nI k))] [] (aw_s I L D) := by
  intro m
  induction m with
  | zero =>
    intro k I e hf h1
    have : k = 60 := by omega
    subst this
    exact b_Mc_launchTraced_3 (fun _ => hk I hf h1) (fun q => absurd (by decide) q) (fun q => absurd (by decide) q)
  | succ m ih =>
    intro k I e hf h1
    have h60 : ¬ (60 : Int32) ≤ nI k := by
      have : ((60 : Int32) ≤ nI k) = (60 ≤ k) := nI_le' (a := 60) (by decide) (by omega)
      rw [this]; omega
    refine b_Mc_launchTraced_3 (fun q => absurd q h60) (fun _ => aw_in_nI (by omega) (by decide)) (fun _ => ?_)
    rw [nI_clamp (show k < 2 ^ 31 by omega), nI_1]
    refine ih (k + 1) _ (by omega) (fun o h => by rw [au_o h]; exact hf o h) (fun j hj => ?_)
    by_cases q : j = k
    · subst q; rw [au_s]
    · rw [au_k q]; exact h1 j (by omega)
theorem c_Mc_launchTraced {P : Nat → Nat × Int32} {n st0 c : Nat} {ty : Nat → List Bool} {sg : Nat → Nat} {B T O F r : Nat} {I : Nat → Nat → Int32} {L : Nat → Nat → Int64} (hW : p_WF P n st0 ty sg) (hc : c ∈ aw_codes) (hP : CodeC P n c I) (hst : I c 5 = nI st0) (h1 : I 1 0 = nI B) (h2 : I 1 1 = nI T) (hk : SZok B T O) (hF0 : 0 < F) (hF : F ≤ 40) (hr : r < 2 ^ (B * (T + O))) {N : Nat} {E : PE}
    (hrun : p_run P (mk B) F (ansF B T O (nI r) (-1)) N (ps0 st0 (rowNm B T (nI r)) (fun _ => 0)) = some E)
    (hQ : ∀ I' L', KTE I L I' L' E → Q none (aw_s I' L' D)) : aw_m X (d + 6) y_Mc_launchTraced [.ref 4, .ref c, .int (nI r), .int (nI F)] (aw_s I L D) Q := by
  have hc2 : c = 30 ∨ c = 35 ∨ c = 40 ∨ c = 45 ∨ c = 50 ∨ c = 55 := by simpa [aw_codes] using hc
  have hc4 : ∀ k, k ≤ 4 → c + k ≠ 4 ∧ c + k ≠ 10 := fun k hk => by
    rcases hc2 with h | h | h | h | h | h <;> rw [h] <;> exact ⟨fun e => by omega, fun e => by omega⟩
  refine aw_go rfl rfl (b_Mc_launchTraced_0 (l_K_trace (I0 := I) (fun I1 f1 f2 => ?_) 60 0 I rfl (fun _ _ => rfl) (fun _ h => absurd h (Nat.not_lt_zero _))))
  have fr : ∀ o, o ≠ 4 → o ≠ 10 → aw_u I1 4 19 1 o = I o := fun o a b => by rw [au_o a]; exact f1 o b
  refine c_Mc_launch hW hc (hP.fr (by rw [fr c (hc4 0 (by decide)).1 (hc4 0 (by decide)).2]) (fr (c + 1) (hc4 1 (by decide)).1 (hc4 1 (by decide)).2) (fr (c + 2) (hc4 2 (by decide)).1 (hc4 2 (by decide)).2)) ?_ ?_ ?_ hk hF0 hF hr hrun (fun I' L' h => b_Mc_launchTraced_39 (hQ _ _ ?_))
  · rw [fr c (hc4 0 (by decide)).1 (hc4 0 (by decide)).2]; exact hst
  · rw [fr 1 (by decide) (by decide)]; exact h1
  · rw [fr 1 (by decide) (by decide)]; exact h2
  · obtain ⟨e, sp, pc, stk, cs, nm, cl, sp0, bg, ds, ak, ys, tr⟩ := E
    obtain ⟨a1, a2, a3, a4, ⟨b1, b2, b3, b4, b5, b6, b7⟩, a5, a6⟩ := h
    refine ⟨fun o x1 x2 x3 x4 x5 x6 => by rw [au_o x1, a1 o x1 x2 x3 x4 x5 x6]; exact fr o x1 x6, fun k x1 x2 x3 x4 x5 x6 x7 x8 x9 x10 x11 x12 => by rw [au_k x12, a2 k x1 x2 x3 x4 x5 x6 x7 x8 x9 x10 x11, au_k x12, f1 4 (by decide)], a3, a4, fun k hk => by rw [au_o (by decide)]; exact b1 k hk, fun k hk => by rw [au_o (by decide)]; exact b2 k hk, by rw [au_k (by decide)]; exact b3, by rw [au_k (by decide)]; exact b4, b5, fun k hk => ?_, ?_, by rw [au_k (by decide)]; exact a5, by rw [au_k (by decide)]; exact a6, au_s _ _ _ _⟩
    · rw [au_o (by decide), b6 k hk, au_o (by decide), f2 k hk, Int32.zero_add]
    · rw [au_s, if_neg (by decide)] at b7
      exact b7
end KTRA
