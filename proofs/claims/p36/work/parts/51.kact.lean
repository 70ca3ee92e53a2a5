/-! PART 51: the class's machine: one act -/
theorem KRfr.au {I0 I : Nat → Nat → Int32} {L0 L : Nat → Nat → Int64} (h : KRfr I0 I L0 L) {o k : Nat} {v : Int32} (ho : (o = 4 ∧ (k = 4 ∨ k = 6 ∨ k = 8 ∨ k = 11 ∨ k = 12 ∨ k = 13 ∨ k = 15 ∨ k = 16)) ∨ o = 5 ∨ o = 6 ∨ o = 7 ∨ o = 8 ∨ o = 10) : KRfr I0 (aw_u I o k v) L0 L := by
  obtain ⟨a1, a2, a3, a4⟩ := h
  refine ⟨fun q h1 h2 h3 h4 h5 h6 => ?_, fun q h1 h2 h3 h4 h5 h6 h7 h8 => ?_, a3, a4⟩
  · rw [au_o (by rcases ho with h | h | h | h | h | h <;> omega)]; exact a1 q h1 h2 h3 h4 h5 h6
  · rw [au_ok (by rcases ho with h | h | h | h | h | h <;> omega)]; exact a2 q h1 h2 h3 h4 h5 h6 h7 h8
theorem KRfr.al {I0 I : Nat → Nat → Int32} {L0 L : Nat → Nat → Int64} (h : KRfr I0 I L0 L) {o k : Nat} {v : Int64} (hk : (o = 4 ∧ k = 14) ∨ o = 9) : KRfr I0 I L0 (aw_u L o k v) := by
  obtain ⟨a1, a2, a3, a4⟩ := h
  exact ⟨a1, a2, fun q h1 h2 => by rw [au_o (by omega)]; exact a3 q h1 h2, fun q h1 => by rw [au_ok (by omega)]; exact a4 q h1⟩
theorem KRfr.kf {I0 I I' : Nat → Nat → Int32} {L0 L : Nat → Nat → Int64} (h : KRfr I0 I L0 L) (k : KF I I') : KRfr I0 I' L0 L := by
  obtain ⟨a1, a2, a3, a4⟩ := h
  exact ⟨fun q h1 h2 h3 h4 h5 h6 => by rw [k.1 q h1 h4]; exact a1 q h1 h2 h3 h4 h5 h6, fun q h1 h2 h3 h4 h5 h6 h7 h8 => by rw [k.2 q h1]; exact a2 q h1 h2 h3 h4 h5 h6 h7 h8, a3, a4⟩
theorem KRst.kf {I0 I I' : Nat → Nat → Int32} {L0 L : Nat → Nat → Int64} {nm cl : Nat → Int32} {bg : Nat} {ds : List Bool} {ys : Nat → Nat} {tr : List (Nat × (Nat → Int32))} (h : KRst I0 L0 nm cl bg ds ys tr I L) (k : KF I I') : KRst I0 L0 nm cl bg ds ys tr I' L := by
  obtain ⟨b1, b2, b3, b4, b5, b6, b7⟩ := h
  exact ⟨fun j hj => by rw [k.1 5 (by decide) (by decide)]; exact b1 j hj, fun j hj => by rw [k.1 6 (by decide) (by decide)]; exact b2 j hj, by rw [k.2 12 (by decide)]; exact b3, by rw [k.2 13 (by decide)]; exact b4, b5, fun j hj => by rw [k.1 10 (by decide) (by decide)]; exact b6 j hj, b7⟩
/-- fields of the machine itself that a state's names and rows do not lie in -/
theorem KRst.a4 {I0 I : Nat → Nat → Int32} {L0 L : Nat → Nat → Int64} {nm cl : Nat → Int32} {bg : Nat} {ds : List Bool} {ys : Nat → Nat} {tr : List (Nat × (Nat → Int32))} (h : KRst I0 L0 nm cl bg ds ys tr I L) {k : Nat} {v : Int32} (hk : k ≠ 12) (hk2 : k ≠ 13) : KRst I0 L0 nm cl bg ds ys tr (aw_u I 4 k v) L := by
  obtain ⟨b1, b2, b3, b4, b5, b6, b7⟩ := h
  exact ⟨fun j hj => by rw [au_o (by decide)]; exact b1 j hj, fun j hj => by rw [au_o (by decide)]; exact b2 j hj, by rw [au_k (fun e => hk e.symm)]; exact b3, by rw [au_k (fun e => hk2 e.symm)]; exact b4, b5, fun j hj => by rw [au_o (by decide)]; exact b6 j hj, b7⟩
def KT (B T r : Nat) (rule : Int32) (cs : List Nat) (sp : Int32) (ak : Nat) (I : Nat → Nat → Int32) : Prop := CRf (I 8) cs ∧ I 4 6 = nI cs.length ∧ I 4 11 = sp ∧ I 4 15 = -1 ∧ (rule = -1 → I 4 8 = nI (r / 2 ^ (B * (T + ak))))
theorem KT.kf {B T r : Nat} {rule : Int32} {cs : List Nat} {sp : Int32} {ak : Nat} {I I' : Nat → Nat → Int32} (h : KT B T r rule cs sp ak I) (k : KF I I') : KT B T r rule cs sp ak I' := by
  obtain ⟨a1, a2, a3, a4, a5⟩ := h
  exact ⟨by rw [k.1 8 (by decide) (by decide)]; exact a1, by rw [k.2 6 (by decide)]; exact a2, by rw [k.2 11 (by decide)]; exact a3, by rw [k.2 15 (by decide)]; exact a4, fun q => by rw [k.2 8 (by decide)]; exact a5 q⟩
theorem KT.o {B T r : Nat} {rule : Int32} {cs : List Nat} {sp : Int32} {ak : Nat} {I : Nat → Nat → Int32} {o k : Nat} {v : Int32} (h : KT B T r rule cs sp ak I) (ho : o ≠ 4) (ho2 : o ≠ 8) : KT B T r rule cs sp ak (aw_u I o k v) := by
  obtain ⟨a1, a2, a3, a4, a5⟩ := h
  exact ⟨by rw [au_o (fun e => ho2 e.symm)]; exact a1, by rw [au_o (fun e => ho e.symm)]; exact a2, by rw [au_o (fun e => ho e.symm)]; exact a3, by rw [au_o (fun e => ho e.symm)]; exact a4, fun q => by rw [au_o (fun e => ho e.symm)]; exact a5 q⟩
theorem KT.k {B T r : Nat} {rule : Int32} {cs : List Nat} {sp : Int32} {ak : Nat} {I : Nat → Nat → Int32} {k : Nat} {v : Int32} (h : KT B T r rule cs sp ak I) (h1 : k ≠ 6) (h2 : k ≠ 11) (h3 : k ≠ 15) (h4 : k ≠ 8) : KT B T r rule cs sp ak (aw_u I 4 k v) := by
  obtain ⟨a1, a2, a3, a4, a5⟩ := h
  exact ⟨by rw [au_o (by decide)]; exact a1, by rw [au_k (fun e => h1 e.symm)]; exact a2, by rw [au_k (fun e => h2 e.symm)]; exact a3, by rw [au_k (fun e => h3 e.symm)]; exact a4, fun q => by rw [au_k (fun e => h4 e.symm)]; exact a5 q⟩
theorem KS_as {I I' : Nat → Nat → Int32} {st : List Int32} (h : KS I st) (h1 : I' 4 4 = I 4 4) (h2 : I' 7 = I 7) : KS I' st := ⟨h1.trans h.1, by rw [h2]; exact h.2.1, h.2.2⟩
section KACT
variable {X : aw_X} {d : Nat} {Q : Option Value → aw_H → Prop} {I : Nat → Nat → Int32} {L : Nat → Nat → Int64} {D : Nat → Nat}
theorem KRE_end {I0 : Nat → Nat → Int32} {L0 : Nat → Nat → Int64} {nm cl : Nat → Int32} {bg : Nat} {ds : List Bool} {ys : Nat → Nat} {tr : List (Nat × (Nat → Int32))} {pc ak : Nat} {stk : List Int32} {cs : List Nat} {sp0 e sp : Int32} (hF : KRfr I0 I L0 L) (hS : KRst I0 L0 nm cl bg ds ys tr I L) :
    KRE I0 L0 (aw_u (aw_u I 4 15 e) 4 16 sp) L (e, sp, (pc, stk, cs, nm, cl, sp0, bg, ds, ak, ys, tr)) :=
  ⟨(hF.au (Or.inl ⟨rfl, by decide⟩)).au (Or.inl ⟨rfl, by decide⟩), (hS.a4 (by decide) (by decide)).a4 (by decide) (by decide), by rw [au_k (by decide), au_s], by rw [au_s]⟩
theorem c_Mc_beginStep {j bg : Nat} {nm : Nat → Int32} {v2 : Int32} (hb : bg ≤ 1000) (h12 : I 4 12 = nI bg) (hn : ∀ k, k < 8 → I 5 k = nm k)
    (hgo : ¬ 1000 < bg + 1 → (v2 = 0 ∨ I 4 13 < I 4 10) → Q none (aw_s (aw_u (aw_u I 4 11 (nI j)) 4 12 (nI (bg + 1))) (if I 4 19 = 0 then L else aw_u L 9 bg (wdS j nm)) D))
    (hend : (1000 < bg + 1 ∨ (¬ v2 = 0 ∧ ¬ I 4 13 < I 4 10)) → Q none (aw_s (aw_u (aw_u (aw_u (aw_u I 4 11 (nI j)) 4 12 (nI (bg + 1))) 4 15 5) 4 16 (nI j)) (if I 4 19 = 0 then L else aw_u L 9 bg (wdS j nm)) D)) :
    aw_m X (d + 1) y_Mc_beginStep [.ref 4, .int (nI j), .int v2] (aw_s I L D) Q := by
  have k16 : ∀ L1, L1 = (if I 4 19 = 0 then L else aw_u L 9 bg (wdS j nm)) → aw_z X (d + 1) y_Mc_beginStep Q 16 [some (.ref 4), some (.int (nI j)), some (.int v2)] [] (aw_s (aw_u I 4 11 (nI j)) L1 D) := by
    intro L1 e
    subst e
    have B0 := @b_Mc_beginStep_16 X d Q (aw_u I 4 11 (nI j)) (if I 4 19 = 0 then L else aw_u L 9 bg (wdS j nm)) D (nI j) v2
    have c1 : ((1000 : Int32) < nI (bg + 1)) = (1000 < bg + 1) := nI_lt' (a := 1000) (by decide) (by omega)
    rw [au_k (show (12 : Nat) ≠ 11 by decide), au_k (show (13 : Nat) ≠ 11 by decide), au_k (show (10 : Nat) ≠ 11 by decide), h12, nI_1, c1] at B0
    have ends : (1000 < bg + 1 ∨ (¬ v2 = 0 ∧ ¬ I 4 13 < I 4 10)) → aw_z X (d + 1) y_Mc_beginStep Q 51 [some (.ref 4), some (.int (nI j)), none] [] (aw_s (aw_u (aw_u I 4 11 (nI j)) 4 12 (nI (bg + 1))) (if I 4 19 = 0 then L else aw_u L 9 bg (wdS j nm)) D) := fun q =>
      b_Mc_beginStep_51 (c_Mc_finish (b_Mc_beginStep_57 (hend q)))
    exact B0 (fun q => ends (Or.inl q)) (fun q q2 => b_Mc_beginStep_57 (hgo q (Or.inl q2))) (fun q _ q3 => b_Mc_beginStep_57 (hgo q (Or.inr q3))) (fun _ q2 q3 => ends (Or.inr ⟨q2, q3⟩))
  refine aw_go rfl rfl (b_Mc_beginStep_0 (fun q => k16 L (by rw [if_pos q])) (fun q => ?_))
  exact c_Mc_noteBegun (s := j) (bg := bg) (nm := nm) (by omega) (by rw [au_k (by decide)]; exact h12) (au_s _ _ _ _) (fun k hk => by rw [au_o (by decide)]; exact hn k hk) (k16 _ (by rw [if_neg q]))
theorem c_Mc_nextAnswer {B T O F n c r ak : Nat} {P : Nat → Nat × Int32} {rule : Int32} {I0 : Nat → Nat → Int32} (hk : SZok B T O) (hr : r < 2 ^ (B * (T + O))) (hrl : rule = -1 ∨ rg B rule) (h7 : I 4 7 = mk B) (h9 : I 4 9 = rule) (h10 : I 1 0 = nI B) (h8 : rule = -1 → I 4 8 = nI (r / 2 ^ (B * (T + ak))))
    (hQ : ∀ I', (I' = I ∨ ∃ v, I' = aw_u I 4 8 v) → (rule = -1 → I' 4 8 = nI (r / 2 ^ (B * (T + (ak + 1))))) → Q (some (.int (ansF B T O (nI r) rule ak))) (aw_s I' L D)) : aw_m X d y_Mc_nextAnswer [.ref 4] (aw_s I L D) Q := by
  have h12 : 2 ^ (B * (T + O)) ≤ 2 ^ 12 := Nat.pow_le_pow_right (by decide) hk.2.2.2.2.2
  have B0 := @b_Mc_nextAnswer_0 X d Q I L D
  rw [h9] at B0
  refine aw_go rfl rfl (B0 (fun q => ?_) (fun q => ?_))
  · have hd : r / 2 ^ (B * (T + ak)) ≤ r := Nat.div_le_self _ _
    rw [h8 q, h7, h10, ans_coming hk hr, shr_nI hk.2.1 (by omega), pow_d]
    rw [q] at hQ
    exact hQ _ (Or.inr ⟨_, rfl⟩) (fun _ => au_s _ _ _ _)
  · rcases hrl with h | h
    · exact absurd h q
    · obtain ⟨j, hj, -, e⟩ := rg_nat hk.2.1 h
      have hn : ¬ rule < 0 := by rw [e]; exact nI_pos (by omega)
      have e2 : ansF B T O (nI r) rule ak = rule := by unfold ansF; rw [if_neg hn]
      rw [e2] at hQ
      exact hQ I (Or.inl rfl) (fun h => absurd h q)
theorem c_Mc_decide {B m : Nat} {v : Int32} {st : List Int32} (hv : v = 0 ∨ v = 1) (hm : m < 60) (h11 : I 4 11 = nI m) (hS : KS I (v :: st))
    (h0 : ∀ I', v = 0 → KF I I' → KS I' st → Q (some (.int 0)) (aw_s (aw_u I' 4 13 (I 4 13 + 1)) (aw_u L 4 14 (L 4 14 ||| ((1 : Int64) <<< (((40 : Int32) - (I 4 13 + 1)).toInt64 &&& 63)))) D))
    (h1 : ∀ I', v = 1 → KF I I' → KS I' st → Q (some (.int 1)) (aw_s (aw_u (aw_u I' 4 13 (I 4 13 + 1)) 10 m (I 10 m + 1)) L D)) : aw_m X (d + 1) y_Mc_decide [.ref 4] (aw_s I L D) Q := by
  refine aw_go rfl rfl (b_Mc_decide_0 (c_Mc_pop hS (fun I1 k1 s1 => ?_)))
  have c1 : ¬ nI m < 0 := nI_pos (by omega)
  have c2 : ¬ (60 : Int32) ≤ nI m := by
    have : ((60 : Int32) ≤ nI m) = (60 ≤ m) := nI_le' (a := 60) (by decide) (by omega)
    rw [this]; omega
  have e11 : I1 4 11 = nI m := by rw [k1.2 11 (by decide)]; exact h11
  have e13 : I1 4 13 = I 4 13 := k1.2 13 (by decide)
  have e10 : I1 10 = I 10 := k1.1 10 (by decide) (by decide)
  rcases hv with rfl | rfl
  · refine b_Mc_decide_4 (fun _ => ?_) (fun q => absurd rfl q)
    refine b_Mc_decide_12 (fun q => absurd rfl q) (fun q => absurd rfl q) (fun q => absurd rfl q) (fun q => absurd rfl q) (fun q => absurd rfl q) (fun q => absurd rfl q) (fun q => absurd rfl q) (fun q => absurd rfl q) (fun _ => Or.inl rfl) (fun _ => ?_)
    rw [e13]
    exact h0 I1 rfl k1 s1
  · refine b_Mc_decide_4 (fun q => absurd q (by decide)) (fun _ => ?_)
    have B0 := @b_Mc_decide_12 X d Q I1 L D 1
    rw [e11, e13, e10, nI_clamp (show m < 2 ^ 31 by omega)] at B0
    exact B0 (fun _ q => absurd q c1) (fun _ q => absurd q c1) (fun _ _ q => absurd q c2) (fun _ _ q => absurd q c2) (fun _ _ _ => aw_in_nI hm (by decide)) (fun _ _ _ => aw_in_nI hm (by decide)) (fun _ _ _ => Or.inr rfl) (fun _ _ _ => h1 I1 rfl k1 s1) (fun q => absurd q (by decide)) (fun q => absurd q (by decide))
theorem c_Mc_enter {x y : Nat} {t : Int32} (hx : x < 4) (h6 : I 4 6 = nI x) (h : Q (some (.int t)) (aw_s (aw_u (aw_u I 8 x (nI y)) 4 6 (nI (x + 1))) L D)) : aw_m X d y_Mc_enter [.ref 4, .int t, .int (nI y)] (aw_s I L D) Q := by
  have B0 := @b_Mc_enter_0 X d Q I L D t (nI y)
  have c1 : (nI x < 0) = False := by simp [nI_pos (show x < 2 ^ 31 by omega)]
  have c2 : ((4 : Int32) ≤ nI x) = False := by
    have : ((4 : Int32) ≤ nI x) = (4 ≤ x) := nI_le' (a := 4) (by decide) (by omega)
    rw [this]; simp; omega
  rw [h6, nI_clamp (show x < 2 ^ 31 by omega), nI_1] at B0
  simp only [c1, c2, not_false_eq_true, true_implies, false_implies, implies_true] at B0
  exact aw_go rfl rfl (B0 (aw_in_nI hx (by decide)) h)
theorem c_Mc_leave {x : Nat} (hx : x < 4) (h6 : I 4 6 = nI (x + 1)) (h : Q (some (.int (I 8 x))) (aw_s (aw_u I 4 6 (nI x)) L D)) : aw_m X d y_Mc_leave [.ref 4] (aw_s I L D) Q := by
  have B0 := @b_Mc_leave_0 X d Q I L D
  have c1 : (nI (x + 1) ≤ 0) = False := by simp [nI_nle (show 0 < x + 1 by omega) (by omega)]
  have c2 : ((4 : Int32) < nI (x + 1)) = False := by
    have : ((4 : Int32) < nI (x + 1)) = (4 < x + 1) := nI_lt' (a := 4) (by decide) (by omega)
    rw [this]; simp; omega
  rw [h6, nI_pred, nI_clamp (show x < 2 ^ 31 by omega)] at B0
  simp only [c1, c2, not_false_eq_true, true_implies, false_implies, implies_true] at B0
  exact aw_go rfl rfl (B0 (aw_in_nI hx (by decide)) h)
end KACT
