/-! PART 67: the class's reading: whole texts -/
section KTEX
variable {X : aw_X} {d : Nat} {Q : Option Value → aw_H → Prop} {I : Nat → Nat → Int32} {L : Nat → Nat → Int64} {D : Nat → Nat} {c : Nat} {T : TD} {S : PT}
/-- what a reading leaves of the heap -/
def FRT (c : Nat) (I0 I : Nat → Nat → Int32) (L0 L : Nat → Nat → Int64) : Prop := (∀ o, ¬ (c ≤ o ∧ o ≤ c + 4) → ¬ (60 ≤ o ∧ o ≤ 65) → I o = I0 o) ∧ ∀ o k, ¬ (o = c ∧ k = 10) → L o k = L0 o k
theorem l_restart {bt : Nat → Int32} {z : Nat} {I0 : Nat → Nat → Int32} (hT : KTp I0 bt z)
    (hQ : ∀ I' cnt ps TK TV TP, isToks bt z cnt ps TK TV TP → KTk cnt TK TV TP 0 I' → (∀ o, o ≠ 61 → o ≠ 62 → o ≠ 63 → o ≠ 64 → o ≠ 65 → I' o = I0 o) → (∀ j, j < 4 → I' 61 j = -1) → Q none (aw_s I' L D)) :
    ∀ (m k : Nat) (I : Nat → Nat → Int32), k + m = 4 → (∀ o, o ≠ 61 → I o = I0 o) → (∀ j, j < k → I 61 j = -1) → aw_z X (d + 13) y_Ps_restart Q 24 [some (.ref 60), none, some (.int (nI k))] [] (aw_s I L D) := by
  intro m
  induction m with
  | zero =>
    intro k I e hf h1
    have ek : k = 4 := by omega
    subst ek
    refine b_Ps_restart_24 (fun _ => c_Tk_readAll (bt := bt) (z := z) ⟨by rw [hf 2 (by decide)]; exact hT.1, hT.2.1, fun j hj => by rw [hf 3 (by decide)]; exact hT.2.2 j hj⟩ (fun I' cnt ps TK TV TP a1 a2 a3 => b_Ps_restart_53 (hQ I' cnt ps TK TV TP a1 a2 (fun o n1 n2 n3 n4 n5 => (a3 o n2 n3 n4 n5).trans (hf o n1)) (fun j hj => by rw [a3 61 (by decide) (by decide) (by decide) (by decide)]; exact h1 j hj)))) (fun q => absurd (by decide) q) (fun q => absurd (by decide) q)
  | succ m ih =>
    intro k I e hf h1
    have c4 : ¬ (4 : Int32) ≤ nI k := by
      have : ((4 : Int32) ≤ nI k) = (4 ≤ k) := nI_le' (a := 4) (by decide) (by omega)
      rw [this]; omega
    refine b_Ps_restart_24 (fun q => absurd q c4) (fun _ => aw_in_nI (by omega) (by decide)) (fun _ => ?_)
    rw [nI_1, nI_clamp (show k < 2 ^ 31 by omega)]
    refine ih (k + 1) _ (by omega) (fun o ho => by rw [au_o ho]; exact hf o ho) (fun j hj => ?_)
    by_cases g : j = k
    · subst g; exact au_s _ _ _ _
    · rw [au_k g]; exact h1 j (by omega)
/-- the reader begins a text -/
theorem k_restart {bt : Nat → Int32} {z : Nat} (hc : c ∈ aw_codes) (hT : KTp I bt z)
    (hQ : ∀ I' L' T ps, isToks bt z T.1 ps (tK T) (tV T) (tP T) → KP c T PT0 I' L' → FRT c I I' L L' → I' 60 3 = 0 → Q none (aw_s I' L' (va_up D 6 c))) : aw_m X (d + 13) y_Ps_restart [.ref 60, .ref c] (aw_s I L D) Q := by
  obtain ⟨b1, b2⟩ := codes_bd hc
  refine aw_go rfl rfl (b_Ps_restart_0 hc (c_Cd_clear hc (b_Ps_restart_12 ?_)))
  generalize eI : aw_u (aw_u (aw_u (aw_u (aw_u (aw_u (aw_u (aw_u I c 4 0) c 5 0) c 6 0) c 7 0) c 8 0) c 9 0) 60 3 0) 60 4 0 = I1
  have f : ∀ o, o ≠ c → o ≠ 60 → I1 o = I o := fun o x y => by rw [← eI, au_o y, au_o y, au_o x, au_o x, au_o x, au_o x, au_o x, au_o x]
  have g : ∀ k, 4 ≤ k → k ≤ 9 → I1 c k = 0 := fun k h1 h2 => by
    rw [← eI, au_o (show c ≠ 60 by omega), au_o (show c ≠ 60 by omega)]
    rcases (show k = 4 ∨ k = 5 ∨ k = 6 ∨ k = 7 ∨ k = 8 ∨ k = 9 by omega) with rfl | rfl | rfl | rfl | rfl | rfl
    · rw [au_k (by decide), au_k (by decide), au_k (by decide), au_k (by decide), au_k (by decide), au_s]
    · rw [au_k (by decide), au_k (by decide), au_k (by decide), au_k (by decide), au_s]
    · rw [au_k (by decide), au_k (by decide), au_k (by decide), au_s]
    · rw [au_k (by decide), au_k (by decide), au_s]
    · rw [au_k (by decide), au_s]
    · rw [au_s]
  refine l_restart (bt := bt) (z := z) (I0 := I1) ⟨by rw [f 2 (by omega) (by decide)]; exact hT.1, hT.2.1, fun j hj => by rw [f 3 (by omega) (by decide)]; exact hT.2.2 j hj⟩ (fun I' cnt ps TK TV TP a1 a2 a3 a4 => ?_) 4 0 I1 rfl (fun _ _ => rfl) (fun j h => by omega)
  have fc : ∀ k, k ≤ 4 → I' (c + k) = I1 (c + k) := fun k hk => a3 _ (by omega) (by omega) (by omega) (by omega) (by omega)
  have f0 : I' c = I1 c := fc 0 (by decide)
  refine hQ I' _ (cnt, TK, TV, TP) ps a1 ⟨a2, by rw [f0]; exact g 4 (by decide) (by decide), by rw [f0]; exact g 5 (by decide) (by decide), by rw [f0]; exact g 6 (by decide) (by decide), by rw [f0]; exact g 7 (by decide) (by decide), by rw [f0]; exact g 8 (by decide) (by decide), by rw [f0]; exact g 9 (by decide) (by decide), au_s _ _ _ _, fun j hj => absurd hj (by show ¬ j < min 0 600; omega), fun j hj => absurd hj (by show ¬ j < min 0 20; omega), fun j hj => absurd hj (by show ¬ j < 0; omega), a4, Nat.zero_le _, Nat.zero_le _, Nat.zero_le _⟩ ⟨fun o h1 h2 => ?_, fun o k h => ?_⟩ ?_
  · rw [a3 o (by omega) (by omega) (by omega) (by omega) (by omega)]; exact f o (by omega) (by omega)
  · by_cases ho : o = c
    · subst ho; exact au_k (fun x => h ⟨rfl, x⟩)
    · rw [au_o ho]
  · rw [a3 60 (by decide) (by decide) (by decide) (by decide) (by decide), ← eI, au_k (by decide), au_s]
theorem l_procs (hc : c ∈ aw_codes) (hT : tOK T) (hD : D 6 = c) {d : Nat} {Q : Option Value → aw_H → Prop} (hd : 200 ≤ d) {I0 : Nat → Nat → Int32} {L0 : Nat → Nat → Int64} : ∀ (f : Nat) (S : PT) (I : Nat → Nat → Int32) (L : Nat → Nat → Int64), f ≤ 501 → KP c T S I L → FRK c I0 I L0 L →
    (∀ v I' L', KRes c T I0 L0 (prl T f S) v I' L' → Q (some (.int v)) (aw_s I' L' D)) →
    aw_z X (d + 1) y_Ps_readProcs Q 2 [some (.ref 60), some (.int (nI (501 - f))), none, none] [] (aw_s I L D) := by
  intro f
  induction f with
  | zero =>
    intro S I L _ h fr hQ
    exact b_Ps_readProcs_2 (fun _ => hQ 1 I L (KRes.ok fr h)) (fun q => absurd (by decide) q) (fun q => absurd (by decide) q)
  | succ f ih =>
    intro S I L hf h fr hQ
    have cc : ((501 : Int32) ≤ nI (501 - (f + 1))) = (501 ≤ 501 - (f + 1)) := nI_le' (a := 501) (by decide) (by omega)
    have en : nI (501 - (f + 1)) + 1 = nI (501 - f) := by rw [nI_1, show 501 - (f + 1) + 1 = 501 - f by omega]
    have B0 := @b_Ps_readProcs_2 X d Q I L D (nI (501 - (f + 1)))
    rw [cc, h.tok.1] at B0
    refine B0 (fun q => absurd q (by omega)) (fun _ q => ?_) (fun _ q => ?_)
    · rw [prl, if_neg q] at hQ
      exact hQ 1 I L (KRes.ok fr h)
    · rw [prl, if_pos q] at hQ
      refine k_adv hc hT h (by rw [q]; decide) (by rw [q]; decide) (fun I1 k1 f1 => ?_)
      have fr1 := fr.tr f1
      have et : ti (adv S) = ti S + 1 := rfl
      have B1 := @b_Ps_readProcs_27 X d Q I1 L D (nI (501 - (f + 1)))
      rw [k1.tok.1, k1.tok.2.2.1, et] at B1
      have no : ¬ tK T (ti S + 1) = 3 → aw_z X (d + 1) y_Ps_readProcs Q 59 [some (.ref 60), none, none, none] [] (aw_s I1 L D) := fun q => by
        rw [if_neg q] at hQ
        exact b_Ps_readProcs_59 (k_fail hc k1 (fun I' r => b_Ps_readProcs_64 (Or.inl rfl) (hQ 0 I' L (r.tr fr1))))
      by_cases q3 : tK T (ti S + 1) = 3
      · obtain ⟨v, hv, ev⟩ := hT.2.2.2.2.2.1 (ti S + 1) k1.tok.2.2.2 q3
        have a11 := k1.2.2.2.2.2.2.2.2.2.2.2.1 v hv
        rw [ev, nI_clamp (show v < 2 ^ 31 by omega), a11] at B1
        rw [if_pos q3, ev, nI_clamp (show v < 2 ^ 31 by omega)] at hQ
        have c0 : ¬ nI v < 0 := nI_pos (by omega)
        have c1 : (nI v < (4 : Int32)) = (v < 4) := nI_lt' (b := 4) (by omega) (by decide)
        rw [c1] at B1
        refine B1 (fun q2 => absurd q3 q2) (fun _ q2 => absurd q2 c0) (fun _ _ _ => aw_in_nI hv (by decide)) (fun _ _ _ q4 => ?_) (fun _ _ _ q4 => ?_) (fun _ _ q2 => absurd hv q2)
        · have q4 : cR S v = -1 := q4
          rw [if_pos q4] at hQ
          refine k_adv hc hT k1 (by rw [et, q3]; decide) (by rw [et, q3]; decide) (fun I2 k2 f2 => ?_)
          have B2 := @b_Ps_readProcs_88 X d Q I2 L D (nI (501 - (f + 1))) (nI v) c hD hc
          rw [k2.2.1] at B2
          have hbl : KC X c T D (16 * 9 + 24 + 3) y_Ps_block [.ref 60, .int 0] (blo T 10 (bkI T 10)) := k_block (k := 10) (N := 16 * 9 + 24) hc hT (by decide) (fun _ => k_bkI hc hT hD 9 (by decide))
          refine B2 (hbl d (by omega) _ I2 L _ k2 (fun w I3 L3 r => ?_))
          refine KRes.pb hQ (r.tr (fr1.tr f2)) (fun e0 r2 => ?_) (fun S3 hR hQ e1 fr3 k3 => ?_)
          · subst e0; exact b_Ps_readProcs_101 hD hc (fun q => absurd rfl q) (fun _ => r2)
          · subst e1
            refine b_Ps_readProcs_101 hD hc (fun _ => k_add (o := 24) hc k3 (fun I4 k4 f4 => b_Ps_readProcs_116 (aw_in_nI hv (by decide)) ?_)) (fun q => absurd q (by decide))
            rw [en, nI_clamp (show v < 2 ^ 31 by omega)]
            obtain ⟨b1, b2⟩ := codes_bd hc
            refine ih _ _ L3 (by omega) ?_ (fr3.tr (f4.k.tr ⟨fun o _ x _ => au_o x, fun _ _ _ => rfl⟩)) hQ
            obtain ⟨a0, a1, a2, a3, a4, a5, a6, a7, a8, a9, a10, a11, a12⟩ := k4
            refine ⟨a0.fr (au_o (by decide)) (au_o (by decide)) (au_o (by decide)) (au_o (by decide)), by rw [au_o (by omega)]; exact a1, by rw [au_o (by omega)]; exact a2, by rw [au_o (by omega)]; exact a3, by rw [au_o (by omega)]; exact a4, by rw [au_o (by omega)]; exact a5, by rw [au_o (by omega)]; exact a6, a7, fun j hj => by rw [au_o (by omega), au_o (by omega)]; exact a8 j hj, fun j hj => by rw [au_o (by omega)]; exact a9 j hj, fun j hj => by rw [au_o (by omega)]; exact a10 j hj, fun j hj => ?_, a12⟩
            show aw_u I4 61 v (nI (min (cn S) 600)) 61 j = va_up (cR S3) v (nI (min (cn S) 600)) j
            by_cases g : j = v
            · subst g; rw [up_s, au_s]
            · rw [up_n _ _ g, au_k g]; exact a11 j hj
        · have q4 : ¬ cR S v = -1 := q4
          rw [if_neg q4] at hQ
          exact k_fail hc k1 (fun I' r => b_Ps_readProcs_80 (Or.inl rfl) (hQ 0 I' L (r.tr fr1)))
      · exact B1 (fun _ => no q3) (fun q2 => absurd q2 q3) (fun q2 => absurd q2 q3) (fun q2 => absurd q2 q3) (fun q2 => absurd q2 q3) (fun q2 => absurd q2 q3)
theorem k_procs (hc : c ∈ aw_codes) (hT : tOK T) (hD : D 6 = c) : KC X c T D 201 y_Ps_readProcs [.ref 60] (prl T 501) := by
  intro e he S I L Q h hQ
  obtain ⟨d, rfl⟩ : ∃ d, e = d + 1 := ⟨e - 1, by omega⟩
  exact aw_go rfl rfl (b_Ps_readProcs_0 (l_procs hc hT hD (by omega) 501 S I L (by omega) h FRK.rf hQ))
theorem l_steps (hc : c ∈ aw_codes) (hT : tOK T) (hD : D 6 = c) {d : Nat} {Q : Option Value → aw_H → Prop} (hd : 200 ≤ d) {I0 : Nat → Nat → Int32} {L0 : Nat → Nat → Int64} : ∀ (f : Nat) (S : PT) (I : Nat → Nat → Int32) (L : Nat → Nat → Int64), f ≤ 501 → KP c T S I L → FRK c I0 I L0 L →
    (∀ v I' L', KRes c T I0 L0 (pb (stl T f S) (fun S' => .ok (em 25 0 S'))) v I' L' → Q (some (.int v)) (aw_s I' L' D)) →
    aw_z X (d + 1) y_Ps_readSteps Q 18 [some (.ref 60), some (.int 1), some (.int (nI (501 - f)))] [] (aw_s I L D) := by
  have fin : ∀ (S : PT) (I : Nat → Nat → Int32) (L : Nat → Nat → Int64), KP c T S I L → FRK c I0 I L0 L → (∀ v I' L', KRes c T I0 L0 (.ok (em 25 0 S)) v I' L' → Q (some (.int v)) (aw_s I' L' D)) → aw_z X (d + 1) y_Ps_readSteps Q 52 [some (.ref 60), some (.int 1), none] [] (aw_s I L D) :=
    fun S I L h fr hQ => b_Ps_readSteps_52 hD hc (k_add (o := 25) hc h (fun I2 k2 f2 => b_Ps_readSteps_62 (Or.inr rfl) (hQ 1 I2 L (KRes.ok (fr.tr f2.k) k2))))
  intro f
  induction f with
  | zero =>
    intro S I L _ h fr hQ
    exact b_Ps_readSteps_18 (fun _ => fin S I L h fr hQ) (fun q => absurd (by decide) q) (fun q => absurd (by decide) q) (fun q => absurd (by decide) q)
  | succ f ih =>
    intro S I L hf h fr hQ
    have cc : ((501 : Int32) ≤ nI (501 - (f + 1))) = (501 ≤ 501 - (f + 1)) := nI_le' (a := 501) (by decide) (by omega)
    have en : nI (501 - (f + 1)) + 1 = nI (501 - f) := by rw [nI_1, show 501 - (f + 1) + 1 = 501 - f by omega]
    have B0 := @b_Ps_readSteps_18 X d Q I L D 1 (nI (501 - (f + 1)))
    rw [cc, h.tok.1] at B0
    have hst : KC X c T D (16 * 10 + 24) y_Ps_step [.ref 60, .int 0] (bkI T 11) := k_bkI hc hT hD 10 (by decide)
    refine B0 (fun q => absurd q (by omega)) (fun _ q => absurd q (by decide)) (fun _ _ q => ?_) (fun _ _ q => hst d (by omega) S I L _ h (fun v I1 L1 r => b_Ps_readSteps_45 ?_))
    · rw [stl, if_pos q] at hQ
      exact fin S I L h fr hQ
    · rw [stl, if_neg q] at hQ
      have r := r.tr fr
      rw [en]
      cases hR : bkI T 11 S with
      | error e =>
        rw [hR] at r hQ
        obtain rfl : v = 0 := r.2.1
        have k52 : aw_z X (d + 1) y_Ps_readSteps Q 52 [some (.ref 60), some (.int 0), none] [] (aw_s I1 L1 D) := b_Ps_readSteps_52 hD hc (k_addE (o := 25) hc r (fun I2 r2 => b_Ps_readSteps_62 (Or.inl rfl) (hQ 0 I2 L1 r2)))
        exact b_Ps_readSteps_18 (fun _ => k52) (fun _ _ => k52) (fun _ q => absurd rfl q) (fun _ q => absurd rfl q)
      | ok S2 =>
        rw [hR] at r hQ
        obtain ⟨fr2, rfl, k2⟩ := r
        exact ih S2 I1 L1 (by omega) k2 fr2 hQ
theorem k_steps (hc : c ∈ aw_codes) (hT : tOK T) (hD : D 6 = c) : KC X c T D 201 y_Ps_readSteps [.ref 60] (fun S => pb (stl T 501 (seB S)) (fun S' => .ok (em 25 0 S'))) := by
  intro e he S I L Q h hQ
  obtain ⟨b1, b2⟩ := codes_bd hc
  obtain ⟨d, rfl⟩ : ∃ d, e = d + 1 := ⟨e - 1, by omega⟩
  refine aw_go rfl rfl (b_Ps_readSteps_0 hD hc (l_steps (I0 := I) (L0 := L) hc hT hD (by omega) 501 (seB S) _ L (by omega) ?_ ⟨fun o _ _ _ => au_o (by omega), fun _ _ _ => rfl⟩ hQ))
  obtain ⟨a0, a1, a2, a3, a4, a5, a6, a7, a8, a9, a10, a11, a12⟩ := h
  exact ⟨a0.fr (au_o (by omega)) (au_o (by omega)) (au_o (by omega)) (au_o (by omega)), by rw [au_k (by decide)]; exact a1, by rw [au_s]; exact a1, by rw [au_k (by decide)]; exact a3, by rw [au_k (by decide)]; exact a4, by rw [au_k (by decide)]; exact a5, by rw [au_k (by decide)]; exact a6, a7, fun j hj => by rw [au_o (by omega), au_o (by omega)]; exact a8 j hj, fun j hj => by rw [au_o (by omega)]; exact a9 j hj, fun j hj => by rw [au_o (by omega)]; exact a10 j hj, fun j hj => by rw [au_o (by omega)]; exact a11 j hj, a12⟩
end KTEX
