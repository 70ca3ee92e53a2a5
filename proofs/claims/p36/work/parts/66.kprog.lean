/-! PART 66: the class's reading: a step of each kind, programs, claims -/
section KPRO
variable {X : aw_X} {d : Nat} {Q : Option Value → aw_H → Prop} {I : Nat → Nat → Int32} {L : Nat → Nat → Int64} {D : Nat → Nat} {c : Nat} {T : TD} {S : PT}
theorem k_loop {N : Nat} {a : Int32} {b : PT → PR} {beg : Nat} (hc : c ∈ aw_codes) (hT : tOK T) (hD : D 6 = c) (hb : KC X c T D N y_Ps_block [.ref 60, .int a] b) : KC X c T D (N + 2) y_Ps_loop [.ref 60, .int a, .int (nI (min beg 600))] (lop b beg) := by
  intro e he S I L Q h hQ
  obtain ⟨d, rfl⟩ : ∃ d, e = d + 1 := ⟨e - 1, by omega⟩
  have B0 := @b_Ps_loop_0 X d Q I L D a (nI (min beg 600)) c hD hc
  rw [h.2.1] at B0
  refine aw_go rfl rfl (B0 (k_add (o := 21) hc h (fun I1 k1 f1 => b_Ps_loop_18 (hb d (by omega) _ I1 L _ k1 (fun v I2 L2 r => ?_)))))
  have r := r.tr f1.k
  unfold lop at hQ
  cases hR : b (em 21 0 S) with
  | error e =>
    rw [hR] at r hQ
    obtain rfl : v = 0 := r.2.1
    exact b_Ps_loop_23 hD hc (k_addE (o := 22) hc r (fun I3 r3 => b_Ps_loop_35 hD hc (k_patE hc r3 rfl (fun I4 r4 => b_Ps_loop_50 (Or.inl rfl) (hQ 0 I4 L2 r4)))))
  | ok S2 =>
    rw [hR] at r hQ
    obtain ⟨fr2, rfl, k2⟩ := r
    refine b_Ps_loop_23 hD hc (k_add (o := 22) hc k2 (fun I3 k3 f3 => ?_))
    have B1 := @b_Ps_loop_35 X d Q I3 L2 D (nI (min (cn S) 600)) 1 c hD hc
    rw [k3.2.1] at B1
    exact B1 (k_pat hc k3 rfl (fun I4 k4 f4 => b_Ps_loop_50 (Or.inr rfl) (hQ 1 I4 L2 (KRes.ok ((fr2.tr f3.k).tr f4.k) k4))))
theorem k_called (hc : c ∈ aw_codes) (hT : tOK T) (hD : D 6 = c) : KC X c T D 4 y_Ps_called [.ref 60] (cld T) := by
  intro e he S I L Q h hQ
  obtain ⟨d, rfl⟩ : ∃ d, e = d + 3 := ⟨e - 3, by omega⟩
  have B0 := @b_Ps_called_0 X (d + 2) Q I L D
  rw [h.tok.1, h.tok.2.2.1] at B0
  unfold cld at hQ
  have no : ¬ tK T (ti S) = 3 → aw_z X (d + 3) y_Ps_called Q 32 [some (.ref 60), none, none] [] (aw_s I L D) := fun q => by
    rw [if_neg q] at hQ
    exact b_Ps_called_32 (k_fail hc h (fun I' r => b_Ps_called_37 (Or.inl rfl) (hQ 0 I' L r)))
  by_cases q : tK T (ti S) = 3
  · obtain ⟨v, hv, ev⟩ := hT.2.2.2.2.2.1 (ti S) h.tok.2.2.2 q
    have a11 := h.2.2.2.2.2.2.2.2.2.2.2.1 v hv
    rw [ev, nI_clamp (show v < 2 ^ 31 by omega), a11] at B0
    rw [if_pos q, ev, nI_clamp (show v < 2 ^ 31 by omega)] at hQ
    have c0 : ¬ nI v < 0 := nI_pos (by omega)
    have c1 : (nI v < (4 : Int32)) = (v < 4) := nI_lt' (b := 4) (by omega) (by decide)
    rw [c1] at B0
    refine aw_go rfl rfl (B0 (fun q2 => absurd q q2) (fun _ q2 => absurd q2 c0) (fun _ _ _ => aw_in_nI hv (by decide)) (fun _ _ _ q4 => ?_) (fun _ _ _ q4 => ?_) (fun _ _ q2 => absurd hv q2))
    · rw [if_neg q4] at hQ
      exact k_adv hc hT h (by rw [q]; decide) (by rw [q]; decide) (fun I1 k1 f1 => b_Ps_called_63 (k_closing (o := 23) hc hT hD k1 (fun v I2 L2 r => b_Ps_called_70 r.e01 (hQ v I2 L2 (r.tr f1)))))
    · rw [if_pos q4] at hQ
      exact k_fail hc h (fun I' r => b_Ps_called_55 (Or.inl rfl) (hQ 0 I' L r))
  · exact aw_go rfl rfl (B0 (fun _ => no q) (fun q2 => absurd q2 q) (fun q2 => absurd q2 q) (fun q2 => absurd q2 q) (fun q2 => absurd q2 q) (fun q2 => absurd q2 q))
theorem k_asked (hc : c ∈ aw_codes) (hT : tOK T) (hD : D 6 = c) : KC X c T D 4 y_Ps_asked [.ref 60] (ask T) := by
  intro e he S I L Q h hQ
  obtain ⟨d, rfl⟩ : ∃ d, e = d + 3 := ⟨e - 3, by omega⟩
  have B0 := @b_Ps_asked_0 X (d + 2) Q I L D
  rw [h.tok.2.2.1] at B0
  refine aw_go rfl rfl (B0 (k_sign hc hT h (by decide) (by decide) (fun v I1 L1 r => ?_)))
  unfold ask at hQ
  cases hR : sgn T 2 S with
  | error e =>
    rw [hR] at r hQ
    obtain rfl : v = 0 := r.2.1
    exact b_Ps_asked_13 (fun _ => hQ 0 I1 L1 r) (fun q => absurd rfl q)
  | ok S1 =>
    rw [hR] at r hQ
    obtain ⟨fr1, rfl, k1⟩ := r
    refine b_Ps_asked_13 (fun q => absurd q (by decide)) (fun _ => k_closing (o := 19) hc hT hD k1 (fun v I2 L2 r => ?_))
    have r := r.tr fr1
    rcases r.e01 with rfl | rfl
    · exact b_Ps_asked_23 (fun _ => hQ 0 I2 L2 r) (fun q => absurd rfl q)
    · exact b_Ps_asked_23 (fun q => absurd q (by decide)) (fun _ => hQ 1 I2 L2 r)
theorem k_beginStep {K : Int32} (hc : c ∈ aw_codes) (h : KP c T S I L) (hs : cS S < 60) (hQ : ∀ I' L', KP c T (bst K S) I' L' → FRC c I I' L L' → Q none (aw_s I' L' D)) : aw_m X (d + 1) y_Cd_beginStep [.ref c, .int (p_b (decide (K = 8))), .int (p_b (decide (K = 10)))] (aw_s I L D) Q := by
  obtain ⟨b1, b2⟩ := codes_bd hc
  have fin : ∀ (v2 : Int32) (w : Bool) (I1 : Nat → Nat → Int32), w = decide (K = 10) → v2 = p_b w → KP c T (em (if K = 8 ∨ K = 10 then 1 else 0) (nI (cS S)) S) I1 L → FRC c I I1 L L → aw_z X (d + 1) y_Cd_beginStep Q 23 [some (.ref c), none, some (.int v2)] [] (aw_s I1 L D) := by
    intro v2 w I1 hw hv k1 f1
    have i6 : I1 c 6 = nI (cS S) := k1.2.2.2.1
    have B0 := @b_Cd_beginStep_23 X d Q I1 L D c v2 hc
    rw [i6, nI_1, k1.2.2.2.2.2.2.2.1] at B0
    obtain ⟨a0, a1, a2, a3, a4, a5, a6, a7, a8, a9, a10, a11, a12, a13, a14⟩ := k1
    have mk : ∀ L', (∀ o k, ¬ (o = c ∧ k = 10) → L' o k = L o k) → L' c 10 = whL (va_up (cW S) (cS S) w) (cS S + 1) → KP c T (bst K S) (aw_u I1 c 6 (nI (cS S + 1))) L' := by
      intro L' _ hL'
      refine ⟨a0.fr (au_o (by omega)) (au_o (by omega)) (au_o (by omega)) (au_o (by omega)), by rw [au_k (by decide)]; exact a1, by rw [au_k (by decide)]; exact a2, by rw [au_s]; rfl, by rw [au_k (by decide)]; exact a4, by rw [au_k (by decide)]; exact a5, by rw [au_k (by decide)]; exact a6, by rw [hL', hw]; rfl, fun j hj => ?_, fun j hj => ?_, fun j hj => ?_, fun j hj => ?_, ?_, a13, a14⟩
      · rw [au_o (by omega), au_o (by omega)]; exact a8 j hj
      · rw [au_o (by omega)]; exact a9 j hj
      · rw [au_o (by omega)]; exact a10 j hj
      · rw [au_o (by omega)]; exact a11 j hj
      · show cS S + 1 ≤ 60
        omega
    have fr : ∀ o, ¬ (c ≤ o ∧ o ≤ c + 4) → aw_u I1 c 6 (nI (cS S + 1)) o = I o := fun o ho => by rw [au_o (by omega)]; exact f1.1 o ho
    have wl : whL (va_up (cW S) (cS S) w) (cS S + 1) = if w = true then whL (cW S) (cS S) ||| bit64 (cS S) else whL (cW S) (cS S) := by
      simp only [whL, up_s, whL_up _ _ (Nat.le_refl _)]
    refine B0 (fun q => hQ _ L (mk L (fun _ _ _ => rfl) ?_) ⟨fr, fun _ _ _ => rfl⟩) (fun q => hQ _ _ (mk _ (fun o k ho => ?_) ?_) ⟨fr, fun o k ho => ?_⟩)
    · rw [wl]
      cases w with
      | false => exact a7
      | true => rw [hv] at q; exact absurd q (by decide)
    · by_cases g : o = c
      · subst g; exact au_k (fun x => ho ⟨rfl, x⟩)
      · rw [au_o g]
    · rw [wl, au_s]
      cases w with
      | false => rw [hv] at q; exact absurd rfl q
      | true => rfl
    · by_cases g : o = c
      · subst g; exact au_k (fun x => ho ⟨rfl, x⟩)
      · rw [au_o g]
  have k16 : ∀ (v2 : Int32), v2 = p_b (decide (K = 10)) → aw_z X (d + 1) y_Cd_beginStep Q 16 [some (.ref c), none, some (.int v2)] [.int (nI (opC (if K = 8 ∨ K = 10 then 1 else 0))), .ref c] (aw_s I L D) := by
    intro v2 hv
    have B0 := @b_Cd_beginStep_16 X d Q I L D c v2 (nI (opC (if K = 8 ∨ K = 10 then 1 else 0))) c hc hc
    rw [h.2.2.2.1] at B0
    exact B0 (k_add hc h (fun I1 k1 f1 => fin v2 _ I1 rfl hv k1 f1))
  refine aw_go rfl rfl (b_Cd_beginStep_0 (fun q => b_Cd_beginStep_9 ?_) (fun q q2 => ?_) (fun q q2 => b_Cd_beginStep_9 ?_))
  · have e : K = 8 := by
      by_cases g : K = 8
      · exact g
      · rw [decide_eq_false g] at q; exact absurd rfl q
    have := k16 _ rfl
    rw [if_pos (Or.inl e)] at this
    exact this
  · have e : ¬ (K = 8 ∨ K = 10) := by
      rintro (g | g)
      · rw [decide_eq_true g] at q; exact absurd q (by decide)
      · rw [decide_eq_true g] at q2; exact absurd q2 (by decide)
    have := k16 _ rfl
    rw [if_neg e] at this
    exact this
  · have e : K = 10 := by
      by_cases g : K = 10
      · exact g
      · rw [decide_eq_false g] at q2; exact absurd rfl q2
    have := k16 _ rfl
    rw [if_pos (Or.inr e)] at this
    exact this
/-- what follows a part that was read: a part that is read, or the fault -/
theorem KRes.pb {I0 I1 : Nat → Nat → Int32} {L0 L1 : Nat → Nat → Int64} {R : PR} {f : PT → PR} {v : Int32} {P : Prop} (hQ : ∀ v I' L', KRes c T I0 L0 (pb R f) v I' L' → Q (some (.int v)) (aw_s I' L' D)) (r : KRes c T I0 L0 R v I1 L1) (herr : v = 0 → Q (some (.int 0)) (aw_s I1 L1 D) → P)
    (hok : ∀ S, R = .ok S → (∀ v I' L', KRes c T I0 L0 (f S) v I' L' → Q (some (.int v)) (aw_s I' L' D)) → v = 1 → FRK c I0 I1 L0 L1 → KP c T S I1 L1 → P) : P := by
  cases R with
  | error e => exact herr r.2.1 (hQ 0 I1 L1 (by have := r; rw [this.2.1] at r; exact r))
  | ok S => exact hok S rfl hQ r.2.1 r.1 r.2.2
theorem k_step {k : Nat} {b : PT → PR} (hc : c ∈ aw_codes) (hT : tOK T) (hD : D 6 = c) (hk : k ≤ 10) (hb : KC X c T D (16 * k + 12) y_Ps_block [.ref 60, .int (nI (10 - k))] b) : KC X c T D (16 * k + 24) y_Ps_step [.ref 60, .int (nI (10 - k))] (stF T k b) := by
  intro e he S I L Q h hQ
  obtain ⟨d, rfl⟩ : ∃ d, e = d + 4 := ⟨e - 4, by omega⟩
  have B0 := @b_Ps_step_0 X (d + 3) Q I L D (nI (10 - k))
  rw [h.tok.1, h.tok.2.2.1] at B0
  generalize eK : tK T (ti S) = K at B0
  generalize eV : tV T (ti S) = V at B0
  have cs : (I c 6 < (60 : Int32)) = (cS S < 60) := by rw [h.2.2.2.1]; exact nI_lt' (b := 60) (by have := h.2.2.2.2.2.2.2.2.2.2.2.2.1; omega) (by decide)
  have yes : isSt K → aw_z X (d + 4) y_Ps_step Q 20 [some (.ref 60), some (.int (nI (10 - k))), some (.int K), some (.int V), none] [.int 1] (aw_s I L D) := by
    intro hK
    have n0 : K ≠ 0 := by intro g; rw [g] at hK; exact absurd hK (by unfold isSt; decide)
    have n1 : K ≠ 1 := by intro g; rw [g] at hK; exact absurd hK (by unfold isSt; decide)
    unfold stF at hQ
    rw [if_pos (by rw [eK]; exact hK)] at hQ
    have B1 := @b_Ps_step_20 X (d + 3) Q I L D (nI (10 - k)) K V 1 c hD hc
    rw [cs, h.2.1] at B1
    by_cases h60 : 60 ≤ cS S
    · rw [if_pos h60] at hQ
      exact B1 (fun _ q => absurd q (by omega)) (fun _ q => absurd q (by omega)) (fun _ _ => k_fail hc h (fun I' r => b_Ps_step_46 (Or.inl rfl) (hQ 0 I' L r))) (fun q => absurd q (by decide))
    · rw [if_neg h60, eK, eV] at hQ
      have k85 : ∀ (I1 : Nat → Nat → Int32) (L1 : Nat → Nat → Int64), KP c T (bst K S) I1 L1 → FRC c I I1 L L1 → aw_z X (d + 4) y_Ps_step Q 85 [some (.ref 60), some (.int (nI (10 - k))), some (.int K), some (.int V), some (.int (nI (min (cn S) 600)))] [] (aw_s I1 L1 D) := by
        intro I1 L1 k1 f1
        have et : tK T (ti (bst K S)) = K := eK
        refine b_Ps_step_85 (k_adv hc hT k1 (by rw [et]; exact n0) (by rw [et]; exact n1) (fun I2 k2 f2 => ?_))
        have fr2 := f1.k.tr f2
        have cond : ∀ {y : aw_Y} {Q' : Option Value → aw_H → Prop}, (∀ v I' L', KRes c T I L (cnd T k (adv (bst K S))) v I' L' → Q' (some (.int v)) (aw_s I' L' D)) → aw_m X (d + 3) y_Ps_cond [.ref 60, .int (nI (10 - k))] (aw_s I2 L1 D) Q' :=
          fun {y} {Q'} hQ' => k_cond hc hT hD hk (d + 3) (by omega) _ I2 L1 _ k2 (fun v I' L' r => hQ' v I' L' (r.tr fr2))
        have bs0 : K ≠ 8 → K ≠ 10 → bst K S = bst 0 S := fun a b => by
          unfold bst
          rw [if_neg (fun g => g.elim a b), if_neg (by decide), decide_eq_false b]
          rfl
        refine b_Ps_step_92 (fun q => ?_) (fun q2 q => ?_) (fun q2 q6 q => ?_) (fun q2 q6 q7 q => ?_) (fun q2 q6 q7 q8 q => ?_) (fun q2 q6 q7 q8 q10 q => ?_) (fun q2 q6 q7 q8 q10 q11 q => ?_) (fun q2 q6 q7 q8 q10 q11 q12 q => ?_) (fun q2 q6 q7 q8 q10 q11 q12 q13 => ?_)
        · -- NAME = SUM ;
          rw [if_neg (by rw [q]; decide), if_neg (by rw [q]; decide), if_neg (by rw [q]; decide), if_neg (by rw [q]; decide), if_pos q] at hQ
          rw [bs0 (by rw [q]; decide) (by rw [q]; decide)] at k2
          refine k_sign hc hT k2 (by decide) (by decide) (fun v I3 L3 r => ?_)
          refine KRes.pb hQ (r.tr fr2) (fun e0 r2 => ?_) (fun S3 hR hQ e1 fr3 k3 => ?_)
          · subst e0; exact b_Ps_step_256 (fun _ => r2) (fun q => absurd rfl q)
          · subst e1
            refine b_Ps_step_256 (fun q => absurd q (by decide)) (fun _ => k_rdI hc hT hD k hk (d + 3) (by omega) S3 I3 L3 _ k3 (fun v I4 L4 r => ?_))
            refine KRes.pb hQ (r.tr fr3) (fun e0 r2 => ?_) (fun S4 hR hQ e1 fr4 k4 => ?_)
            · subst e0; exact b_Ps_step_264 (fun _ => r2) (fun q => absurd rfl q)
            · subst e1
              refine b_Ps_step_264 (fun q => absurd q (by decide)) (fun _ => k_closing (o := 15) hc hT hD k4 (fun v I5 L5 r => ?_))
              have r := r.tr fr4
              rcases r.e01 with rfl | rfl
              · exact b_Ps_step_274 (fun _ => hQ 0 I5 L5 r) (fun q => absurd rfl q)
              · exact b_Ps_step_274 (fun q => absurd q (by decide)) (fun _ => hQ 1 I5 L5 r)
        · -- call
          rw [if_neg (by rw [q]; decide), if_neg (by rw [q]; decide), if_neg (by rw [q]; decide), if_neg (by rw [q]; decide), if_neg q2, if_neg (by rw [q]; decide), if_pos q] at hQ
          rw [bs0 (by rw [q]; decide) (by rw [q]; decide)] at k2
          exact k_called hc hT hD (d + 3) (by omega) _ I2 L1 _ k2 (fun v I3 L3 r => b_Ps_step_328 r.e01 (hQ v I3 L3 (r.tr fr2)))
        · -- cell
          rw [if_neg (by rw [q]; decide), if_neg (by rw [q]; decide), if_neg (by rw [q]; decide), if_neg (by rw [q]; decide), if_neg q2, if_pos q] at hQ
          rw [bs0 (by rw [q]; decide) (by rw [q]; decide)] at k2
          refine k_place (inn := rdI T k) (N := 12 * k + 2) hc hT hk (fun hk0 => ?_) (d + 3) (by omega) _ I2 L1 _ k2 (fun v I3 L3 r => ?_)
          · obtain ⟨k', rfl⟩ : ∃ k', k = k' + 1 := ⟨k - 1, by omega⟩
            exact fun e he => k_rdI hc hT hD k' (by omega) e (by omega)
          · refine KRes.pb hQ (r.tr fr2) (fun e0 r2 => ?_) (fun S3 hR hQ e1 fr3 k3 => ?_)
            · subst e0; exact b_Ps_step_288 (fun _ => r2) (fun q => absurd rfl q)
            · subst e1
              refine b_Ps_step_288 (fun q => absurd q (by decide)) (fun _ => k_sign hc hT k3 (by decide) (by decide) (fun v I4 L4 r => ?_))
              refine KRes.pb hQ (r.tr fr3) (fun e0 r2 => ?_) (fun S4 hR hQ e1 fr4 k4 => ?_)
              · subst e0; exact b_Ps_step_297 (fun _ => r2) (fun q => absurd rfl q)
              · subst e1
                refine b_Ps_step_297 (fun q => absurd q (by decide)) (fun _ => k_rdI hc hT hD k hk (d + 3) (by omega) S4 I4 L4 _ k4 (fun v I5 L5 r => ?_))
                refine KRes.pb hQ (r.tr fr4) (fun e0 r2 => ?_) (fun S5 hR hQ e1 fr5 k5 => ?_)
                · subst e0; exact b_Ps_step_305 (fun _ => r2) (fun q => absurd rfl q)
                · subst e1
                  refine b_Ps_step_305 (fun q => absurd q (by decide)) (fun _ => k_closing (o := 16) hc hT hD k5 (fun v I6 L6 r => ?_))
                  have r := r.tr fr5
                  rcases r.e01 with rfl | rfl
                  · exact b_Ps_step_315 (fun _ => hQ 0 I6 L6 r) (fun q => absurd rfl q)
                  · exact b_Ps_step_315 (fun q => absurd q (by decide)) (fun _ => hQ 1 I6 L6 r)
        · -- if
          rw [if_pos q] at hQ
          rw [← q] at hQ
          refine cond (y := y_Ps_cond) (fun v I3 L3 r => ?_)
          refine KRes.pb hQ r (fun e0 r2 => ?_) (fun S3 hR hQ e1 fr3 k3 => ?_)
          · subst e0; exact b_Ps_step_161 (fun _ => r2) (fun q => absurd rfl q)
          · subst e1
            refine b_Ps_step_161 (fun q => absurd q (by decide)) (fun _ => k_branches hc hT hD hb (d + 3) (by omega) S3 I3 L3 _ k3 (fun v I4 L4 r => ?_))
            have r := r.tr fr3
            rcases r.e01 with rfl | rfl
            · exact b_Ps_step_169 (fun _ => hQ 0 I4 L4 r) (fun q => absurd rfl q)
            · exact b_Ps_step_169 (fun q => absurd q (by decide)) (fun _ => hQ 1 I4 L4 r)
        · -- while
          rw [if_neg q8, if_pos q] at hQ
          rw [← q] at hQ
          refine cond (y := y_Ps_cond) (fun v I3 L3 r => ?_)
          refine KRes.pb hQ r (fun e0 r2 => ?_) (fun S3 hR hQ e1 fr3 k3 => ?_)
          · subst e0; exact b_Ps_step_183 (fun _ => r2) (fun q => absurd rfl q)
          · subst e1
            refine b_Ps_step_183 (fun q => absurd q (by decide)) (fun _ => k_loop (beg := cn S) hc hT hD hb (d + 3) (by omega) S3 I3 L3 _ k3 (fun v I4 L4 r => ?_))
            have r := r.tr fr3
            rcases r.e01 with rfl | rfl
            · exact b_Ps_step_193 (fun _ => hQ 0 I4 L4 r) (fun q => absurd rfl q)
            · exact b_Ps_step_193 (fun q => absurd q (by decide)) (fun _ => hQ 1 I4 L4 r)
        · -- must
          rw [if_neg q8, if_neg q10, if_pos q] at hQ
          refine cond (y := y_Ps_cond) (fun v I3 L3 r => ?_)
          rw [bs0 q8 q10] at r
          refine KRes.pb hQ r (fun e0 r2 => ?_) (fun S3 hR hQ e1 fr3 k3 => ?_)
          · subst e0; exact b_Ps_step_207 (fun _ => r2) (fun q => absurd rfl q)
          · subst e1
            refine b_Ps_step_207 (fun q => absurd q (by decide)) (fun _ => k_closing (o := 17) hc hT hD k3 (fun v I4 L4 r => ?_))
            have r := r.tr fr3
            rcases r.e01 with rfl | rfl
            · exact b_Ps_step_217 (fun _ => hQ 0 I4 L4 r) (fun q => absurd rfl q)
            · exact b_Ps_step_217 (fun q => absurd q (by decide)) (fun _ => hQ 1 I4 L4 r)
        · -- let
          rw [if_neg q8, if_neg q10, if_neg q11, if_pos q] at hQ
          refine cond (y := y_Ps_cond) (fun v I3 L3 r => ?_)
          rw [bs0 q8 q10] at r
          refine KRes.pb hQ r (fun e0 r2 => ?_) (fun S3 hR hQ e1 fr3 k3 => ?_)
          · subst e0; exact b_Ps_step_231 (fun _ => r2) (fun q => absurd rfl q)
          · subst e1
            refine b_Ps_step_231 (fun q => absurd q (by decide)) (fun _ => k_closing (o := 18) hc hT hD k3 (fun v I4 L4 r => ?_))
            have r := r.tr fr3
            rcases r.e01 with rfl | rfl
            · exact b_Ps_step_241 (fun _ => hQ 0 I4 L4 r) (fun q => absurd rfl q)
            · exact b_Ps_step_241 (fun q => absurd q (by decide)) (fun _ => hQ 1 I4 L4 r)
        · -- ask
          rw [if_neg q8, if_neg q10, if_neg q11, if_neg q12, if_neg q2, if_neg q7, if_neg q6, if_pos q] at hQ
          rw [bs0 q8 q10] at k2
          exact k_asked hc hT hD (d + 3) (by omega) _ I2 L1 _ k2 (fun v I3 L3 r => b_Ps_step_333 r.e01 (hQ v I3 L3 (r.tr fr2)))
        · -- end
          rw [if_neg q8, if_neg q10, if_neg q11, if_neg q12, if_neg q2, if_neg q7, if_neg q6, if_neg q13] at hQ
          rw [bs0 q8 q10] at k2
          exact k_closing (o := 20) hc hT hD k2 (fun v I3 L3 r => b_Ps_step_341 r.e01 (hQ v I3 L3 (r.tr fr2)))
      have k82 : ∀ s1 s2 : Int32, s1 = p_b (decide (K = 8)) → s2 = p_b (decide (K = 10)) → aw_z X (d + 4) y_Ps_step Q 82 [some (.ref 60), some (.int (nI (10 - k))), some (.int K), some (.int V), some (.int (nI (min (cn S) 600)))] [.int s2, .int s1, .ref c] (aw_s I L D) := by
        intro s1 s2 h1 h2
        rw [h1, h2]
        exact b_Ps_step_82 hc (k_beginStep hc h (by omega) (fun I1 L1 k1 f1 => k85 I1 L1 k1 f1))
      have k71 : ∀ s1 : Int32, s1 = p_b (decide (K = 8)) → aw_z X (d + 4) y_Ps_step Q 71 [some (.ref 60), some (.int (nI (10 - k))), some (.int K), some (.int V), some (.int (nI (min (cn S) 600)))] [.int s1, .ref c] (aw_s I L D) := by
        intro s1 h1
        exact b_Ps_step_71 (fun q => k82 s1 0 h1 (by rw [decide_eq_false q]; rfl)) (fun q => k82 s1 1 h1 (by rw [decide_eq_true q]; rfl))
      exact B1 (fun _ _ q => k71 0 (by rw [decide_eq_false q]; rfl)) (fun _ _ q => k71 1 (by rw [decide_eq_true q]; rfl)) (fun _ q => absurd (by omega) q) (fun q => absurd q (by decide))
  have no : ¬ isSt K → aw_z X (d + 4) y_Ps_step Q 20 [some (.ref 60), some (.int (nI (10 - k))), some (.int K), some (.int V), none] [.int 0] (aw_s I L D) := by
    intro hK
    unfold stF at hQ
    rw [if_neg (by rw [eK]; exact hK)] at hQ
    exact b_Ps_step_20 hD hc (fun q => absurd rfl q) (fun q => absurd rfl q) (fun q => absurd rfl q) (fun _ => k_fail hc h (fun I' r => b_Ps_step_28 (Or.inl rfl) (hQ 0 I' L r)))
  refine aw_go rfl rfl (B0 (aw_go rfl rfl (b_Ps_beginsStep_0 (fun q => yes ?_) (fun _ q => yes ?_) (fun _ _ q => yes ?_) (fun _ _ _ q => yes ?_) (fun _ _ _ _ q => yes ?_) (fun _ _ _ _ _ q => yes ?_) (fun _ _ _ _ _ _ q => yes ?_) (fun _ _ _ _ _ _ _ q => yes ?_) (fun _ _ _ _ _ _ _ _ q => yes ?_) (fun a1 a2 a3 a4 a5 a6 a7 a8 a9 => no ?_))))
  · exact Or.inl q
  · exact Or.inr (Or.inl q)
  · exact Or.inr (Or.inr (Or.inl q))
  · exact Or.inr (Or.inr (Or.inr (Or.inl q)))
  · exact Or.inr (Or.inr (Or.inr (Or.inr (Or.inl q))))
  · exact Or.inr (Or.inr (Or.inr (Or.inr (Or.inr (Or.inl q)))))
  · exact Or.inr (Or.inr (Or.inr (Or.inr (Or.inr (Or.inr (Or.inl q))))))
  · exact Or.inr (Or.inr (Or.inr (Or.inr (Or.inr (Or.inr (Or.inr (Or.inl q)))))))
  · exact Or.inr (Or.inr (Or.inr (Or.inr (Or.inr (Or.inr (Or.inr (Or.inr q)))))))
  · rintro (g | g | g | g | g | g | g | g | g)
    · exact a1 g
    · exact a2 g
    · exact a3 g
    · exact a4 g
    · exact a5 g
    · exact a6 g
    · exact a7 g
    · exact a8 g
    · exact a9 g
theorem k_bkI (hc : c ∈ aw_codes) (hT : tOK T) (hD : D 6 = c) : ∀ k, k ≤ 10 → KC X c T D (16 * k + 24) y_Ps_step [.ref 60, .int (nI (10 - k))] (bkI T (k + 1))
  | 0, hk => k_step (k := 0) hc hT hD hk (fun e he => k_block (N := 0) hc hT hk (fun h => absurd h (Nat.lt_irrefl 0)) e (by omega))
  | k + 1, hk => k_step (k := k + 1) hc hT hD hk (fun e he => k_block (N := 16 * (k + 1) + 9) hc hT hk (fun _ => fun e he => k_bkI hc hT hD k (by omega) e (by omega)) e (by omega))
end KPRO
