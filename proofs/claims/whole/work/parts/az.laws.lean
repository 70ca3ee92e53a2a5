/-! PART az: laws of both -/
/-- what laws() of the reference leaves -/
def FLm (I I' : Nat → Nat → Int32) (L L' : Nat → Nat → Int64) : Prop := (∀ o, o ≠ 104 → o ≠ 69 → ¬ (84 ≤ o ∧ o ≤ 88) → o ≠ 90 → I' o = I o) ∧ (∀ k, k ≠ 0 → k ≠ 25 → k ≠ 42 → k ≠ 43 → k ≠ 44 → k ≠ 45 → k ≠ 66 → k ≠ 69 → I' 69 k = I 69 k) ∧ (∀ o, o ≠ 69 → L' o = L o) ∧ ∀ k, k ≠ 46 → k ≠ 47 → L' 69 k = L 69 k
theorem FLw.l {I0 I I' : Nat → Nat → Int32} {L0 L L' : Nat → Nat → Int64} (a : FLm I0 I L0 L) (b : FLw I I' L L') : FLm I0 I' L0 L' :=
  ⟨fun o h2 h3 h4 h5 => by rw [b.1 o h3 h4 h5]; exact a.1 o h2 h3 h4 h5, fun k h1 h2 h3 h4 h5 h6 h7 h8 => (b.2.1 k h1 h2 h3 h4 h5 h6 h7).trans (a.2.1 k h1 h2 h3 h4 h5 h6 h7 h8), fun o h => (b.2.2.1 o h).trans (a.2.2.1 o h), fun k h1 h2 => (b.2.2.2 k h1 h2).trans (a.2.2.2 k h1 h2)⟩
section MLAWS
variable {X : aw_X} {d d2 : Nat} {Q : Option Value → aw_H → Prop} {I : Nat → Nat → Int32} {L : Nat → Nat → Int64} {D : Nat → Nat} {v1 : Int32} {S : PT} {F B T O n : Nat} {E : Nat → PE} {wl wc wi : Nat → Nat}
theorem l_M_lawsI {s a : Nat} {p : Nat × (Nat → Int32)} (hs : s < 60) (ha : a < 8) (hb : Bgn E (2 ^ (B * (T + O))) s) (hp : p.1 ≤ pdN a) {I0 : Nat → Nat → Int32} {L0 : Nat → Nat → Int64}
    (hk : ∀ I' L', RWd S F B T O E n wl wc wi I' L' → I' 69 48 = 0 → I' 69 0 = 0 → LwR (lwI (relW E (2 ^ (B * (T + O))) s) a p (7 - a)) 69 69 104 I' → FLm I0 I' L0 L' → aw_z X (d + 6) y_M_laws Q 22 [some (.ref 69), some (.int (nI s)), some (.int (nI (a + 1))), none, none] [] (aw_s I' L' D)) :
    ∀ (m k : Nat) (J : Nat → Nat → Int32) (M : Nat → Nat → Int64), a + 1 + k + m = 8 → RWd S F B T O E n wl wc wi J M → J 69 48 = 0 → J 69 0 = 0 → LwR (lwI (relW E (2 ^ (B * (T + O))) s) a p k) 69 69 104 J → FLm I0 J L0 M → aw_z X (d + 6) y_M_laws Q 32 [some (.ref 69), some (.int (nI s)), some (.int (nI a)), some (.int (nI (a + 1 + k))), none] [] (aw_s J M D) := by
  intro m
  induction m with
  | zero =>
    intro k J M e g g48 g0 h f
    have ek : k = 7 - a := by omega
    subst ek
    refine b_M_laws_32 (fun _ => by rw [nI_1]; exact hk J M g g48 g0 h f) (fun z => absurd ?_ z)
    rw [show (8 : Int32) = nI 8 from rfl, nI_leI (by decide) (by omega)]; omega
  | succ m ih =>
    intro k J M e g g48 g0 h f
    have n8 : ¬ (8 : Int32) ≤ nI (a + 1 + k) := by rw [show (8 : Int32) = nI 8 from rfl, nI_leI (by decide) (by omega)]; omega
    obtain ⟨r1, r2⟩ := relW_ok (R := 2 ^ (B * (T + O))) ha (show a + 1 + k < 8 by omega) hb
    have hn : (lwI (relW E (2 ^ (B * (T + O))) s) a p k).1 < 28 := by
      have := lwI_le (relW E (2 ^ (B * (T + O))) s) a p k
      have := pd_lt a ha
      omega
    refine b_M_laws_32 (fun z => absurd z n8) (fun _ => c_M_standing (d := d) g g48 hs ha (by omega) (fun I1 L1 g1 f1 e1 => ?_))
    have f1' := f1.l f
    have h1 : LwR (lwI (relW E (2 ^ (B * (T + O))) s) a p k) 69 69 104 I1 := ⟨by rw [f1.2.1 69 (by decide) (by decide) (by decide) (by decide) (by decide) (by decide) (by decide)]; exact h.1, fun j hj => by rw [f1.1 104 (by decide) (by omega) (by decide)]; exact h.2 j hj⟩
    have k48 : I1 69 48 = 0 := by rw [f1.2.1 48 (by decide) (by decide) (by decide) (by decide) (by decide) (by decide) (by decide)]; exact g48
    have k0 : I1 69 0 = 0 := e1.trans g0
    have on : ∀ (J2 : Nat → Nat → Int32), RWd S F B T O E n wl wc wi J2 L1 → J2 69 48 = 0 → J2 69 0 = 0 → LwR (lwS (relW E (2 ^ (B * (T + O))) s) a (a + 1 + k) (lwI (relW E (2 ^ (B * (T + O))) s) a p k)) 69 69 104 J2 → FLm I0 J2 L0 L1 → aw_z X (d + 6) y_M_laws Q 32 [some (.ref 69), some (.int (nI s)), some (.int (nI a)), some (.int (nI (a + 1 + k) + 1)), none] [] (aw_s J2 L1 D) := fun J2 z1 z2 z3 z4 z5 => by
      rw [nI_1, show a + 1 + k + 1 = a + 1 + (k + 1) by omega]
      exact ih (k + 1) J2 L1 (by omega) z1 z2 z3 z4 z5
    generalize hrel : relW E (2 ^ (B * (T + O))) s a (a + 1 + k) = w at *
    generalize hst : lwI (relW E (2 ^ (B * (T + O))) s) a p k = st at *
    have ev : (100 : Int32) * nI a + (10 : Int32) * nI (a + 1 + k) = nI (100 * a + 10 * (a + 1 + k)) := by
      rw [show (100 : Int32) = nI 100 from rfl, show (10 : Int32) = nI 10 from rfl, pk_mul, pk_mul, nI_add]
    -- one law more
    have put : ∀ c : Nat, lwS (relW E (2 ^ (B * (T + O))) s) a (a + 1 + k) st = (st.1 + 1, va_up st.2 st.1 (nI (100 * a + 10 * (a + 1 + k) + c))) → aw_z X (d + 6) y_M_laws Q 106 [some (.ref 69), some (.int (nI s)), some (.int (nI a)), some (.int (nI (a + 1 + k))), none] [.int (nI c), .int (nI (100 * a + 10 * (a + 1 + k))), .int (I1 69 69), .ref 104] (aw_s I1 L1 D) := fun c el => by
      refine b_M_laws_106 (by rw [h1.1]; exact aw_in_nI hn (by decide)) ?_
      rw [h1.1, nI_clamp (show st.1 < 2 ^ 31 by omega), nI_add, nI_1 st.1]
      have g2 : RWd S F B T O E n wl wc wi (aw_u (aw_u I1 104 st.1 (nI (100 * a + 10 * (a + 1 + k) + c))) 69 69 (nI (st.1 + 1))) L1 := (g1.fr (fun k _ => by rw [au_o (by decide), au_o (by decide)]) (fun o p q => by rw [au_o (by omega), au_o (by omega)]) (fun _ _ _ => rfl) (fun k p => by rw [au_k (by omega), au_o (by decide)]) (KSl.same (fun o p q => by rw [au_o (by omega), au_o (by omega)])) (fun o p q => by rw [au_o (by omega), au_o (by omega)]) (fun _ _ => rfl))
      refine on _ g2 (by rw [au_k (by decide), au_o (by decide)]; exact k48) (by rw [au_k (by decide), au_o (by decide)]; exact k0) ⟨?_, fun j hj => ?_⟩ ⟨fun o z2 z3 z4 z5 => by rw [au_o z3, au_o z2]; exact f1'.1 o z2 z3 z4 z5, fun x z1 z2 z3 z4 z5 z6 z7 z8 => by rw [au_k z8, au_o (by decide)]; exact f1'.2.1 x z1 z2 z3 z4 z5 z6 z7 z8, f1'.2.2.1, f1'.2.2.2⟩
      · rw [el, au_s]
      · rw [el] at hj ⊢
        have hj : j < st.1 + 1 := hj
        show _ = va_up st.2 st.1 _ j
        rw [au_o (by decide)]
        by_cases q : j = st.1
        · subst q; rw [au_s, up_s]
        · rw [au_k q, up_n _ _ q]; exact h1.2 j (by omega)
    have n1 : nI w = 1 ↔ w = 1 := nI_eq (b := 1) (by omega) (by decide)
    have n2 : nI w = 2 ↔ w = 2 := nI_eq (b := 2) (by omega) (by decide)
    have n4 : nI w = 4 ↔ w = 4 := nI_eq (b := 4) (by omega) (by decide)
    have lw : lwS (relW E (2 ^ (B * (T + O))) s) a (a + 1 + k) st = if w = 1 then (st.1 + 1, va_up st.2 st.1 (nI (100 * a + 10 * (a + 1 + k)))) else if w = 2 then (st.1 + 1, va_up st.2 st.1 (nI (100 * a + 10 * (a + 1 + k) + 1))) else if w = 4 then (st.1 + 1, va_up st.2 st.1 (nI (100 * a + 10 * (a + 1 + k) + 2))) else st := by
      unfold lwS; rw [hrel]
    have k68 : w = 1 ∨ w = 2 ∨ w = 4 → aw_z X (d + 6) y_M_laws Q 68 [some (.ref 69), some (.int (nI s)), some (.int (nI a)), some (.int (nI (a + 1 + k))), some (.int (nI w))] [] (aw_s I1 L1 D) := fun hw => by
      refine b_M_laws_68 (fun z1 z2 => ?_) (fun z1 z2 => ?_) (fun z1 => ?_)
      · have z1 := fun t => z1 (n1.mpr t)
        have z2 := fun t => z2 (n2.mpr t)
        rw [ev]
        refine put 2 ?_
        rw [lw, if_neg z1, if_neg z2, if_pos ((hw.resolve_left z1).resolve_left z2)]
      · have z1 := fun t => z1 (n1.mpr t)
        have z2 := n2.mp z2
        rw [ev]
        refine put 1 ?_
        rw [lw, if_neg z1, if_pos z2]
      · have z1 := n1.mp z1
        rw [ev]
        refine put 0 ?_
        rw [lw, if_pos z1]; simp only [Nat.add_zero]
    refine b_M_laws_45 (fun z => k68 (Or.inl (n1.mp z))) (fun _ z => k68 (Or.inr (Or.inl (n2.mp z)))) (fun _ _ z => k68 (Or.inr (Or.inr (n4.mp z)))) (fun z1 z2 z3 => on I1 g1 k48 k0 ?_ f1')
    rw [lw, if_neg (fun t => z1 (n1.mpr t)), if_neg (fun t => z2 (n2.mpr t)), if_neg (fun t => z3 (n4.mpr t))]
    exact h1
theorem l_M_lawsO {s : Nat} (hs : s < 60) (hb : Bgn E (2 ^ (B * (T + O))) s) {I0 : Nat → Nat → Int32} {L0 : Nat → Nat → Int64}
    (hQ : ∀ I' L', RWd S F B T O E n wl wc wi I' L' → I' 69 0 = 0 → LwR (lwO (relW E (2 ^ (B * (T + O))) s) 8) 69 69 104 I' → FLm I0 I' L0 L' → Q (some (.int (nI (lwO (relW E (2 ^ (B * (T + O))) s) 8).1))) (aw_s I' L' D)) :
    ∀ (m a : Nat) (J : Nat → Nat → Int32) (M : Nat → Nat → Int64), a + m = 8 → RWd S F B T O E n wl wc wi J M → J 69 48 = 0 → J 69 0 = 0 → LwR (lwO (relW E (2 ^ (B * (T + O))) s) a) 69 69 104 J → FLm I0 J L0 M → aw_z X (d + 6) y_M_laws Q 22 [some (.ref 69), some (.int (nI s)), some (.int (nI a)), none, none] [] (aw_s J M D) := by
  intro m
  induction m with
  | zero =>
    intro a J M e g g48 g0 h f
    have ea : a = 8 := by omega
    subst ea
    exact b_M_laws_22 (fun _ => by rw [h.1]; exact hQ J M g g0 h f) (fun z => absurd (by decide) z)
  | succ m ih =>
    intro a J M e g g48 g0 h f
    have n8 : ¬ (8 : Int32) ≤ nI a := by rw [show (8 : Int32) = nI 8 from rfl, nI_leI (by decide) (by omega)]; omega
    refine b_M_laws_22 (fun z => absurd z n8) (fun _ => ?_)
    rw [nI_1]
    exact l_M_lawsI (d := d) hs (by omega) hb (lwO_le _ a) (fun I' L' z1 z2 z3 z4 z5 => ih (a + 1) I' L' (by omega) z1 z2 z3 z4 z5) (7 - a) 0 J M (by omega) g g48 g0 h f
theorem q_laws (hK : RWk I L) (h48 : I 69 48 = 0) (hRow : RRow I 28 0 14 67 69 69 104) (hQ : ∀ r I1,
      (∀ (Q2 : Option Value → aw_H → Prop), (∀ I2 L2, RWk I2 L2 → RRow I2 28 0 14 67 69 69 104 → I2 69 0 = 0 → FLl I I2 L L2 → Q2 (some (.int r)) (aw_s I2 L2 D)) → aw_m X (d2 + 6) y_M_laws [.ref 69, .int v1] (aw_s I1 L D) Q2) → Q (some (.int r)) (aw_s I1 L D)) :
    aw_m X (d + 3) y_AW_laws [.ref 0, .int v1] (aw_s I L D) Q := by
  rcases c_isBegun (X := X) (D := D) (v1 := v1) hK with ⟨S, F, B, T, O, E, n, wl, wc, wi, s, h, hs, rfl, hb, w1, w2⟩ | ⟨w1, w2⟩
  · refine aw_go rfl rfl (b_AW_laws_0 (w1 _ _ (b_AW_laws_8 (fun _ => ?_) (fun x => absurd x (by decide)))))
    have le := Nat.le_trans (lwO_le (relW E (2 ^ (B * (T + O))) s) 8) (show pdN 8 ≤ 28 by decide)
    refine l_AW_lawsO (d := d) hs hb (I0 := I) h.2.2.1.2.2.2.2.2.2.2.2.2.1 (fun I1 k1 k2 => hQ _ I1 (fun Q2 hQ2 => ?_)) 8 0 _ rfl ⟨au_s _ _ _ _, fun j hj => absurd hj (Nat.not_lt_zero j)⟩ (fun o k z1 z2 => au_ok (by omega))
    have i1 : ∀ o, o ≠ 67 → o ≠ 0 → I1 o = I o := fun o z1 z2 => funext fun k => k2 o k z1 (by omega)
    refine aw_go rfl rfl (b_M_laws_0 (w2 _ _ _ (by rw [au_k (by decide), i1 69 (by decide) (by decide)]) (by rw [au_o (by decide), i1 75 (by decide) (by decide)]) (b_M_laws_10 (fun _ => ?_) (fun x => absurd x (by decide)))))
    have g : RWd S F B T O E n wl wc wi (aw_u (aw_u I1 69 0 0) 69 69 0) L := h.fr (fun k _ => by rw [au_o (by decide), au_o (by decide), i1 1 (by decide) (by decide)]) (fun o p q => by rw [au_o (by omega), au_o (by omega), i1 o (by omega) (by omega)]) (fun _ _ _ => rfl) (fun k p => by rw [au_k (by omega), au_k (by omega), i1 69 (by decide) (by decide)]) (KSl.same (fun o p q => by rw [au_o (by omega), au_o (by omega), i1 o (by omega) (by omega)])) (fun o p q => by rw [au_o (by omega), au_o (by omega), i1 o (by omega) (by omega)]) (fun _ _ => rfl)
    have f : FLl I (aw_u (aw_u I1 69 0 0) 69 69 0) L L := ⟨fun o k z1 z2 z3 z4 z5 z6 => by rw [au_o z3, au_o z3]; exact k2 o k z1 z6, fun k z1 z2 z3 z4 z5 z6 z7 z8 => by rw [au_k z8, au_k z1, i1 69 (by decide) (by decide)], fun _ _ => rfl, fun _ _ _ => rfl⟩
    have k1' : LwR (lwO (relW E (2 ^ (B * (T + O))) s) 8) 0 14 67 (aw_u (aw_u I1 69 0 0) 69 69 0) := ⟨by rw [au_o (by decide), au_o (by decide)]; exact k1.1, fun j hj => by rw [au_o (by decide), au_o (by decide)]; exact k1.2 j hj⟩
    refine l_M_lawsO (d := d2) hs hb (I0 := aw_u (aw_u I1 69 0 0) 69 69 0) (L0 := L) (fun I2 L2 g2 g0 l2 f2 => hQ2 I2 L2 (Or.inr ⟨S, F, B, T, O, E, n, wl, wc, wi, g2⟩) ?_ g0 ?_) 8 0 _ L rfl g (by rw [au_k (by decide), au_k (by decide), i1 69 (by decide) (by decide)]; exact h48) (by rw [au_k (by decide), au_s]) ⟨au_s _ _ _ _, fun j hj => absurd hj (Nat.not_lt_zero j)⟩ ⟨fun _ _ _ _ _ => rfl, fun _ _ _ _ _ _ _ _ _ => rfl, fun _ _ => rfl, fun _ _ _ => rfl⟩
    · exact ⟨(lwO (relW E (2 ^ (B * (T + O))) s) 8).1, le, by rw [f2.1 0 (by decide) (by decide) (by omega) (by decide)]; exact k1'.1, l2.1, fun j hj => by rw [f2.1 67 (by decide) (by decide) (by omega) (by decide), k1'.2 j hj]; exact (l2.2 j hj).symm⟩
    · exact ⟨fun o k z1 z2 z3 z4 z5 z6 => (congrFun (f2.1 o z2 z3 z4 z5) k).trans (f.1 o k z1 z2 z3 z4 z5 z6), fun k z1 z2 z3 z4 z5 z6 z7 z8 => (f2.2.1 k z1 z2 z3 z4 z5 z6 z7 z8).trans (f.2.1 k z1 z2 z3 z4 z5 z6 z7 z8), f2.2.2.1, f2.2.2.2⟩
  · refine aw_go rfl rfl (b_AW_laws_0 (w1 _ _ (b_AW_laws_8 (fun x => absurd rfl x) (fun _ => hQ (-1) I (fun Q2 hQ2 => aw_go rfl rfl (b_M_laws_0 (w2 _ _ _ (au_k (by decide)) (au_o (by decide)) (b_M_laws_10 (fun x => absurd rfl x) (fun _ => hQ2 _ L hK.z ?_ (au_s _ _ _ _) ⟨fun o k _ _ z3 _ _ _ => by rw [au_o z3], fun k z1 _ _ _ _ _ _ _ => au_k z1, fun _ _ => rfl, fun _ _ _ => rfl⟩)))))))))
    obtain ⟨n, a1, a2, a3, a4⟩ := hRow
    exact ⟨n, a1, by rw [au_o (by decide)]; exact a2, by rw [au_k (by decide)]; exact a3, fun j hj => by rw [au_o (by decide), au_o (by decide)]; exact a4 j hj⟩
end MLAWS
