/-! PART 9t: the grammar of claims: what is written down -/
/-- a relation that every step of the reading of a TEST keeps -/
def GT (Q : PT → PT → Prop) : Prop := (∀ S, Q S S) ∧ (∀ {a b c : PT}, Q a b → Q b c → Q a c) ∧ (∀ S, Q S (adv S)) ∧ (∀ S, Q S (unU S)) ∧ (∀ v S, Q S (adN v S)) ∧ (∀ o a S, 3 ≤ o → o ≤ 14 → Q S (em o a S))
theorem GT.rf {Q : PT → PT → Prop} (G : GT Q) (S : PT) : Q S S := G.1 S
theorem GT.tr {Q : PT → PT → Prop} (G : GT Q) {a b c : PT} (x : Q a b) (y : Q b c) : Q a c := G.2.1 x y
theorem GT.adv {Q : PT → PT → Prop} (G : GT Q) (S : PT) : Q S (adv S) := G.2.2.1 S
theorem GT.unU {Q : PT → PT → Prop} (G : GT Q) (S : PT) : Q S (unU S) := G.2.2.2.1 S
theorem GT.adN {Q : PT → PT → Prop} (G : GT Q) (v : Int32) (S : PT) : Q S (adN v S) := G.2.2.2.2.1 v S
theorem GT.em {Q : PT → PT → Prop} (G : GT Q) (o : Nat) (a : Int32) (S : PT) (h1 : 3 ≤ o) (h2 : o ≤ 14) : Q S (em o a S) := G.2.2.2.2.2 o a S h1 h2
theorem GT_sgn {Q : PT → PT → Prop} (G : GT Q) (T : TD) (ch : Int32) : GR Q (sgn T ch) := fun S S' e => by
  obtain ⟨rfl, -⟩ := sgn_ok e
  exact G.adv S
theorem GT_opn {Q : PT → PT → Prop} (G : GT Q) (T : TD) (ch : Int32) (k : Nat) : GR Q (opn T ch k) := fun S S' e => by
  obtain ⟨rfl, -⟩ := opn_ok e
  exact G.adv S
theorem GT_pb {Q : PT → PT → Prop} (G : GT Q) {R f : PT → PR} (h : GR Q R) (hf : GR Q f) : GR Q (fun S => pb (R S) f) := fun S S' e => by
  obtain ⟨S1, e1, e2⟩ := pb_inv e
  exact G.tr (h _ _ e1) (hf _ _ e2)
theorem GT_id {Q : PT → PT → Prop} (G : GT Q) : GR Q (fun S => .ok S) := fun S S' e => by cases e; exact G.rf S
theorem GT_plc {Q : PT → PT → Prop} (G : GT Q) {T : TD} {k : Nat} {inn : PT → PR} (h : GR Q inn) : GR Q (plc T k inn) := GT_pb G (GT_opn G T 91 k) (GT_pb G h (GT_sgn G T 93))
theorem GT_unF {Q : PT → PT → Prop} (G : GT Q) {T : TD} {k : Nat} {inn : PT → PR} (h : GR Q inn) : GR Q (unF T k inn) := fun S S' e => by
  unfold unF at e
  split at e
  · cases e
  · split at e
    · cases e
    · split at e
      · exact G.tr (G.unU S) (GT_pb G (GT_opn G T 40 k) (GT_pb G h (GT_sgn G T 41)) _ S' e)
      · split at e
        · obtain ⟨S1, g1, g2⟩ := pb_inv e
          cases g2
          exact G.tr (G.unU S) (G.tr (G.adv _) (G.tr (GT_plc G h _ S1 g1) (G.em _ _ _ (by decide) (by decide))))
        · split at e
          · cases e
            exact G.tr (G.unU S) (G.tr (G.adv _) (G.adN _ _))
          · cases e
            exact G.tr (G.unU S) (G.tr (G.adv _) (G.em _ _ _ (by decide) (by decide)))
theorem GT_olp {Q : PT → PT → Prop} (G : GT Q) {T : TD} {c1 c2 : Int32} {o1 o2 : Nat} {u : PT → PR} (ho : (3 ≤ o1 ∧ o1 ≤ 14) ∧ (3 ≤ o2 ∧ o2 ≤ 14)) (h : GR Q u) : ∀ f, GR Q (olp T c1 c2 o1 o2 u f)
  | 0 => GT_id G
  | f + 1 => fun S S' e => by
    rw [olp] at e
    split at e
    · obtain ⟨S1, g1, g2⟩ := pb_inv e
      have hx : 3 ≤ (if tK T (ti S) = c1 then o1 else o2) ∧ (if tK T (ti S) = c1 then o1 else o2) ≤ 14 := by split <;> omega
      exact G.tr (G.adv S) (G.tr (h _ _ g1) (G.tr (G.em _ _ _ (by omega) (by omega)) (GT_olp G ho h f _ _ g2)))
    · cases e; exact G.rf S
theorem GT_rdI {Q : PT → PT → Prop} (G : GT Q) (T : TD) : ∀ k, GR Q (rdI T k)
  | 0 => GT_id G
  | k + 1 => GT_pb G (GT_pb G (GT_unF G (k := k) (GT_rdI G T k)) (GT_olp G (by decide) (GT_unF G (k := k) (GT_rdI G T k)) 501)) (GT_olp G (by decide) (GT_pb G (GT_unF G (k := k) (GT_rdI G T k)) (GT_olp G (by decide) (GT_unF G (k := k) (GT_rdI G T k)) 501)) 501)
theorem GT_tst {Q : PT → PT → Prop} (G : GT Q) (T : TD) (k : Nat) : GR Q (tst T k) := fun S S' e => by
  obtain ⟨S1, g1, g2⟩ := pb_inv e
  split at g2
  · obtain ⟨S2, g3, g4⟩ := pb_inv g2
    cases g4
    have hx : 9 ≤ rlo T (ti S1) ∧ rlo T (ti S1) ≤ 12 := by unfold rlo; (repeat' split) <;> omega
    exact G.tr (GT_rdI G T (k + 1) _ _ g1) (G.tr (G.adv S1) (G.tr (GT_rdI G T (k + 1) _ _ g3) (G.em _ _ _ (by omega) (by omega))))
  · cases g2
/-- orders of sums and tests come behind what is there -/
def Qs (S S' : PT) : Prop := cn S ≤ cn S' ∧ (∀ i, i < cn S → cP S' i = cP S i) ∧ ∀ j, cn S ≤ j → j < cn S' → 2 ≤ (cP S' j).1 ∧ (cP S' j).1 ≤ 14
theorem Qs_em {S : PT} {o : Nat} {a : Int32} (h : 2 ≤ o ∧ o ≤ 14) : Qs S (em o a S) := by
  refine ⟨Nat.le_succ _, fun i hi => up_n _ _ (by omega), fun j h1 h2 => ?_⟩
  have h2 : j < cn S + 1 := h2
  have : j = cn S := by omega
  subst this
  rw [em_P]; exact h
theorem Qs_GT : GT Qs := ⟨fun S => ⟨Nat.le_refl _, fun _ _ => rfl, fun j a b => absurd a (by omega)⟩, fun {a b c} x y => ⟨Nat.le_trans x.1 y.1, fun i hi => (y.2.1 i (Nat.lt_of_lt_of_le hi x.1)).trans (x.2.1 i hi), fun j h1 h2 => by
    by_cases g : j < cn b
    · rw [y.2.1 j g]; exact x.2.2 j h1 g
    · exact y.2.2 j (by omega) h2⟩, fun S => ⟨Nat.le_refl _, fun _ _ => rfl, fun j a b => by have a : cn S ≤ j := a; have b : j < cn S := b; omega⟩, fun S => ⟨Nat.le_refl _, fun _ _ => rfl, fun j a b => by have a : cn S ≤ j := a; have b : j < cn S := b; omega⟩, fun v S => Qs_em (S := noN S) (by decide), fun o a S h1 h2 => Qs_em (by omega)⟩
theorem cts_ok {T : TD} {S S' : PT} (e : cts T S = .ok S') : uFt T (ti S) = 0 ∧ cK S < 20 ∧ ∃ S1, tst T 10 (beT S) = .ok S1 ∧ S' = em 33 0 S1 := by
  unfold cts at e
  split at e
  · cases e
  · next h1 =>
    split at e
    · cases e
    · next h2 =>
      obtain ⟨S1, e1, e2⟩ := pb_inv e
      cases e2
      exact ⟨Classical.not_not.mp h1, by omega, S1, e1, rfl⟩
/-- what is well formed of a claim as far as it is read -/
def W3 (S : PT) : Prop := Wf (fun pc => (cP S pc).1 = 33 ∧ pc < cn S) 0 false [] S
/-- the place behind a test -/
def cX (S : PT) (t : Nat) : Nat := if t + 1 < cK S then cL S (t + 1) else cn S
def TG (S : PT) (t : Nat) : Prop := t ≤ cL S t ∧ cL S t < cX S t ∧ cX S t ≤ cn S ∧ (cP S (cX S t - 1)).1 = 33 ∧ cT S (cL S t) = [] ∧ cT S (cX S t - 1) = [true] ∧ ∀ j, cL S t ≤ j → j + 1 < cX S t → 2 ≤ (cP S j).1 ∧ (cP S j).1 ≤ 14
/-- a claim as far as it is read -/
def CI (S : PT) : Prop := W3 S ∧ cn S ≤ ti S + cK S ∧ cK S ≤ 20 ∧ cK S ≤ cn S ∧ (0 < cK S → cL S 0 = 0) ∧ (cK S = 0 → cn S = 0) ∧ ∀ t, t < cK S → TG S t
theorem Wf.A {A A' : Nat → Prop} {g : Nat} {dc : Bool} {τ : List Bool} {S : PT} (h : Wf A g dc τ S) (hA : ∀ pc, pc < cn S → A pc → A' pc) : Wf A' g dc τ S := ⟨fun pc hpc hn => h.1 pc hpc (fun x => hn (hA pc hpc x)), h.2⟩
theorem CI_cts {T : TD} {S S' : PT} (hT : tFul T) (e : cts T S = .ok S') (h : CI S) : CI S' ∧ cK S' = cK S + 1 ∧ ti S + 3 ≤ ti S' := by
  obtain ⟨u0, k20, S1, e1, rfl⟩ := cts_ok e
  obtain ⟨w, hn, hk, hkn, hL0, hz, ht⟩ := h
  have w' : Wf (fun pc => (cP S pc).1 = 33 ∧ pc < cn S) 0 false [] (beT S) := w
  obtain ⟨w1, p1⟩ := W_tst hT (by decide) e1 w' (by decide) (by decide)
  obtain ⟨m1, m2⟩ := Mo_tst T 10 _ _ e1
  obtain ⟨-, b2, b3, -⟩ := Mb_tst T 10 _ _ e1
  have q1 := GT_tst Qs_GT T 10 _ _ e1
  have c0 : cn (beT S) = cn S := rfl
  have t0 : ti (beT S) = ti S := rfl
  have k0 : cK (beT S) = cK S + 1 := rfl
  have l0 : cL (beT S) = va_up (cL S) (cK S) (cn S) := rfl
  have P0 : cP (beT S) = cP S := rfl
  have T0 : cT (beT S) = cT S := rfl
  rw [c0, t0] at m1
  rw [t0] at m2
  rw [k0] at b2
  rw [l0] at b3
  obtain ⟨q2, q3, q4⟩ := q1
  rw [c0] at q2 q3 q4
  rw [P0] at q3
  have kS : cK (em 33 0 S1) = cK S + 1 := b2
  have lS : cL (em 33 0 S1) = va_up (cL S) (cK S) (cn S) := b3
  have nS : cn (em 33 0 S1) = cn S1 + 1 := rfl
  have tS : ti (em 33 0 S1) = ti S1 := rfl
  have pe := Pre.em (S := S1) (o := 33) (a := 0)
  have P1 : ∀ i, i < cn S1 → cP (em 33 0 S1) i = cP S1 i := pe.2.1
  have P33 : cP (em 33 0 S1) (cn S1) = (33, 0) := em_P
  have ne : 0 < cn S1 - cn S := by
    rcases Nat.lt_or_ge (cn S) (cn S1) with g | g
    · omega
    · exfalso
      have ee : cn S1 = cn S := by omega
      have a : cT S1 (cn S1) = [true] := w1.2.1
      have b : cT S1 (cn S) = cT S (cn S) := (p1.2.2 (cn S) (Nat.le_refl _)).1
      have c : cT S (cn S) = [] := w.2.1
      rw [ee, b, c] at a
      cases a
  have xS : ∀ t, t < cK S → cX (em 33 0 S1) t = cX S t := fun t h => by
    unfold cX
    rw [kS, lS, nS, if_pos (by omega)]
    by_cases g : t + 1 < cK S
    · rw [if_pos g, up_n _ _ (by omega)]
    · rw [if_neg g, show t + 1 = cK S by omega, up_s]
  have xL : cX (em 33 0 S1) (cK S) = cn S1 + 1 := by
    unfold cX
    rw [kS, if_neg (by omega)]; rfl
  refine ⟨⟨?_, by rw [nS, tS, kS]; omega, by rw [kS]; omega, by rw [kS, nS]; omega, fun _ => ?_, fun h => absurd h (by rw [kS]; omega), fun t htk => ?_⟩, kS, m2⟩
  · -- well formed
    have w1' : Wf (fun pc => (cP (em 33 0 S1) pc).1 = 33 ∧ pc < cn (em 33 0 S1)) 0 false [true] S1 := w1.A (fun pc hpc x => ⟨by rw [P1 pc hpc, q3 pc x.2]; exact x.1, by rw [nS]; omega⟩)
    refine ⟨INV.em w1'.1 (by decide) (fun x => absurd ⟨by rw [P33], by rw [nS]; omega⟩ x), ?_, ?_, ?_⟩
    · rw [nS, em_T, w1'.2.1]; rfl
    · rw [nS, em_G, w1'.2.2.1]; rfl
    · show p_dc (cP (em 33 0 S1)) (cn S1 + 1) = false
      simp only [p_dc]
      rw [P33]; rfl
  · rw [lS]
    by_cases g : cK S = 0
    · rw [g, up_s]; exact hz g
    · rw [up_n _ _ (by omega)]; exact hL0 (by omega)
  · rw [kS] at htk
    by_cases g : t = cK S
    · subst g
      unfold TG
      rw [xL, lS, up_s, nS]
      refine ⟨hkn, by omega, Nat.le_refl _, by rw [Nat.add_sub_cancel, P33], ?_, ?_, fun j h1 h2 => ?_⟩
      · rw [(pe.2.2 (cn S) (by omega)).1, (p1.2.2 (cn S) (Nat.le_refl _)).1]; exact w.2.1
      · rw [Nat.add_sub_cancel, (pe.2.2 (cn S1) (Nat.le_refl _)).1]; exact w1.2.1
      · rw [P1 j (by omega)]; exact q4 j h1 (by omega)
    · have hlt : t < cK S := by omega
      obtain ⟨a1, a2, a3, a4, a5, a6, a7⟩ := ht t hlt
      have lt : cL (em 33 0 S1) t = cL S t := by rw [lS, up_n _ _ g]
      unfold TG
      rw [xS t hlt, lt, nS]
      have PT : ∀ j, j < cn S → cP (em 33 0 S1) j = cP S j := fun j hj => (P1 j (by omega)).trans (q3 j hj)
      have TT : ∀ j, j ≤ cn S → cT (em 33 0 S1) j = cT S j := fun j hj => ((pe.2.2 j (by omega)).1).trans ((p1.2.2 j hj).1)
      refine ⟨a1, a2, by omega, ?_, ?_, ?_, fun j h1 h2 => ?_⟩
      · rw [PT _ (by omega)]; exact a4
      · rw [TT _ (by omega)]; exact a5
      · rw [TT _ (by omega)]; exact a6
      · rw [PT j (by omega)]; exact a7 j h1 h2
theorem CI_ctl {T : TD} (hT : tFul T) : ∀ (f : Nat) (S S' : PT), ctl T f S = .ok S' → CI S → 0 < cK S → CI S' ∧ 0 < cK S'
  | 0, S, S', e, h, h0 => by cases e; exact ⟨h, h0⟩
  | f + 1, S, S', e, h, h0 => by
    rw [ctl] at e
    split at e
    · obtain ⟨S1, e1, e2⟩ := pb_inv e
      have h' : CI (adv S) := ⟨h.1, by have := h.2.1; show cn S ≤ ti S + 1 + cK S; omega, h.2.2.1, h.2.2.2.1, h.2.2.2.2.1, h.2.2.2.2.2.1, h.2.2.2.2.2.2⟩
      obtain ⟨a, b, -⟩ := CI_cts hT e1 h'
      exact CI_ctl hT f S1 S' e2 a (by omega)
    · cases e; exact ⟨h, h0⟩
theorem CI_0 : CI PT0 := ⟨⟨fun pc hpc => absurd hpc (Nat.not_lt_zero _), rfl, rfl, rfl⟩, Nat.le_refl _, Nat.zero_le _, Nat.le_refl _, fun h => absurd h (Nat.lt_irrefl _), fun _ => rfl, fun t ht => absurd ht (Nat.not_lt_zero _)⟩
/-- an order of a test -/
theorem okl_w {P : Nat → Nat × Int32} {n : Nat} {ty : Nat → List Bool} {sg : Nat → Nat} {pc : Nat} (h : okl P n ty sg pc) (ho : 2 ≤ (P pc).1 ∧ (P pc).1 ≤ 14) (hn : pc + 1 < n) : p_ok P n ty sg pc := by
  obtain ⟨h1, h2, h3, h4⟩ := h
  refine ⟨h1, h2, fun hx => ?_, ?_⟩
  · obtain ⟨a, b, c⟩ := h3 hx
    exact ⟨hn, b, c hn⟩
  · generalize hr : P pc = r at h4 ho ⊢
    obtain ⟨o, a⟩ := r
    dsimp only at h4 ho ⊢
    rcases (show o = 2 ∨ o = 3 ∨ o = 4 ∨ o = 5 ∨ o = 6 ∨ o = 7 ∨ o = 8 ∨ o = 9 ∨ o = 10 ∨ o = 11 ∨ o = 12 ∨ o = 13 ∨ o = 14 by omega) with rfl | rfl | rfl | rfl | rfl | rfl | rfl | rfl | rfl | rfl | rfl | rfl | rfl
    all_goals exact h4
/-- a claim -/
def CG (S : PT) : Prop := 0 < cK S ∧ cK S ≤ 20 ∧ cn S ≤ 600 ∧ cL S 0 = 0 ∧ (∀ t, t < cK S → TG S t) ∧ ∀ t j, t < cK S → cL S t ≤ j → j + 1 < cX S t → p_ok (cP S) (cn S) (cT S) (cG S) j
theorem CG_rdC {T : TD} {S : PT} (hT : tFul T) (e : rdC T PT0 = .ok S) (hi : ti S ≤ T.1) : CG S := by
  obtain ⟨S1, e1, e2⟩ := pb_inv e
  obtain ⟨S2, e3, e4⟩ := pb_inv e2
  split at e4
  · cases e4
    obtain ⟨a, b, -⟩ := CI_cts hT e1 CI_0
    obtain ⟨⟨w, c1, c2, c3, c4, c5, c6⟩, c0⟩ := CI_ctl hT 501 S1 _ e3 a (by omega)
    have : T.1 ≤ 500 := hT.1.1
    refine ⟨c0, c2, by omega, c4 c0, c6, fun t j ht h1 h2 => ?_⟩
    obtain ⟨-, a2, a3, -, -, -, a7⟩ := c6 t ht
    have ho := a7 j h1 h2
    exact okl_w (w.1 j (by omega) (fun x => by omega)) ho (by omega)
  · cases e4
theorem CG.X {S : PT} {t : Nat} (ht : t + 1 < cK S) : cX S t = cL S (t + 1) := if_pos ht
/-- orders one by one -/
def p_ev (P : Nat → Nat × Int32) (g : Int32) (nm cl : Nat → Int32) : Nat → Nat → List Int32 → Except Int32 (List Int32)
  | 0, _, stk => .ok stk
  | m + 1, pc, stk => match p_work g nm cl (P pc).1 (P pc).2 stk with
    | .ok st => p_ev P g nm cl m (pc + 1) st
    | .error e => .error e
/-- whether a test holds -/
def tHo (S : PT) (B : Nat) (nm : Nat → Int32) (t : Nat) : Bool := match p_ev (cP S) (mk B) nm (fun _ => 0) (cX S t - 1 - cL S t) (cL S t) [] with
  | .ok (v :: _) => decide (v = 1)
  | _ => false
/-- the tests that do not hold, as bits -/
def fBt (H : Nat → Bool) : Nat → Nat
  | 0 => 0
  | t + 1 => if H t = true then fBt H t else fBt H t + 2 ^ t
theorem fBt_lt (H : Nat → Bool) : ∀ t, fBt H t < 2 ^ t
  | 0 => Nat.one_pos
  | t + 1 => by
    have := fBt_lt H t
    rw [fBt, Nat.pow_succ]
    split <;> omega
theorem fBt_or {H : Nat → Bool} {t : Nat} : fBt H t ||| 2 ^ t = fBt H t + 2 ^ t := by
  have := Nat.two_pow_add_eq_or_of_lt (fBt_lt H t) 1
  rw [Nat.mul_one] at this
  rw [Nat.or_comm, ← this, Nat.add_comm]
theorem fBt_0 {H : Nat → Bool} : ∀ t, fBt H t = 0 ↔ ∀ i, i < t → H i = true
  | 0 => ⟨fun _ i h => absurd h (Nat.not_lt_zero i), fun _ => rfl⟩
  | t + 1 => by
    have ih := fBt_0 (H := H) t
    have p := Nat.two_pow_pos t
    rw [fBt]
    constructor
    · intro h i hi
      split at h
      · next ht =>
        by_cases g : i = t
        · subst g; exact ht
        · exact ih.mp h i (by omega)
      · omega
    · intro h
      rw [if_pos (h t (by omega))]
      exact ih.mpr (fun i hi => h i (by omega))
