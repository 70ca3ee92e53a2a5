/-! PART a3: the class finds the least proof and writes it down -/
def bb (a : Nat × Nat) : Int32 := if a.2 = 99 then -1 else nI a.2
/-- the first byte of a part's least proof -/
def kb (N : Nat → Nat) (f : Nat → Nat × Nat) (p : Nat) : Int32 := if N p ≠ 0 then nI (100 + tz 20 (N p)) else bb (f p)
/-- the bytes, by the parts that wait -/
def wrL (N : Nat → Nat) (f : Nat → Nat × Nat) : Nat → List Nat → List Int32
  | 0, _ => []
  | _ + 1, [] => []
  | m + 1, p :: st => if N p ≠ 0 then nI (100 + tz 20 (N p)) :: wrL N f m st else nI (f p).2 :: wrL N f m (h0 p (f p).2 :: h1 p (f p).2 :: st)
def okS (n A : Nat) (f : Nat → Nat × Nat) : List Nat → Prop
  | [] => True
  | p :: st => p < 3 ^ n ∧ (f p).1 < A ∧ st.length + fcn p n ≤ n ∧ okS n A f st
def wg (n : Nat) : List Nat → Nat
  | [] => 0
  | p :: st => (2 ^ (fcn p n + 1) - 1) + wg n st
theorem wg_pos (n p : Nat) (st : List Nat) : wg n st + 1 ≤ wg n (p :: st) := by
  have : 2 ^ 1 ≤ 2 ^ (fcn p n + 1) := Nat.pow_le_pow_right (by decide) (by omega)
  show wg n st + 1 ≤ (2 ^ (fcn p n + 1) - 1) + wg n st
  omega
theorem okS_part {n A B : Nat} {N : Nat → Nat} {f g : Nat → Nat × Nat} {p : Nat} {st : List Nat} (hA : 1000 ≤ A) (hl : ∀ p, lvP n A B N f g p) (h : okS n A f (p :: st)) (hN : N p = 0) : (f p).2 < n ∧ dg p (f p).2 = 2 ∧ okS n A f (h0 p (f p).2 :: h1 p (f p).2 :: st) ∧ wg n (h0 p (f p).2 :: h1 p (f p).2 :: st) + 1 = wg n (p :: st) := by
  obtain ⟨a1, a2, a3, a4⟩ := h
  rcases hl p with ⟨x, -, -⟩ | ⟨-, -, -, -, y⟩
  · rw [x] at a2; exact absurd a2 (Nat.lt_irrefl _)
  · obtain ⟨y1, y2, y3, y4⟩ := y hN
    have c0 := fcn_h0 (n := n) y2 y1
    have c1 := fcn_h1 (n := n) y2 y1
    have l0 := h0_lt y2
    have l1 := h1_lt y2
    refine ⟨y1, y2, ⟨by omega, y3, by show st.length + 1 + _ ≤ n; omega, by omega, y4, by omega, a4⟩, ?_⟩
    show (2 ^ (fcn (h0 p (f p).2) n + 1) - 1) + ((2 ^ (fcn (h1 p (f p).2) n + 1) - 1) + wg n st) + 1 = (2 ^ (fcn p n + 1) - 1) + wg n st
    rw [show fcn (h1 p (f p).2) n = fcn (h0 p (f p).2) n by omega, ← c0, Nat.pow_succ 2 (fcn (h0 p (f p).2) n + 1)]
    have := Nat.two_pow_pos (fcn (h0 p (f p).2) n + 1)
    omega
theorem okS_len {n A : Nat} {f : Nat → Nat × Nat} : ∀ {st : List Nat}, okS n A f st → st.length ≤ n + 1
  | [], _ => Nat.zero_le _
  | p :: st, h => by have := h.2.2.1; show st.length + 1 ≤ n + 1; omega
theorem lvP.le {n A B : Nat} {N : Nat → Nat} {f g : Nat → Nat × Nat} {p : Nat} (hn : n ≤ 8) (hA : 1000 ≤ A) (h : lvP n A B N f g p) : (f p).1 ≤ A := by
  have := two_fc (p := p) hn
  rcases h with ⟨x, -⟩ | ⟨-, -, x, -⟩
  · rw [x]; exact Nat.le_refl _
  · omega
/-- only one part's entry differs -/
def KP1 (p : Nat) (I0 I : Nat → Nat → Int32) : Prop := ∀ o k, ¬ ((o = 25 ∨ o = 26) ∧ k = p) → I o k = I0 o k
theorem KP1.tr {p : Nat} {I0 I1 I2 : Nat → Nat → Int32} (a : KP1 p I0 I1) (b : KP1 p I1 I2) : KP1 p I0 I2 := fun o k h => (b o k h).trans (a o k h)
theorem KP1.q {p : Nat} {I0 I : Nat → Nat → Int32} {L : Nat → Nat → Int64} (h : KP1 p I0 I) : KFq I0 I L L :=
  ⟨fun o _ _ _ _ _ _ _ _ h25 h26 _ => funext fun k => h o k (fun x => x.1.elim h25 h26), h 4 19 (by omega), fun k _ => h 23 k (by omega), fun _ _ _ => rfl⟩
section KFIND
variable {X : aw_X} {d : Nat} {Q : Option Value → aw_H → Prop} {I : Nat → Nat → Int32} {L : Nat → Nat → Int64} {D : Nat → Nat} {S : PT} {c B T O : Nat}
theorem l_Pf_choose {n p : Nat} {f : Nat → Nat × Nat} {r : Nat × Nat} (hp : p < 6561) (h8 : n ≤ 8) {I0 : Nat → Nat → Int32} (eb : I0 1 0 * (I0 1 1 + I0 1 2) = nI n) (hf : ∀ q, q < p → I0 25 q = nI (f q).1 ∧ (f q).1 ≤ 100000)
    (hQ : ∀ I', KP1 p I0 I' → I' 25 p = nI r.1 → I' 26 p = bb r → Q none (aw_s I' L D)) :
    ∀ (m j : Nat) (a : Nat × Nat) (I : Nat → Nat → Int32), j + m = n → KP1 p I0 I → I 25 p = nI a.1 → I 26 p = bb a → a.1 ≤ 100000 → lvL f p m j a = r →
      aw_z X (d + 2) y_Pf_chooseFirst Q 64 [some (.ref 23), some (.int (nI p)), some (.int (nI j)), none] [] (aw_s I L D) := by
  have ebI : ∀ I, KP1 p I0 I → I 1 0 * (I 1 1 + I 1 2) = nI n := fun I f1 => by rw [f1 1 0 (by omega), f1 1 1 (by omega), f1 1 2 (by omega)]; exact eb
  intro m
  induction m with
  | zero =>
    intro j a I e f1 h25 h26 ha hr
    have ej : j = n := by omega
    refine b_Pf_chooseFirst_64 (aw_go rfl rfl (b_Sz_rowBits_0 ?_))
    rw [ebI I f1]
    have hr : a = r := hr
    subst hr
    exact b_Pf_chooseFirst_72 (fun _ => hQ I f1 h25 h26) (fun q => absurd (by rw [nI_leI (by omega) (by omega)]; omega) q)
  | succ m ih =>
    intro j a I e f1 h25 h26 ha hr
    refine b_Pf_chooseFirst_64 (aw_go rfl rfl (b_Sz_rowBits_0 ?_))
    rw [ebI I f1]
    have c2 : (nI (dg p j) = 2) = (dg p j = 2) := eqI (k := 2) (by have := dg_lt p j; omega) (by decide)
    rw [lvL] at hr
    refine b_Pf_chooseFirst_72 (fun q => ?_) (fun _ => c_Pf_digit hp (by omega) (b_Pf_chooseFirst_80 (fun q => ?_) (fun q => ?_)))
    · rw [nI_leI (by omega) (by omega)] at q; omega
    · rw [c2] at q
      rw [if_neg q] at hr
      rw [nI_1]
      exact ih (j + 1) a I (by omega) f1 h25 h26 ha hr
    · rw [c2] at q
      rw [if_pos q] at hr
      have l0 := h0_lt q
      have l1 := h1_lt q
      obtain ⟨v0, w0⟩ := hf _ l0
      obtain ⟨v1, w1⟩ := hf _ l1
      have e0 : I 25 (h0 p j) = nI (f (h0 p j)).1 := by rw [f1 25 (h0 p j) (by omega)]; exact v0
      have e1 : I 25 (h1 p j) = nI (f (h1 p j)).1 := by rw [f1 25 (h1 p j) (by omega)]; exact v1
      refine c_Pf_half0 (by omega) q (b_Pf_chooseFirst_94 (c_valueAtN (N := 6561) (by decide) rfl (by decide) (by omega) (b_Pf_chooseFirst_97 (c_Pf_half1 (by omega) q (b_Pf_chooseFirst_107 (c_valueAtN (N := 6561) (by decide) rfl (by decide) (by omega) ?_))))))
      rw [e0, e1]
      have B0 := @b_Pf_chooseFirst_110 X (d + 1) Q I L D (nI p) (nI j) (nI (f (h1 p j)).1) (nI (f (h0 p j)).1)
      rw [nI_add, nI_clamp (show p < 2 ^ 31 by omega), h25, nI_1] at B0
      have cle : (nI a.1 ≤ nI ((f (h0 p j)).1 + (f (h1 p j)).1)) = (a.1 ≤ (f (h0 p j)).1 + (f (h1 p j)).1) := nI_le' (by omega) (by omega)
      rw [cle] at B0
      refine B0 (aw_in_nI hp (by decide)) (fun q2 => ?_) (fun _ => aw_in_nI hp (by decide)) (fun _ => aw_in_nI hp (by decide)) (fun q2 => ?_)
      · rw [if_neg (by omega)] at hr
        exact ih (j + 1) a I (by omega) f1 h25 h26 ha hr
      · rw [if_pos (by omega)] at hr
        refine ih (j + 1) _ _ (by omega) (f1.tr (fun o k h => ?_)) (by rw [au_o (by decide), au_s]) ?_ (by show (f (h0 p j)).1 + (f (h1 p j)).1 ≤ 100000; omega) hr
        · rw [au_ok (by omega), au_ok (by omega)]
        · rw [au_s]; unfold bb; rw [if_neg (show ¬ j = 99 by omega)]
theorem c_Pf_choose {n p : Nat} {N : Nat → Nat} {f : Nat → Nat × Nat} (hp : p < 6561) (h8 : n ≤ 8) (hf0 : isLV n 100000 N f) (hN20 : N p < 2 ^ 20) (eb : I 1 0 * (I 1 1 + I 1 2) = nI n) (h24 : I 24 p = nI (N p)) (hf : ∀ q, q < p → I 25 q = nI (f q).1 ∧ (f q).1 ≤ 100000)
    (hQ : ∀ I', KP1 p I I' → I' 25 p = nI (f p).1 → I' 26 p = kb N f p → Q none (aw_s I' L D)) : aw_m X (d + 2) y_Pf_chooseFirst [.ref 23, .int (nI p)] (aw_s I L D) Q := by
  have ef := hf0 p
  unfold lvG at ef
  have B0 := @b_Pf_chooseFirst_0 X (d + 1) Q I L D (nI p)
  rw [nI_clamp (show p < 2 ^ 31 by omega), h24] at B0
  have n0 : ¬ nI p < 0 := nI_pos (by omega)
  have n1 : nI p < (6561 : Int32) := by rw [show (6561 : Int32) = nI 6561 from rfl, nI_ltI (by omega) (by decide)]; exact hp
  have e0 : (nI (N p) = 0) = (N p = 0) := nI_eq' (b := 0) (by omega) (by decide)
  rw [e0] at B0
  have vi := aw_in_nI hp (show 6561 < 2 ^ 31 by decide)
  refine aw_go rfl rfl (B0 (fun q => absurd q n0) (fun _ _ => vi) (fun _ _ => vi) (fun _ _ => vi) (fun _ _ q => ?_) (fun _ _ _ => vi) (fun _ _ _ => vi) (fun _ _ q => ?_) (fun _ q => absurd n1 q))
  · rw [if_neg (fun x => x q)] at ef
    have k1 : KP1 p I (aw_u (aw_u I 25 p 100000) 26 p (-1)) := fun o k h => by rw [au_ok (by omega), au_ok (by omega)]
    refine l_Pf_choose (d := d) (I0 := aw_u (aw_u I 25 p 100000) 26 p (-1)) (f := f) (r := f p) hp h8 (by rw [k1 1 0 (by omega), k1 1 1 (by omega), k1 1 2 (by omega)]; exact eb) (fun q hq => by rw [k1 25 q (by omega)]; exact hf q hq) (fun I' f1 h25 h26 => hQ I' (k1.tr f1) h25 (by unfold kb; rw [if_neg (fun x => x q)]; exact h26)) n 0 (100000, 99) _ (by omega) (fun _ _ _ => rfl) (by rw [au_o (by decide), au_s]; rfl) (by rw [au_s]; rfl) (Nat.le_refl _) ef.symm
  · have q : N p ≠ 0 := q
    rw [if_pos q] at ef
    obtain ⟨t20, u, eu⟩ := tz_sp 20 (N p) (by omega) hN20
    refine c_ntz eu (by omega) (b_Pf_chooseFirst_59 vi ?_)
    rw [nI_clamp (show p < 2 ^ 31 by omega), show (100 : Int32) = nI 100 from rfl, nI_add]
    refine hQ _ (fun o k h => by rw [au_ok (by omega), au_ok (by omega), au_ok (by omega), au_ok (by omega)]) ?_ ?_
    · rw [au_o (by decide), au_s, ef]; rfl
    · rw [au_s]; unfold kb; rw [if_pos q]
/-- what the writing of a proof leaves -/
def KFw (I0 I : Nat → Nat → Int32) (L0 L : Nat → Nat → Int64) : Prop := (∀ o, o ≠ 4 → o ≠ 5 → o ≠ 6 → o ≠ 7 → o ≠ 8 → o ≠ 10 → o ≠ 23 → o ≠ 24 → o ≠ 25 → o ≠ 26 → o ≠ 27 → o ≠ 28 → I o = I0 o) ∧ I 4 19 = I0 4 19 ∧ ∀ o, o ≠ 4 → o ≠ 9 → L o = L0 o
theorem KFq.w {I0 I : Nat → Nat → Int32} {L0 L : Nat → Nat → Int64} (h : KFq I0 I L0 L) : KFw I0 I L0 L := ⟨fun o h1 h2 h3 h4 h5 h6 h7 h8 h9 h10 h11 _ => h.1 o h1 h2 h3 h4 h5 h6 h7 h8 h9 h10 h11, h.2.1, h.2.2.2⟩
theorem KFw.tr {I0 I1 I2 : Nat → Nat → Int32} {L0 L1 L2 : Nat → Nat → Int64} (a : KFw I0 I1 L0 L1) (b : KFw I1 I2 L1 L2) : KFw I0 I2 L0 L2 :=
  ⟨fun o h1 h2 h3 h4 h5 h6 h7 h8 h9 h10 h11 h12 => (b.1 o h1 h2 h3 h4 h5 h6 h7 h8 h9 h10 h11 h12).trans (a.1 o h1 h2 h3 h4 h5 h6 h7 h8 h9 h10 h11 h12), b.2.1.trans a.2.1, fun o h1 h2 => (b.2.2 o h1 h2).trans (a.2.2 o h1 h2)⟩
/-- the parts that wait -/
def KWs (I : Nat → Nat → Int32) (st : List Nat) : Prop := I 23 6 = nI st.length ∧ PL (I 27) st
/-- only what waits differs -/
def KW1 (I0 I : Nat → Nat → Int32) : Prop := (∀ o, o ≠ 23 → o ≠ 27 → I o = I0 o) ∧ ∀ k, k ≠ 6 → I 23 k = I0 23 k
theorem KW1.rf : KW1 I I := ⟨fun _ _ _ => rfl, fun _ _ => rfl⟩
theorem KW1.tr {I0 I1 I2 : Nat → Nat → Int32} (a : KW1 I0 I1) (b : KW1 I1 I2) : KW1 I0 I2 := ⟨fun o h1 h2 => (b.1 o h1 h2).trans (a.1 o h1 h2), fun k h => (b.2 k h).trans (a.2 k h)⟩
theorem KW1.q {I0 I : Nat → Nat → Int32} {L : Nat → Nat → Int64} (h : KW1 I0 I) : KFq I0 I L L := ⟨fun o _ _ _ _ _ _ a _ _ _ b => h.1 o a b, by rw [h.1 4 (by decide) (by decide)], h.2, fun _ _ _ => rfl⟩
theorem c_Pf_push {p : Nat} {st : List Nat} (h : KWs I st) (hl : st.length < 16) (hQ : ∀ I', KW1 I I' → KWs I' (p :: st) → Q none (aw_s I' L D)) : aw_m X d y_Pf_push [.ref 23, .int (nI p)] (aw_s I L D) Q := by
  have B0 := @b_Pf_push_0 X d Q I L D (nI p)
  have c1 : ¬ (nI st.length < 0) := nI_pos (by omega)
  have c2 : ¬ ((16 : Int32) ≤ nI st.length) := by rw [show (16 : Int32) = nI 16 from rfl, nI_leI (by decide) (by omega)]; omega
  rw [h.1, nI_clamp (show st.length < 2 ^ 31 by omega), nI_1] at B0
  refine aw_go rfl rfl (B0 (fun q => absurd q c1) (fun _ q => absurd q c2) (fun _ _ => aw_in_nI hl (by decide)) (fun _ _ => hQ _ ⟨fun o a b => by rw [au_o a, au_o b], fun k a => by rw [au_k a, au_o (by decide)]⟩ ⟨au_s _ _ _ _, ?_, ?_⟩))
  · rw [au_o (by decide), au_s]
  · rw [au_o (by decide), aw_u_same]
    exact PL_up (Nat.le_refl _) h.2
theorem c_Pf_pop {p : Nat} {st : List Nat} (h : KWs I (p :: st)) (hl : st.length < 16) (hQ : ∀ I', KW1 I I' → KWs I' st → Q (some (.int (nI p))) (aw_s I' L D)) : aw_m X d y_Pf_pop [.ref 23] (aw_s I L D) Q := by
  have B0 := @b_Pf_pop_0 X d Q I L D
  have h1 : I 23 6 = nI (st.length + 1) := h.1
  have c1 : ¬ (nI (st.length + 1) ≤ 0) := by rw [show (0 : Int32) = nI 0 from rfl, nI_leI (by omega) (by decide)]; omega
  have c2 : nI (st.length + 1) ≤ (16 : Int32) := by rw [show (16 : Int32) = nI 16 from rfl, nI_leI (by omega) (by decide)]; omega
  have e1 : nI (st.length + 1) - 1 = nI st.length := by rw [show (1 : Int32) = nI 1 from rfl, pk_sub (by omega)]; exact congrArg nI (by omega)
  rw [h1, e1, nI_clamp (show st.length < 2 ^ 31 by omega), h.2.1] at B0
  exact aw_go rfl rfl (B0 (fun q => absurd q c1) (fun _ _ => aw_in_nI hl (by decide)) (fun _ _ => hQ _ ⟨fun o a b => au_o a, fun k a => au_k a⟩ ⟨au_s _ _ _ _, by rw [au_o (by decide)]; exact h.2.2⟩) (fun _ q => absurd c2 q))
theorem c_Pf_halves {p j : Nat} {st : List Nat} (h : KWs I st) (hl : st.length < 15) (hj : j < 9) (h2 : dg p j = 2) (hQ : ∀ I', KW1 I I' → KWs I' (h0 p j :: h1 p j :: st) → Q none (aw_s I' L D)) : aw_m X (d + 2) y_Pf_pushHalves [.ref 23, .int (nI p), .int (nI j)] (aw_s I L D) Q :=
  aw_go rfl rfl (b_Pf_pushHalves_0 (c_Pf_half1 hj h2 (b_Pf_pushHalves_7 (c_Pf_push h (by omega) (fun I1 f1 k1 => b_Pf_pushHalves_10 (c_Pf_half0 hj h2 (b_Pf_pushHalves_17 (c_Pf_push k1 (by show st.length + 1 < 16; omega) (fun I2 f2 k2 => b_Pf_pushHalves_20 (hQ I2 (f1.tr f2) k2))))))))))
theorem l_Pf_write {n Bv : Nat} {N : Nat → Nat} {f g : Nat → Nat × Nat} {Lf : List Int32} (h8 : n ≤ 8) (hN20 : ∀ p, N p < 2 ^ 20) (hl : ∀ p, lvP n 100000 Bv N f g p) {I0 : Nat → Nat → Int32} {L0 : Nat → Nat → Int64} (h26 : ∀ p, p < 3 ^ n → I0 26 p = kb N f p)
    (hQ : ∀ I', KFw I0 I' L0 L → I' 23 8 = nI Lf.length → (∀ j, j < Lf.length → I' 28 j = Lf.getD j 0) → Q none (aw_s I' L D)) :
    ∀ (m : Nat) (st : List Nat) (pre : List Int32) (I : Nat → Nat → Int32), wg n st ≤ m → pre.length + wg n st ≤ 511 → okS n 100000 f st → KWs I st → KFw I0 I L0 L → I 26 = I0 26 → I 23 8 = nI pre.length → (∀ j, j < pre.length → I 28 j = pre.getD j 0) → pre ++ wrL N f m st = Lf →
      aw_z X (d + 3) y_Pf_writeDown Q 17 [some (.ref 23), none, some (.int (nI pre.length)), none, none] [] (aw_s I L D) := by
  have fin : ∀ (pre : List Int32) (I : Nat → Nat → Int32), pre.length ≤ 511 → KWs I [] → KFw I0 I L0 L → I 23 8 = nI pre.length → (∀ j, j < pre.length → I 28 j = pre.getD j 0) → pre = Lf → aw_z X (d + 3) y_Pf_writeDown Q 17 [some (.ref 23), none, some (.int (nI pre.length)), none, none] [] (aw_s I L D) := fun pre I hle hw fr e8 e28 ep => by
    subst ep
    have z : I 23 6 ≤ 0 := by rw [hw.1]; decide
    exact b_Pf_writeDown_17 (fun _ => hQ I fr e8 e28) (fun _ _ => hQ I fr e8 e28) (fun _ q => absurd z q)
  intro m
  induction m with
  | zero =>
    intro st pre I hm hpl ho hw fr e26 e8 e28 ep
    cases st with
    | nil => exact fin pre I (by omega) hw fr e8 e28 (by rw [← ep]; exact (List.append_nil _).symm)
    | cons p st => have := wg_pos n p st; omega
  | succ m ih =>
    intro st pre I hm hpl ho hw fr e26 e8 e28 ep
    cases st with
    | nil => exact fin pre I (by omega) hw fr e8 e28 (by rw [← ep]; exact (List.append_nil _).symm)
    | cons p st =>
      have wp := wg_pos n p st
      have hlen := okS_len ho
      simp only [List.length_cons] at hlen
      have a1 := ho.1
      have h3 : 3 ^ n ≤ 3 ^ 8 := Nat.pow_le_pow_right (by decide) h8
      have h38 : 3 ^ 8 = 6561 := by decide
      have c511 : ¬ ((511 : Int32) ≤ nI pre.length) := by rw [show (511 : Int32) = nI 511 from rfl, nI_leI (by decide) (by omega)]; omega
      have c0 : ¬ (I 23 6 ≤ 0) := by rw [hw.1, show (0 : Int32) = nI 0 from rfl, nI_leI (by simp; omega) (by decide)]; simp
      refine b_Pf_writeDown_17 (fun q => absurd q c511) (fun _ q => absurd q c0) (fun _ _ => c_Pf_pop hw (by omega) (fun I1 f1 w1 => b_Pf_writeDown_37 (c_valueAtN (N := 6561) (by decide) rfl (by decide) (by omega) ?_)))
      have k26 : I1 26 p = kb N f p := by rw [f1.1 26 (by decide) (by decide), e26]; exact h26 p a1
      rw [k26]
      have fr1 : KFw I0 I1 L0 L := fr.tr (f1.q (L := L)).w
      have pl : pre.length < 2 ^ 31 := by omega
      -- one byte more
      have grow : ∀ (x : Int32) (st' : List Nat) (I2 : Nat → Nat → Int32), KW1 (aw_u (aw_u I1 28 pre.length x) 23 8 (nI (pre.length + 1))) I2 → KWs I2 st' → okS n 100000 f st' → wg n st' + 1 ≤ wg n (p :: st) → pre ++ (x :: wrL N f m st') = Lf → aw_z X (d + 3) y_Pf_writeDown Q 77 [some (.ref 23), none, some (.int (nI pre.length)), none, none] [] (aw_s I2 L D) := by
        intro x st' I2 f2 w2 o2 hwg el
        refine b_Pf_writeDown_77 ?_
        rw [nI_1]
        have len : (pre ++ [x]).length = pre.length + 1 := by simp
        have g := ih st' (pre ++ [x]) I2 (by omega) (by rw [len]; omega) o2 w2 ⟨fun o z1 z2 z3 z4 z5 z6 z7 z8 z9 z10 z11 z12 => ?_, ?_, fr1.2.2⟩ ?_ ?_ (fun j hj => ?_) (by rw [List.append_assoc]; exact el)
        · rw [len] at g; exact g
        · rw [f2.1 o z7 z11, au_o z7, au_o z12]; exact fr1.1 o z1 z2 z3 z4 z5 z6 z7 z8 z9 z10 z11 z12
        · rw [f2.1 4 (by decide) (by decide), au_o (by decide), au_o (by decide)]; exact fr1.2.1
        · rw [f2.1 26 (by decide) (by decide), au_o (by decide), au_o (by decide), f1.1 26 (by decide) (by decide)]; exact e26
        · rw [f2.2 8 (by decide), au_s, len]
        · rw [f2.1 28 (by decide) (by decide), au_o (by decide)]
          rw [len] at hj
          by_cases gj : j = pre.length
          · subst gj
            rw [au_s]
            rw [List.getD_eq_getElem?_getD, List.getElem?_append_right (Nat.le_refl _), Nat.sub_self]; rfl
          · rw [au_k gj, f1.1 28 (by decide) (by decide), e28 j (by omega), List.getD_eq_getElem?_getD, List.getD_eq_getElem?_getD, List.getElem?_append_left (by omega)]
      have B0 := @b_Pf_writeDown_46 X (d + 2) Q I1 L D (nI pre.length) (nI p) (kb N f p)
      rw [nI_clamp pl, nI_1] at B0
      rw [wrL] at ep
      by_cases hn0 : N p ≠ 0
      · rw [if_pos hn0] at ep
        have tzs := tz_sp 20 (N p) (by omega) (hN20 p)
        have ek : kb N f p = nI (100 + tz 20 (N p)) := if_pos hn0
        have ge : (100 : Int32) ≤ nI (100 + tz 20 (N p)) := by rw [show (100 : Int32) = nI 100 from rfl, nI_leI (by decide) (by omega)]; omega
        rw [ek] at B0 ⊢
        refine B0 (aw_in_nI (by omega) (by decide)) (fun _ => grow _ st _ KW1.rf ⟨?_, ?_⟩ ho.2.2.2 (by omega) ep) (fun q => absurd ge q)
        · rw [au_k (by decide), au_o (by decide)]; exact w1.1
        · rw [au_o (by decide), au_o (by decide)]; exact w1.2
      · rw [if_neg hn0] at ep
        have hn0 := Classical.not_not.mp hn0
        obtain ⟨y1, y2, y3, y4⟩ := okS_part (by decide) hl ho hn0
        have ek : kb N f p = nI (f p).2 := by
          unfold kb bb
          rw [if_neg (fun x => x hn0), if_neg (by omega)]
        have lt : ¬ (100 : Int32) ≤ nI (f p).2 := by rw [show (100 : Int32) = nI 100 from rfl, nI_leI (by decide) (by omega)]; omega
        rw [ek] at B0 ⊢
        refine B0 (aw_in_nI (by omega) (by decide)) (fun q => absurd q lt) (fun _ => c_Pf_halves (d := d) ⟨?_, ?_⟩ (by omega) (by omega) y2 (fun I2 f2 w2 => grow _ _ I2 f2 w2 y3 (by omega) ep))
        · rw [au_k (by decide), au_o (by decide)]; exact w1.1
        · rw [au_o (by decide), au_o (by decide)]; exact w1.2
theorem c_Pf_write {n Bv w : Nat} {N : Nat → Nat} {f g : Nat → Nat × Nat} (h8 : n ≤ 8) (hN20 : ∀ p, N p < 2 ^ 20) (hl : ∀ p, lvP n 100000 Bv N f g p) (hw : w < 3 ^ n) (hA : (f w).1 < 100000) (h26 : ∀ p, p < 3 ^ n → I 26 p = kb N f p)
    (hQ : ∀ I', KFw I I' L L → I' 23 8 = nI (wrL N f 511 [w]).length → (∀ j, j < (wrL N f 511 [w]).length → I' 28 j = (wrL N f 511 [w]).getD j 0) → Q none (aw_s I' L D)) : aw_m X (d + 3) y_Pf_writeDown [.ref 23, .int (nI w)] (aw_s I L D) Q := by
  have fc := fcn_le w n
  have p9 : 2 ^ (fcn w n + 1) ≤ 2 ^ 9 := Nat.pow_le_pow_right (by decide) (by omega)
  have hwg : wg n [w] ≤ 511 := by show (2 ^ (fcn w n + 1) - 1) + 0 ≤ 511; omega
  refine aw_go rfl rfl (b_Pf_writeDown_0 (c_Pf_push (st := []) ⟨au_s _ _ _ _, trivial⟩ (by decide) (fun I1 f1 w1 => b_Pf_writeDown_15 ?_)))
  refine l_Pf_write (d := d) (I0 := I) (L0 := L) h8 hN20 hl h26 hQ 511 [w] [] I1 hwg (by show 0 + _ ≤ 511; omega) ⟨hw, hA, by show 0 + _ ≤ n; omega, trivial⟩ w1 ⟨fun o z1 z2 z3 z4 z5 z6 z7 z8 z9 z10 z11 z12 => ?_, ?_, fun _ _ _ => rfl⟩ ?_ ?_ (fun j hj => absurd hj (Nat.not_lt_zero j)) rfl
  · rw [f1.1 o z7 z11, au_o z7, au_o z7]
  · rw [f1.1 4 (by decide) (by decide), au_o (by decide), au_o (by decide)]
  · rw [f1.1 26 (by decide) (by decide), au_o (by decide), au_o (by decide)]
  · rw [f1.2 8 (by decide), au_k (by decide), au_s]; rfl
end KFIND
