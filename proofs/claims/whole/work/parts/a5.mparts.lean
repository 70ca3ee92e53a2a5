/-! PART a5: the reference lays its parts -/
/-- the powers of 3 -/
def RPw (I : Nat → Nat → Int32) : Prop := ∀ j, j < 9 → I 111 j = nI (3 ^ j)
theorem fre_s (p : Nat) : ∀ m j, fre p (m + 1) j = if fre p m j < j + m then fre p m j else if dg p (j + m) = 2 then j + m else j + m + 1
  | 0, j => by
    rw [fre, fre, fre, if_neg (show ¬ j < j + 0 by omega)]; rfl
  | m + 1, j => by
    rw [fre]
    by_cases g : dg p j = 2
    · rw [if_pos g, fre, if_pos g, if_pos (by omega)]
    · rw [if_neg g, fre_s p m (j + 1), fre, if_neg g, show j + 1 + m = j + (m + 1) by omega]
theorem h0_I2 {p j : Nat} (h : dg p j = 2) : nI p - 2 * nI (3 ^ j) = nI (h0 p j) := by
  have := dg_le (a := 2) (Nat.le_of_eq h.symm)
  rw [show (2 : Int32) = nI 2 from rfl, pk_mul, pk_sub (by omega)]; rfl
theorem h1_I2 {p j : Nat} (h : dg p j = 2) : nI p - nI (3 ^ j) = nI (h1 p j) := by
  have := dg_le (a := 1) (p := p) (j := j) (by omega)
  rw [pk_sub (by omega)]; rfl
/-- what the laying of parts leaves -/
def MFq (I0 I : Nat → Nat → Int32) (L0 L : Nat → Nat → Int64) : Prop := (∀ o, o ≠ 69 → o ≠ 84 → o ≠ 85 → o ≠ 86 → o ≠ 87 → o ≠ 88 → o ≠ 108 → o ≠ 109 → o ≠ 110 → o ≠ 113 → I o = I0 o) ∧ (∀ k, k ≠ 25 → k ≠ 42 → k ≠ 43 → k ≠ 44 → k ≠ 45 → I 69 k = I0 69 k) ∧ (∀ o, o ≠ 69 → L o = L0 o) ∧ ∀ k, k ≠ 46 → k ≠ 47 → L 69 k = L0 69 k
theorem MFq.rf {I : Nat → Nat → Int32} {L : Nat → Nat → Int64} : MFq I I L L := ⟨fun _ _ _ _ _ _ _ _ _ _ _ => rfl, fun _ _ _ _ _ _ => rfl, fun _ _ => rfl, fun _ _ _ => rfl⟩
theorem MFq.tr {I0 I1 I2 : Nat → Nat → Int32} {L0 L1 L2 : Nat → Nat → Int64} (a : MFq I0 I1 L0 L1) (b : MFq I1 I2 L1 L2) : MFq I0 I2 L0 L2 :=
  ⟨fun o h1 h2 h3 h4 h5 h6 h7 h8 h9 h10 => (b.1 o h1 h2 h3 h4 h5 h6 h7 h8 h9 h10).trans (a.1 o h1 h2 h3 h4 h5 h6 h7 h8 h9 h10), fun k h1 h2 h3 h4 h5 => (b.2.1 k h1 h2 h3 h4 h5).trans (a.2.1 k h1 h2 h3 h4 h5), fun o h => (b.2.2.1 o h).trans (a.2.2.1 o h), fun k h1 h2 => (b.2.2.2 k h1 h2).trans (a.2.2.2 k h1 h2)⟩
theorem MFr.q {I0 I : Nat → Nat → Int32} {L0 L : Nat → Nat → Int64} (h : MFr I0 I L0 L) : MFq I0 I L0 L := ⟨fun o h1 h2 h3 h4 h5 h6 _ _ _ _ => h.1 o h1 h2 h3 h4 h5 h6, h.2.1, h.2.2.1, h.2.2.2⟩
theorem MFq.u {I : Nat → Nat → Int32} {L : Nat → Nat → Int64} {o k : Nat} {v : Int32} (ho : o = 108 ∨ o = 109 ∨ o = 110 ∨ o = 113) : MFq I (aw_u I o k v) L L :=
  ⟨fun x h1 h2 h3 h4 h5 h6 h7 h8 h9 h10 => au_o (by omega), fun x _ _ _ _ _ => by rw [au_o (by omega)], fun _ _ => rfl, fun _ _ _ => rfl⟩
theorem MIc.q {S : PT} {B T O : Nat} {I I' : Nat → Nat → Int32} {L L' : Nat → Nat → Int64} (h : MIc S B T O I) (f : MFq I I' L L') : MIc S B T O I' := by
  obtain ⟨a, k, e, ⟨s1, s2, s3⟩⟩ := h
  have g : ∀ x, 46 ≤ x ∨ (26 ≤ x ∧ x ≤ 41) → I' 69 x = I 69 x := fun x hx => f.2.1 x (by omega) (by omega) (by omega) (by omega) (by omega)
  have o : ∀ o, o = 106 ∨ (71 ≤ o ∧ o ≤ 78) → I' o = I o := fun o ho => f.1 o (by omega) (by omega) (by omega) (by omega) (by omega) (by omega) (by omega) (by omega) (by omega) (by omega)
  exact ⟨a, k.fr a (g 75 (by omega)) (o 106 (by omega)) (KSl.same (fun x p q => o x (by omega))), e, by rw [g 33 (by omega)]; exact s1, by rw [g 34 (by omega)]; exact s2, by rw [g 35 (by omega)]; exact s3⟩
theorem RPw.q {I I' : Nat → Nat → Int32} {L L' : Nat → Nat → Int64} (h : RPw I) (f : MFq I I' L L') : RPw I' := fun j hj => by rw [f.1 111 (by decide) (by decide) (by decide) (by decide) (by decide) (by decide) (by decide) (by decide) (by decide) (by decide)]; exact h j hj
/-- by which digit a part is parted, as the reference keeps it -/
def cc (N : Nat → Nat) (g : Nat → Nat × Nat) (p : Nat) : Int32 := if N p ≠ 0 then -1 else bb (g p)
section MPRT
variable {X : aw_X} {d : Nat} {Q : Option Value → aw_H → Prop} {I : Nat → Nat → Int32} {L : Nat → Nat → Int64} {D : Nat → Nat} {S : PT} {B T O : Nat}
theorem l_M_dig {n p x : Nat} {N : Nat → Nat} (hp : p < 6561) (h8 : n ≤ 8) (hpw : RPw I) (h108 : ∀ q, q < p → I 108 q = nI (N q)) (hx : fre p n 0 < n → N (h0 p (fre p n 0)) &&& N (h1 p (fre p n 0)) = x)
    (hF : fre p n 0 < n → aw_z X (d + 1) y_M_layParts Q 136 [some (.ref 69), some (.int (nI n)), some (.int (nI p)), none, none, none, none] [] (aw_s (aw_u I 108 p (nI x)) L D))
    (hR : fre p n 0 = n → aw_m X d y_M_failing [.ref 69, .int (nI (rowF p n))] (aw_s I L D) (fun r A => aw_z X (d + 1) y_M_layParts Q 95 [some (.ref 69), some (.int (nI n)), some (.int (nI p)), none, none, none, none] (r.toList ++ [.int (nI p), .ref 108]) A)) :
    ∀ m j, j + m = n → aw_z X (d + 1) y_M_layParts Q 25 [some (.ref 69), some (.int (nI n)), some (.int (nI p)), some (.int (nI (rowF p j))), some (.int (if fre p j 0 < j then nI (fre p j 0) else -1)), some (.int (nI j)), none] [] (aw_s I L D) := by
  intro m
  induction m with
  | zero =>
    intro j e
    have ej : j = n := by omega
    subst ej
    have le : nI j ≤ nI j := by rw [nI_leI (by omega) (by omega)]; exact Nat.le_refl _
    obtain ⟨s1, s2, s3, s4⟩ := fre_sp p j 0
    by_cases g : fre p j 0 < j
    · have d2 := s3 (by omega)
      have hx' := hx g
      have hF' := hF g
      rw [if_pos g]
      generalize fre p j 0 = q at *
      have l0 := h0_lt d2
      have l1 := h1_lt d2
      have n1 : ¬ nI q = -1 := nI_ne1 (by omega)
      have B0 := @b_M_layParts_25 X d Q I L D (nI j) (nI p) (nI (rowF p j)) (nI q) (nI j)
      rw [nI_clamp (show q < 2 ^ 31 by omega), hpw q (by omega), h0_I2 d2, h1_I2 d2, nI_clamp (show p < 2 ^ 31 by omega), nI_clamp (show h0 p q < 2 ^ 31 by omega), nI_clamp (show h1 p q < 2 ^ 31 by omega), h108 _ l0, h108 _ l1, nI_and, hx'] at B0
      exact B0 (fun _ _ => aw_in_nI (by omega) (by decide)) (fun _ _ => aw_in_nI (by omega) (by decide)) (fun _ _ => aw_in_nI (by omega) (by decide)) (fun _ _ => aw_in_nI (by omega) (by decide)) (fun _ _ => aw_in_nI hp (by decide)) (fun _ _ => hF') (fun _ q => absurd q n1) (fun q => absurd le q) (fun q => absurd le q) (fun q => absurd le q) (fun q => absurd le q) (fun q => absurd le q)
    · rw [if_neg g]
      exact b_M_layParts_25 (fun _ q => absurd rfl q) (fun _ q => absurd rfl q) (fun _ q => absurd rfl q) (fun _ q => absurd rfl q) (fun _ q => absurd rfl q) (fun _ q => absurd rfl q) (fun _ _ => hR (by omega)) (fun q => absurd le q) (fun q => absurd le q) (fun q => absurd le q) (fun q => absurd le q) (fun q => absurd le q)
  | succ m ih =>
    intro j e
    have nle : ¬ nI n ≤ nI j := by rw [nI_leI (by omega) (by omega)]; omega
    have h3 : 3 ^ j ≤ 3 ^ 8 := Nat.pow_le_pow_right (by decide) (by omega)
    have p0 := p3 j
    have dlt := dg_lt p j
    have fs := fre_s p j 0
    rw [Nat.zero_add] at fs
    have bl : fre p j 0 ≤ j := by have := (fre_sp p j 0).2.1; omega
    have c2 : (nI (dg p j) = 2) = (dg p j = 2) := eqI (k := 2) (by omega) (by decide)
    have B0 := @b_M_layParts_25 X d Q I L D (nI n) (nI p) (nI (rowF p j)) (if fre p j 0 < j then nI (fre p j 0) else -1) (nI j)
    rw [nI_clamp (show j < 2 ^ 31 by omega), hpw j (by omega), dg_I hp (by omega), c2] at B0
    -- the row, one digit on
    have k60 : ∀ v4, v4 = (if fre p (j + 1) 0 < j + 1 then nI (fre p (j + 1) 0) else -1) → aw_z X (d + 1) y_M_layParts Q 60 [some (.ref 69), some (.int (nI n)), some (.int (nI p)), some (.int (nI (rowF p j))), some (.int v4), some (.int (nI j)), some (.int (nI (dg p j)))] [] (aw_s I L D) := by
      intro v4 hv4
      have g := ih (j + 1) (by omega)
      rw [← hv4] at g
      have c1 : (nI (dg p j) = 1) = (dg p j = 1) := eqI (k := 1) (by omega) (by decide)
      have B1 := @b_M_layParts_60 X d Q I L D (nI n) (nI p) (nI (rowF p j)) v4 (nI j) (nI (dg p j))
      rw [c1, nI_1, show (1 : Int32) = nI 1 from rfl, shl_nI (by omega), Nat.one_mul, nI_or, rowF_or] at B1
      rw [rowF] at g
      refine B1 (fun q => ?_) (fun q => ?_)
      · rw [if_neg q] at g; exact g
      · rw [if_pos q] at g; exact g
    have z3 : ¬ nI (3 ^ j) = 0 := by rw [show (0 : Int32) = nI 0 from rfl, nI_eq (by omega) (by decide)]; omega
    refine B0 (fun q => absurd q nle) (fun q => absurd q nle) (fun q => absurd q nle) (fun q => absurd q nle) (fun q => absurd q nle) (fun q => absurd q nle) (fun q => absurd q nle) (fun _ => aw_in_nI (by omega) (by decide)) (fun _ => z3) (fun _ q => k60 _ ?_) (fun _ q q2 => k60 _ ?_) (fun _ q q2 => k60 _ ?_)
    · rw [fs]
      by_cases g : fre p j 0 < j
      · rw [if_pos g, if_pos g, if_pos (by omega)]
      · rw [if_neg g, if_neg g, if_neg q, if_neg (Nat.lt_irrefl _)]
    · by_cases g : fre p j 0 < j
      · rw [fs, if_pos g, if_pos g, if_pos (by omega)]
      · rw [if_neg g] at q2; exact absurd rfl q2
    · by_cases g : fre p j 0 < j
      · rw [if_pos g] at q2; exact absurd q2 (nI_ne1 (by omega))
      · rw [fs, if_neg g, if_pos q, if_pos (Nat.lt_succ_self _)]
/-- only one part's entries differ -/
def MP1 (p : Nat) (I0 I : Nat → Nat → Int32) : Prop := ∀ o k, ¬ ((o = 108 ∨ o = 109 ∨ o = 110) ∧ k = p) → I o k = I0 o k
theorem MP1.tr {p : Nat} {I0 I1 I2 : Nat → Nat → Int32} (a : MP1 p I0 I1) (b : MP1 p I1 I2) : MP1 p I0 I2 := fun o k h => (b o k h).trans (a o k h)
theorem MP1.q {p : Nat} {I0 I : Nat → Nat → Int32} {L : Nat → Nat → Int64} (h : MP1 p I0 I) : MFq I0 I L L :=
  ⟨fun o _ _ _ _ _ _ h7 h8 h9 _ => funext fun k => h o k (by omega), fun k _ _ _ _ _ => h 69 k (by omega), fun _ _ => rfl, fun _ _ _ => rfl⟩
theorem l_M_lv {n p : Nat} {g : Nat → Nat × Nat} {r : Nat × Nat} (hp : p < 6561) (h8 : n ≤ 8) {I0 : Nat → Nat → Int32} (hpw : RPw I0) (h108 : I0 108 p = 0) (hf : ∀ q, q < p → I0 109 q = nI (g q).1 ∧ (g q).1 ≤ 1000000)
    (hK : ∀ I', MP1 p I0 I' → I' 108 p = I0 108 p → I' 109 p = nI r.1 → I' 110 p = bb r → aw_z X (d + 1) y_M_layParts Q 7 [some (.ref 69), some (.int (nI n)), some (.int (nI p + 1)), none, none, none, none] [] (aw_s I' L D)) :
    ∀ (m j : Nat) (a : Nat × Nat) (I : Nat → Nat → Int32), j + m = n → MP1 p I0 I → I 108 p = I0 108 p → I 109 p = nI a.1 → I 110 p = bb a → a.1 ≤ 1000000 → lvL g p m j a = r →
      aw_z X (d + 1) y_M_layParts Q 168 [some (.ref 69), some (.int (nI n)), some (.int (nI p)), none, none, some (.int (nI j)), none] [] (aw_s I L D) := by
  intro m
  induction m with
  | zero =>
    intro j a I e f1 e8 h9 h10 ha hr
    have ej : j = n := by omega
    subst ej
    have le : nI j ≤ nI j := by rw [nI_leI (by omega) (by omega)]; exact Nat.le_refl _
    have hr : a = r := hr
    subst hr
    exact b_M_layParts_168 (fun _ => hK I f1 e8 h9 h10) (fun q => absurd le q) (fun q => absurd le q) (fun q => absurd le q) (fun q => absurd le q) (fun q => absurd le q) (fun q => absurd le q) (fun q => absurd le q) (fun q => absurd le q) (fun q => absurd le q) (fun q => absurd le q) (fun q => absurd le q) (fun q => absurd le q) (fun q => absurd le q) (fun q => absurd le q)
  | succ m ih =>
    intro j a I e f1 e8 h9 h10 ha hr
    have nle : ¬ nI n ≤ nI j := by rw [nI_leI (by omega) (by omega)]; omega
    have h3 : 3 ^ j ≤ 3 ^ 8 := Nat.pow_le_pow_right (by decide) (by omega)
    have p0 := p3 j
    have c2 : (nI (dg p j) = 2) = (dg p j = 2) := eqI (k := 2) (by have := dg_lt p j; omega) (by decide)
    have z3 : ¬ nI (3 ^ j) = 0 := by rw [show (0 : Int32) = nI 0 from rfl, nI_eq (by omega) (by decide)]; omega
    have pw : I 111 j = nI (3 ^ j) := by rw [f1 111 j (by omega)]; exact hpw j (by omega)
    have B0 := @b_M_layParts_168 X d Q I L D (nI n) (nI p) (nI j)
    rw [nI_clamp (show j < 2 ^ 31 by omega), nI_clamp (show p < 2 ^ 31 by omega), pw, dg_I hp (by omega), c2, e8, h108] at B0
    rw [lvL] at hr
    have v6 := aw_in_nI hp (show 6561 < 2 ^ 31 by decide)
    have v9 := aw_in_nI (show j < 9 by omega) (show 9 < 2 ^ 31 by decide)
    by_cases d2 : dg p j = 2
    · rw [if_pos d2] at hr
      have l0 := h0_lt d2
      have l1 := h1_lt d2
      obtain ⟨y0, w0⟩ := hf _ l0
      obtain ⟨y1, w1⟩ := hf _ l1
      have e0 : I 109 (h0 p j) = nI (g (h0 p j)).1 := by rw [f1 109 (h0 p j) (by omega)]; exact y0
      have e1 : I 109 (h1 p j) = nI (g (h1 p j)).1 := by rw [f1 109 (h1 p j) (by omega)]; exact y1
      have clt : (nI ((g (h0 p j)).1 + (g (h1 p j)).1) < nI a.1) = ((g (h0 p j)).1 + (g (h1 p j)).1 < a.1) := nI_lt' (by omega) (by omega)
      rw [h0_I2 d2, h1_I2 d2, nI_clamp (show h0 p j < 2 ^ 31 by omega), nI_clamp (show h1 p j < 2 ^ 31 by omega), e0, e1, h9, nI_add, clt] at B0
      refine B0 (fun q => absurd q nle) (fun _ => v6) (fun _ q => absurd rfl q) (fun _ _ => v9) (fun _ _ => z3) (fun _ _ _ => v9) (fun _ _ _ => aw_in_nI (by omega) (by decide)) (fun _ _ _ => v9) (fun _ _ _ => aw_in_nI (by omega) (by decide)) (fun _ _ _ => v6) (fun _ _ _ _ => v6) (fun _ _ _ _ => v6) (fun _ _ _ q => ?_) (fun _ _ _ q => ?_) (fun _ _ q => absurd d2 q)
      · rw [if_pos q] at hr
        rw [nI_1]
        refine ih (j + 1) _ _ (by omega) (f1.tr (fun o k h => ?_)) (by rw [au_o (by decide), au_o (by decide)]; exact e8) (by rw [au_o (by decide), au_s]) ?_ (by show (g (h0 p j)).1 + (g (h1 p j)).1 ≤ 1000000; omega) hr
        · rw [au_ok (by omega), au_ok (by omega)]
        · rw [au_s]; unfold bb; rw [if_neg (show ¬ j = 99 by omega)]
      · rw [if_neg q] at hr
        rw [nI_1]
        exact ih (j + 1) a I (by omega) f1 e8 h9 h10 ha hr
    · rw [if_neg d2] at hr
      exact B0 (fun q => absurd q nle) (fun _ => v6) (fun _ q => absurd rfl q) (fun _ _ => v9) (fun _ _ => z3) (fun _ _ q => absurd q d2) (fun _ _ q => absurd q d2) (fun _ _ q => absurd q d2) (fun _ _ q => absurd q d2) (fun _ _ q => absurd q d2) (fun _ _ q => absurd q d2) (fun _ _ q => absurd q d2) (fun _ _ q => absurd q d2) (fun _ _ q => absurd q d2) (fun _ _ _ => by rw [nI_1]; exact ih (j + 1) a I (by omega) f1 e8 h9 h10 ha hr)
theorem l_M_part {n p : Nat} {N : Nat → Nat} {g : Nat → Nat × Nat} (hp : p < 6561) (h8 : n ≤ 8) (hN20 : N p < 2 ^ 20) (hg0 : isLV n 1000000 N g) {I0 : Nat → Nat → Int32} (hpw : RPw I0) (h108 : I0 108 p = nI (N p)) (hf : ∀ q, q < p → I0 109 q = nI (g q).1 ∧ (g q).1 ≤ 1000000)
    (hK : ∀ I', MP1 p I0 I' → I' 108 p = nI (N p) → I' 109 p = nI (g p).1 → I' 110 p = cc N g p → aw_z X (d + 1) y_M_layParts Q 7 [some (.ref 69), some (.int (nI n)), some (.int (nI p + 1)), none, none, none, none] [] (aw_s I' L D)) :
    aw_z X (d + 1) y_M_layParts Q 136 [some (.ref 69), some (.int (nI n)), some (.int (nI p)), none, none, none, none] [] (aw_s I0 L D) := by
  have eg := hg0 p
  unfold lvG at eg
  have v6 := aw_in_nI hp (show 6561 < 2 ^ 31 by decide)
  have e0 : (nI (N p) = 0) = (N p = 0) := nI_eq' (b := 0) (by omega) (by decide)
  have B0 := @b_M_layParts_136 X d Q I0 L D (nI n) (nI p)
  rw [nI_clamp (show p < 2 ^ 31 by omega), h108, e0] at B0
  refine B0 v6 (fun q => ?_) (fun q => ?_)
  · rw [if_neg (fun x => x q)] at eg
    refine b_M_layParts_157 v6 v6 ?_
    rw [nI_clamp (show p < 2 ^ 31 by omega)]
    have k1 : MP1 p I0 (aw_u (aw_u I0 109 p 1000000) 110 p (-1)) := fun o k h => by rw [au_ok (by omega), au_ok (by omega)]
    have z8 : aw_u (aw_u I0 109 p 1000000) 110 p (-1) 108 p = 0 := by rw [au_o (by decide), au_o (by decide), h108, q]; rfl
    refine l_M_lv (g := g) (r := g p) hp h8 (I0 := aw_u (aw_u I0 109 p 1000000) 110 p (-1)) (fun j hj => by rw [k1 111 j (by omega)]; exact hpw j hj) z8 (fun q hq => by rw [k1 109 q (by omega)]; exact hf q hq) (fun I' f1 a8 a9 a10 => hK I' (k1.tr f1) (by rw [a8, z8, q]; rfl) a9 (by unfold cc; rw [if_neg (fun x => x q)]; exact a10)) n 0 (1000000, 99) _ (by omega) (fun _ _ _ => rfl) rfl (by rw [au_o (by decide), au_s]; rfl) (by rw [au_s]; rfl) (Nat.le_refl _) eg.symm
  · have q : N p ≠ 0 := q
    rw [if_pos q] at eg
    refine b_M_layParts_157 v6 v6 ?_
    rw [nI_clamp (show p < 2 ^ 31 by omega)]
    have k1 : MP1 p I0 (aw_u (aw_u I0 109 p 1) 110 p (-1)) := fun o k h => by rw [au_ok (by omega), au_ok (by omega)]
    have a8 : aw_u (aw_u I0 109 p 1) 110 p (-1) 108 p = nI (N p) := by rw [au_o (by decide), au_o (by decide), h108]
    have fin := hK _ k1 a8 (by rw [au_o (by decide), au_s, eg]; rfl) (by rw [au_s]; unfold cc; rw [if_pos q])
    have B1 := @b_M_layParts_168 X d Q (aw_u (aw_u I0 109 p 1) 110 p (-1)) L D (nI n) (nI p) 0
    rw [nI_clamp (show p < 2 ^ 31 by omega), a8, e0] at B1
    exact B1 (fun _ => fin) (fun _ => v6) (fun _ _ => fin) (fun _ x => absurd x q) (fun _ x => absurd x q) (fun _ x => absurd x q) (fun _ x => absurd x q) (fun _ x => absurd x q) (fun _ x => absurd x q) (fun _ x => absurd x q) (fun _ x => absurd x q) (fun _ x => absurd x q) (fun _ x => absurd x q) (fun _ x => absurd x q) (fun _ x => absurd x q)
theorem l_M_parts {n : Nat} {N : Nat → Nat} {g : Nat → Nat × Nat} (hn : n = B * (T + O)) (h8 : n ≤ 8) (hN : isNN n (fR S B T) N) (hg0 : isLV n 1000000 N g) (hgl : ∀ p, (g p).1 ≤ 1000000) {I0 : Nat → Nat → Int32} {L0 : Nat → Nat → Int64}
    (hQ : ∀ I' L', MFq I0 I' L0 L' → (∀ p, p < 3 ^ n → I' 108 p = nI (N p) ∧ I' 109 p = nI (g p).1 ∧ I' 110 p = cc N g p) → Q none (aw_s I' L' D)) :
    ∀ (m k : Nat) (I : Nat → Nat → Int32) (L : Nat → Nat → Int64), k + m = 3 ^ n → MIc S B T O I → RPw I → MFq I0 I L0 L → (∀ p, p < k → I 108 p = nI (N p) ∧ I 109 p = nI (g p).1 ∧ I 110 p = cc N g p) →
      aw_z X (d + 5) y_M_layParts Q 7 [some (.ref 69), some (.int (nI n)), some (.int (nI k)), none, none, none, none] [] (aw_s I L D) := by
  have h3 : 3 ^ n ≤ 3 ^ 8 := Nat.pow_le_pow_right (by decide) h8
  have h38 : 3 ^ 8 = 6561 := by decide
  intro m
  induction m with
  | zero =>
    intro k I L e h hpw fr hk
    have ek : k = 3 ^ n := by omega
    subst ek
    have le : nI (3 ^ n) ≤ nI (3 ^ n) := by rw [nI_leI (by omega) (by omega)]; exact Nat.le_refl _
    have B0 := @b_M_layParts_7 X (d + 4) Q I L D (nI n) (nI (3 ^ n))
    rw [nI_clamp (show n < 2 ^ 31 by omega), hpw n (by omega)] at B0
    exact B0 (aw_in_nI (by omega) (by decide)) (fun _ => hQ I L fr hk) (fun q => absurd le q)
  | succ m ih =>
    intro k I L e h hpw fr hk
    have nle : ¬ nI (3 ^ n) ≤ nI k := by rw [nI_leI (by omega) (by omega)]; omega
    have hN20 := nn_lt (fR_lt (B := B) (T := T) h.1) hN
    have hk6 : k < 6561 := by omega
    have B0 := @b_M_layParts_7 X (d + 4) Q I L D (nI n) (nI k)
    rw [nI_clamp (show n < 2 ^ 31 by omega), hpw n (by omega)] at B0
    have eN := hN k
    unfold nnG at eN
    -- when its tests are known
    have fin : ∀ (I1 : Nat → Nat → Int32) (L1 : Nat → Nat → Int64), MFr I I1 L L1 → aw_z X (d + 5) y_M_layParts Q 136 [some (.ref 69), some (.int (nI n)), some (.int (nI k)), none, none, none, none] [] (aw_s (aw_u I1 108 k (nI (N k))) L1 D) := fun I1 L1 m1 => by
      have q1 : MFq I (aw_u I1 108 k (nI (N k))) L L1 := m1.q.tr (MFq.u (Or.inl rfl))
      have os : ∀ o, o = 108 ∨ o = 109 ∨ o = 110 → I1 o = I o := fun o ho => m1.1 o (by omega) (by omega) (by omega) (by omega) (by omega) (by omega)
      have old : ∀ q, q < k → aw_u I1 108 k (nI (N k)) 108 q = nI (N q) ∧ aw_u I1 108 k (nI (N k)) 109 q = nI (g q).1 ∧ aw_u I1 108 k (nI (N k)) 110 q = cc N g q := fun q hq => by
        rw [au_k (show q ≠ k by omega), au_o (by decide), au_o (by decide), os 108 (by omega), os 109 (by omega), os 110 (by omega)]; exact hk q hq
      refine l_M_part (d := d + 4) (g := g) hk6 h8 (hN20 k) hg0 (hpw.q q1) (au_s _ _ _ _) (fun q hq => ⟨(old q hq).2.1, hgl q⟩) (fun I2 f2 a8 a9 a10 => ?_)
      rw [nI_1]
      have q2 : MFq I I2 L L1 := q1.tr f2.q
      refine ih (k + 1) I2 L1 (by omega) (h.q q2) (hpw.q q2) (fr.tr q2) (fun q hq => ?_)
      by_cases gq : q = k
      · subst gq; exact ⟨a8, a9, a10⟩
      · rw [f2 108 q (by omega), f2 109 q (by omega), f2 110 q (by omega)]; exact old q (by omega)
    refine B0 (aw_in_nI (by omega) (by decide)) (fun q => absurd q nle) (fun _ => ?_)
    refine l_M_dig (d := d + 4) (n := n) (p := k) (x := N k) (N := N) hk6 h8 hpw (fun q hq => (hk q hq).1) (fun gf => by rw [if_pos gf] at eN; exact eN.symm) (fun gf => fin I L MFr.rf) (fun gf => c_M_failing (d := d) h (fun I1 m1 => ?_)) n 0 (by omega)
    show aw_z X (d + 4 + 1) y_M_layParts Q 95 [some (.ref 69), some (.int (nI n)), some (.int (nI k)), none, none, none, none] [.int (nI (fR S B T (rowF k n))), .int (nI k), .ref 108] (aw_s I1 L D)
    refine b_M_layParts_95 (aw_in_nI hk6 (by decide)) ?_
    rw [nI_clamp (show k < 2 ^ 31 by omega)]
    rw [if_neg (by omega)] at eN
    have g2 := fin I1 L m1
    rw [eN] at g2
    exact g2
theorem c_M_partBits {n : Nat} (hn : n = B * (T + O)) (sz : SZ I B T O) (hQ : Q (some (.int (nI n))) (aw_s I L D)) : aw_m X d y_M_partBits [.ref 69] (aw_s I L D) Q :=
  aw_go rfl rfl (b_M_partBits_0 (by rw [sz.1, sz.2.1, sz.2.2, nI_add, pk_mul, ← hn]; exact hQ))
theorem c_M_layParts {n : Nat} {N : Nat → Nat} {g : Nat → Nat × Nat} (hn : n = B * (T + O)) (h8 : n ≤ 8) (hN : isNN n (fR S B T) N) (hg0 : isLV n 1000000 N g) (hgl : ∀ p, (g p).1 ≤ 1000000) (h : MIc S B T O I) (hpw : RPw I)
    (hQ : ∀ I' L', MFq I I' L L' → (∀ p, p < 3 ^ n → I' 108 p = nI (N p) ∧ I' 109 p = nI (g p).1 ∧ I' 110 p = cc N g p) → Q none (aw_s I' L' D)) : aw_m X (d + 5) y_M_layParts [.ref 69] (aw_s I L D) Q :=
  aw_go rfl rfl (b_M_layParts_0 (c_M_partBits hn h.2.2.2 (b_M_layParts_4 (l_M_parts (d := d) (I0 := I) (L0 := L) hn h8 hN hg0 hgl hQ (3 ^ n) 0 I L (by omega) h hpw MFq.rf (fun p hp => absurd hp (Nat.not_lt_zero p))))))
end MPRT
