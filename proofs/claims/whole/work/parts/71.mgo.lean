/-! PART 71: the reference's next token -/
section MGO
variable {X : aw_X} {d : Nat} {Q : Option Value → aw_H → Prop} {I : Nat → Nat → Int32} {L : Nat → Nat → Int64} {D : Nat → Nat}
theorem pb_same (x : Bool) (P : Prop) [Decidable P] : (p_b x = p_b (decide P)) ↔ (x = true ↔ P) := by
  by_cases y : P <;> cases x <;> simp [p_b, y]
/-- what going on to the next token leaves -/
def MGf (I0 I : Nat → Nat → Int32) (L0 L : Nat → Nat → Int64) : Prop := (∀ o, o ≠ 69 → I o = I0 o) ∧ (∀ k, k ≠ 4 → k ≠ 5 → k ≠ 6 → k ≠ 7 → k ≠ 8 → I 69 k = I0 69 k) ∧ ∀ o k, ¬ (o = 69 ∧ k = 11) → L o k = L0 o k
theorem MGf.rf : MGf I I L L := ⟨fun _ _ => rfl, fun _ _ _ _ _ _ => rfl, fun _ _ _ => rfl⟩
theorem MGf.tr {I0 I1 I2 : Nat → Nat → Int32} {L0 L1 L2 : Nat → Nat → Int64} (a : MGf I0 I1 L0 L1) (b : MGf I1 I2 L1 L2) : MGf I0 I2 L0 L2 :=
  ⟨fun o h => (b.1 o h).trans (a.1 o h), fun k h1 h2 h3 h4 h5 => (b.2.1 k h1 h2 h3 h4 h5).trans (a.2.1 k h1 h2 h3 h4 h5), fun o k h => (b.2.2 o k h).trans (a.2.2 o k h)⟩
theorem MGf.u {I0 : Nat → Nat → Int32} {L0 : Nat → Nat → Int64} (h : MGf I0 I L0 L) {k : Nat} {v : Int32} (hk : k = 4 ∨ k = 5 ∨ k = 6 ∨ k = 7 ∨ k = 8) : MGf I0 (aw_u I 69 k v) L0 L :=
  ⟨fun o ho => by rw [au_o ho]; exact h.1 o ho, fun j h1 h2 h3 h4 h5 => by rw [au_k (by omega)]; exact h.2.1 j h1 h2 h3 h4 h5, h.2.2⟩
theorem MGf.l {I0 : Nat → Nat → Int32} {L0 : Nat → Nat → Int64} (h : MGf I0 I L0 L) {v : Int64} : MGf I0 I L0 (aw_u L 69 11 v) :=
  ⟨h.1, h.2.1, fun o k hk => by
    by_cases ho : o = 69
    · subst ho; rw [au_k (fun x => hk ⟨rfl, x⟩)]; exact h.2.2 _ k hk
    · rw [au_o ho]; exact h.2.2 o k hk⟩
theorem MTp.f {bt : Nat → Int32} {z : Nat} {I0 : Nat → Nat → Int32} {L0 : Nat → Nat → Int64} (h : MTp I0 bt z) (f : MGf I0 I L0 L) : MTp I bt z := ⟨by rw [f.2.1 3 (by decide) (by decide) (by decide) (by decide) (by decide)]; exact h.1, h.2.1, fun j hj => by rw [f.1 70 (by decide)]; exact h.2.2 j hj⟩
/-- the signs of a word, one by one; g: all are like the first one -/
theorem l_M_word {bt : Nat → Int32} {z q e : Nat} {K V : Int32} {I0 : Nat → Nat → Int32} {L0 : Nat → Nat → Int64} (hT0 : MTp I0 bt z) (hqe : q < e) (hez : e ≤ z) (how : ∀ j, q ≤ j → j < e → isOw (bt j)) (hst : e < z → ¬ isOw (bt e)) (hW : tkW bt q e K V)
    (hQ : ∀ I' L', MGf I0 I' L0 L' → I' 69 4 = nI e → I' 69 5 = nI q → mT K V (I' 69 6) (I' 69 7) (I' 69 8) (L' 69 11) → Q none (aw_s I' L' D)) :
    ∀ (m j : Nat) (g : Bool) (I : Nat → Nat → Int32) (L : Nat → Nat → Int64), j + m = e → q ≤ j → MGf I0 I L0 L → I 69 4 = nI j → I 69 5 = nI q → I 69 7 = numV bt q (min (j - q) 3) → L 69 11 = wcI bt q (min (j - q) 5) → (g = true ↔ ∀ i, q ≤ i → i < j → (isLt (bt i) ↔ isLt (bt q))) →
      aw_z X (d + 1) y_M_go Q 183 [some (.ref 69), none, some (.int (p_b (decide (isLt (bt q))))), some (.int (p_b g)), none] [] (aw_s I L D) := by
  have hz := hT0.2.1
  intro m
  induction m with
  | zero =>
    intro j g I L ej hqj f h4 h5 h7 h11 hg
    have ee : j = e := by omega
    subst ee
    have hT := hT0.f f
    obtain ⟨W1, W2, W3⟩ := mT_word (sg := I 69 8) (gd := g = true) (lt := isLt (bt q)) hqe how hW Iff.rfl hg
    have eS : I 69 4 - I 69 5 = nI (j - q) := by rw [h4, h5, pk_sub (by omega)]
    have fin : ∀ kd : Int32, mT K V kd (numV bt q (min (j - q) 3)) (I 69 8) (wcI bt q (min (j - q) 5)) → Q none (aw_s (aw_u I 69 6 kd) L D) := fun kd hm =>
      hQ _ L (f.u (by decide)) (by rw [au_k (by decide)]; exact h4) (by rw [au_k (by decide)]; exact h5) (by rw [au_s, au_k (by decide), au_k (by decide), h7, h11]; exact hm)
    have k208 : aw_z X (d + 1) y_M_go Q 208 [some (.ref 69), none, some (.int (p_b (decide (isLt (bt q))))), some (.int (p_b g)), none] [.int 0] (aw_s I L D) := by
      have B0 := @b_M_go_208 X d Q I L D (p_b (decide (isLt (bt q)))) (p_b g) 0
      rw [eS] at B0
      have c3 : (nI (j - q) ≤ (3 : Int32)) = (j - q ≤ 3) := nI_le' (b := 3) (by omega) (by decide)
      have c5 : (nI (j - q) ≤ (5 : Int32)) = (j - q ≤ 5) := nI_le' (b := 5) (by omega) (by decide)
      refine B0 (fun _ q2 => fin 1 (W3 (Or.inl (fun h => ?_)))) (fun _ q2 q3 => ?_) (fun _ q2 q3 => ?_) (fun q => absurd rfl q)
      · rw [h] at q2; exact absurd q2 (by decide)
      · have hg1 : g = true := by
          cases g with
          | true => rfl
          | false => exact absurd rfl q2
        have hl : ¬ isLt (bt q) := fun h => by rw [decide_eq_true h] at q3; exact absurd q3 (by decide)
        have B1 := @b_M_go_340 X d Q I L D (p_b (decide (isLt (bt q)))) 3 (nI (j - q))
        rw [c3] at B1
        refine B1 (fun g3 _ => fin 3 (W2 hg1 hl g3)) (fun _ n => absurd q3 n) (fun g3 => fin 1 (W3 (Or.inr (Or.inr ⟨hl, by omega⟩))))
      · have hg1 : g = true := by
          cases g with
          | true => rfl
          | false => exact absurd rfl q2
        have hl : isLt (bt q) := Classical.byContradiction fun h => by rw [decide_eq_false h] at q3; exact q3 rfl
        have B1 := @b_M_go_340 X d Q I L D (p_b (decide (isLt (bt q)))) 5 (nI (j - q))
        rw [c5] at B1
        exact B1 (fun _ n => absurd n q3) (fun g3 _ => fin 2 (W1 hg1 hl g3)) (fun g3 => fin 1 (W3 (Or.inr (Or.inl ⟨hl, by omega⟩))))
    refine b_M_go_183 ?_
    rw [h4]
    refine c_M_byteAt hT hez (fun x x1 x2 => b_M_go_191 ?_)
    have nx : ¬ isLt x ∧ ¬ isDg x := by
      rcases Nat.lt_or_ge j z with g | g
      · rw [x1 g]
        exact ⟨fun h => hst g (Or.inl h), fun h => hst g (Or.inr h)⟩
      · rw [x2 (by omega)]
        exact ⟨by decide, by decide⟩
    refine c_M_isLetter (fun h => absurd h nx.1) (fun _ => ?_)
    have B0 := @b_M_go_194 X d Q I L D (p_b (decide (isLt (bt q)))) (p_b g) 0
    rw [h4] at B0
    refine B0 (fun q => absurd rfl q) (fun _ => c_M_byteAt hT hez (fun x x1 x2 => b_M_go_205 ?_))
    have nx : ¬ isDg x := by
      rcases Nat.lt_or_ge j z with g | g
      · rw [x1 g]
        exact fun h => hst g (Or.inr h)
      · rw [x2 (by omega)]
        decide
    exact c_M_isDigit (fun h => absurd h nx) (fun _ => k208)
  | succ m ih =>
    intro j g I L ej hqj f h4 h5 h7 h11 hg
    have hje : j < e := by omega
    have hT := hT0.f f
    have hb : I 70 j = bt j := hT.2.2 j (by omega)
    have eS : I 69 4 - I 69 5 = nI (j - q) := by rw [h4, h5, pk_sub (by omega)]
    have qj : q + (j - q) = j := by omega
    have e1 : j + 1 - q = (j - q) + 1 := by omega
    have c3 : ((3 : Int32) ≤ nI (j - q)) = (3 ≤ j - q) := nI_le' (a := 3) (by decide) (by omega)
    have c5 : ((5 : Int32) ≤ nI (j - q)) = (5 ≤ j - q) := nI_le' (a := 5) (by decide) (by omega)
    have k304 : ∀ (g2 : Bool) (I1 : Nat → Nat → Int32) (L1 : Nat → Nat → Int64), MGf I0 I1 L0 L1 → I1 69 4 = nI j → I1 69 5 = nI q → I1 69 7 = numV bt q (min (j + 1 - q) 3) → L1 69 11 = wcI bt q (min (j + 1 - q) 5) → (g2 = true ↔ ∀ i, q ≤ i → i < j + 1 → (isLt (bt i) ↔ isLt (bt q))) → aw_z X (d + 1) y_M_go Q 304 [some (.ref 69), none, some (.int (p_b (decide (isLt (bt q))))), some (.int (p_b g2)), none] [] (aw_s I1 L1 D) := by
      intro g2 I1 L1 a1 a2 a3 a4 a5 a6
      refine b_M_go_304 ?_
      rw [a2, nI_1]
      exact ih (j + 1) g2 _ L1 (by omega) (by omega) (a1.u (by decide)) (au_s _ _ _ _) (by rw [au_k (by decide)]; exact a3) (by rw [au_k (by decide)]; exact a4) a5 a6
    have k240 : ∀ g2 : Bool, (g2 = true ↔ ∀ i, q ≤ i → i < j + 1 → (isLt (bt i) ↔ isLt (bt q))) → aw_z X (d + 1) y_M_go Q 240 [some (.ref 69), none, some (.int (p_b (decide (isLt (bt q))))), none, some (.int (bt j))] [.int (p_b g2)] (aw_s I L D) := by
      intro g2 hg2
      have k274 : ∀ L1, MGf I0 I L0 L1 → L1 69 11 = wcI bt q (min (j + 1 - q) 5) → aw_z X (d + 1) y_M_go Q 274 [some (.ref 69), none, some (.int (p_b (decide (isLt (bt q))))), some (.int (p_b g2)), some (.int (bt j))] [] (aw_s I L1 D) := by
        intro L1 a1 a2
        have B1 := @b_M_go_274 X d Q I L1 D (p_b (decide (isLt (bt q)))) (p_b g2) (bt j)
        rw [eS, c3, h7] at B1
        refine B1 (fun g3 => k304 g2 I L1 a1 h4 h5 ?_ a2 hg2) (fun g3 => k304 g2 _ L1 (a1.u (by decide)) (by rw [au_k (by decide)]; exact h4) (by rw [au_k (by decide)]; exact h5) ?_ a2 hg2)
        · rw [h7, show min (j - q) 3 = min (j + 1 - q) 3 by omega]
        · rw [au_s, show min (j - q) 3 = j - q by omega, show min (j + 1 - q) 3 = (j - q) + 1 by omega]
          simp only [numV]
          rw [qj]
      have B0 := @b_M_go_240 X d Q I L D (p_b (decide (isLt (bt q)))) (bt j) (p_b g2)
      rw [eS, c5, h11] at B0
      refine B0 (fun g5 => k274 L f ?_) (fun g5 => k274 _ f.l ?_)
      · rw [h11, show min (j - q) 5 = min (j + 1 - q) 5 by omega]
      · rw [au_s, show min (j - q) 5 = j - q by omega, show min (j + 1 - q) 5 = (j - q) + 1 by omega]
        simp only [wcI]
        rw [qj]
    have k211 : aw_z X (d + 1) y_M_go Q 211 [some (.ref 69), none, some (.int (p_b (decide (isLt (bt q))))), some (.int (p_b g)), none] [] (aw_s I L D) := by
      have B0 := @b_M_go_211 X d Q I L D (p_b (decide (isLt (bt q)))) (p_b g)
      rw [h4, nI_clamp (show j < 2 ^ 31 by omega), hb] at B0
      have k231 : ∀ (x : Bool), (x = true ↔ isLt (bt j)) → g = true → aw_z X (d + 1) y_M_go Q 231 [some (.ref 69), none, some (.int (p_b (decide (isLt (bt q))))), none, some (.int (bt j))] [.int (p_b x)] (aw_s I L D) := by
        intro x hx hg1
        have hsame : (p_b x = p_b (decide (isLt (bt q)))) ↔ (isLt (bt j) ↔ isLt (bt q)) := by
          rw [← hx]
          exact pb_same x _
        refine b_M_go_231 (fun n => b_M_go_239 (k240 false ⟨fun h => (by cases h), fun h => absurd (hsame.mpr (h j hqj (Nat.lt_succ_self j))) n⟩)) (fun s => k240 true ⟨fun _ i a b => ?_, fun _ => rfl⟩)
        by_cases hij : i = j
        · subst hij; exact hsame.mp s
        · exact hg.mp hg1 i a (by omega)
      refine B0 (aw_in_nI (by omega) (by decide)) (fun q => ?_) (fun q => ?_)
      · have hg0 : g = false := by
          cases g with
          | true => exact absurd q (by decide)
          | false => rfl
        refine b_M_go_239 (k240 false ⟨fun h => (by cases h), fun h => ?_⟩)
        have := hg.mpr (fun i a b => h i a (by omega))
        rw [hg0] at this
        exact this
      · have hg1 : g = true := by
          cases g with
          | true => rfl
          | false => exact absurd rfl q
        exact c_M_isLetter (fun h => k231 true ⟨fun _ => h, fun _ => rfl⟩ hg1) (fun h => k231 false ⟨fun x => (by cases x), fun x => absurd x h⟩ hg1)
    refine b_M_go_183 ?_
    rw [h4]
    refine c_M_byteAt hT (by omega) (fun x x1 x2 => b_M_go_191 ?_)
    rw [x1 (by omega)]
    refine c_M_isLetter (fun _ => b_M_go_194 (fun _ => k211) (fun q => absurd q (by decide))) (fun hnl => ?_)
    have B0 := @b_M_go_194 X d Q I L D (p_b (decide (isLt (bt q)))) (p_b g) 0
    rw [h4] at B0
    refine B0 (fun q => absurd rfl q) (fun _ => c_M_byteAt hT (by omega) (fun x x1 x2 => b_M_go_205 ?_))
    rw [x1 (by omega)]
    exact c_M_isDigit (fun _ => b_M_go_208 (fun q => absurd q (by decide)) (fun q => absurd q (by decide)) (fun q => absurd q (by decide)) (fun _ => k211)) (fun hnd => absurd (how j hqj hje) (fun h => h.elim hnl hnd))
/-- the next token -/
theorem c_M_go {bt : Nat → Int32} {z p : Nat} {K V : Int32} {pl nx : Nat} {I0 : Nat → Nat → Int32} {L0 : Nat → Nat → Int64} (hT0 : MTp I0 bt z) (h : isTok bt z p K V pl nx) (h4 : I0 69 4 = nI p)
    (hQ : ∀ I' L', MGf I0 I' L0 L' → I' 69 4 = nI nx → I' 69 5 = nI pl → mT K V (I' 69 6) (I' 69 7) (I' 69 8) (L' 69 11) → Q none (aw_s I' L' D)) : aw_m X (d + 1) y_M_go [.ref 69] (aw_s I0 L0 D) Q := by
  have hz := hT0.2.1
  obtain ⟨q, h1, h2, h3, h4b, h⟩ := h
  have k52 : ∀ I, MGf I0 I L0 L0 → I 69 4 = nI q → aw_z X (d + 1) y_M_go Q 52 [some (.ref 69), none, none, none, none] [] (aw_s I L0 D) := by
    intro I f e4
    have hT := hT0.f f
    have B0 := @b_M_go_52 X d Q I L0 D
    have c1 : (nI z ≤ (500 : Int32)) = (z ≤ 500) := nI_le' (b := 500) (by omega) (by decide)
    have c2 : (nI q < (500 : Int32)) = (q < 500) := nI_lt' (b := 500) (by omega) (by decide)
    rw [hT.1, e4, c1, c2] at B0
    have k93 : (q < 500 ∨ z ≤ 500) → aw_z X (d + 1) y_M_go Q 93 [some (.ref 69), none, none, none, none] [] (aw_s (aw_u I 69 5 (nI q)) L0 D) := by
      intro hlt
      generalize eI : aw_u I 69 5 (nI q) = I1
      have f1 : MGf I0 I1 L0 L0 := by rw [← eI]; exact f.u (by decide)
      have g4 : I1 69 4 = nI q := by rw [← eI, au_k (by decide)]; exact e4
      have g5 : I1 69 5 = nI q := by rw [← eI, au_s]
      have hT1 := hT0.f f1
      have B1 := @b_M_go_93 X d Q I1 L0 D
      rw [hT1.1, g4, nI_ltI (by omega) (by omega), nI_clamp (show q < 2 ^ 31 by omega)] at B1
      refine B1 (fun _ => aw_in_nI (by omega) (by decide)) (fun hq => ?_) (fun hq => ?_)
      · rw [hT1.2.2 q hq]
        rcases h with ⟨a1, a2, -⟩ | ⟨-, a2, -⟩ | ⟨-, -, hno, rfl, rfl, hK⟩ | ⟨-, -, hyo, rfl, b2, b3, b4, b5, b6⟩
        · omega
        · omega
        · refine c_M_isLetter (fun g => absurd (Or.inl g) hno) (fun _ => b_M_go_124 (fun q => absurd rfl q) (fun _ => c_M_isDigit (fun g => absurd (Or.inr g) hno) (fun _ => b_M_go_131 (fun q => absurd rfl q) (fun _ => c_M_isMark (fun g => ?_) (fun g => ?_)))))
          · rw [if_pos g] at hK
            have B2 := @b_M_go_139 X d Q I1 L0 D (bt pl) 1
            rw [g4, nI_1] at B2
            refine B2 (fun q => absurd q (by decide)) (fun _ => hQ _ L0 (((f1.u (by decide)).u (by decide)).u (by decide)) (au_s _ _ _ _) ?_ ?_)
            · rw [au_k (by decide), au_k (by decide), au_k (by decide)]; exact g5
            · refine Or.inr (Or.inr (Or.inr (Or.inr (Or.inr (Or.inr ⟨by rw [hK]; exact g, ?_, ?_⟩)))))
              · rw [au_k (by decide), au_k (by decide), au_s]
              · rw [au_k (by decide), au_s, hK]
          · rw [if_neg g] at hK
            have B2 := @b_M_go_139 X d Q I1 L0 D (bt pl) 0
            rw [g4, nI_1] at B2
            refine B2 (fun _ => hQ _ L0 (((f1.u (by decide)).u (by decide)).u (by decide)) (au_s _ _ _ _) ?_ ?_) (fun q => absurd rfl q)
            · rw [au_k (by decide), au_k (by decide), au_k (by decide)]; exact g5
            · refine Or.inl ⟨hK, Or.inl ?_⟩
              rw [au_k (by decide), au_k (by decide), au_s]
        · have k166 : aw_z X (d + 1) y_M_go Q 166 [some (.ref 69), some (.int (bt pl)), none, none, none] [] (aw_s I1 L0 D) := by
            have k170 : ∀ x : Int32, x = p_b (decide (isLt (bt pl))) → aw_z X (d + 1) y_M_go Q 170 [some (.ref 69), none, none, none, none] [.int x] (aw_s I1 L0 D) := by
              intro x hx
              rw [hx]
              refine b_M_go_170 (l_M_word hT0 b2 b3 b4 b5 b6 hQ (nx - pl) pl true _ _ (by omega) (Nat.le_refl _) ((f1.u (by decide)).l) (by rw [au_k (by decide)]; exact g4) (by rw [au_k (by decide)]; exact g5) (by rw [au_s, Nat.sub_self]; rfl) (by rw [au_s, Nat.sub_self]; rfl) ⟨fun _ i a b => absurd b (by omega), fun _ => rfl⟩)
            exact b_M_go_166 (c_M_isLetter (fun g => k170 1 (by rw [decide_eq_true g]; rfl)) (fun g => k170 0 (by rw [decide_eq_false g]; rfl)))
          exact c_M_isLetter (fun _ => b_M_go_124 (fun _ => k166) (fun q => absurd q (by decide))) (fun gl => b_M_go_124 (fun q => absurd rfl q) (fun _ => c_M_isDigit (fun _ => b_M_go_131 (fun _ => k166) (fun q => absurd q (by decide))) (fun gd => absurd hyo (fun h => h.elim gl gd))))
      · rcases h with ⟨a1, a2, -⟩ | ⟨-, a2, rfl, rfl, rfl⟩ | ⟨-, a2, -⟩ | ⟨-, a2, -⟩
        · omega
        · refine hQ _ L0 (f1.u (by decide)) (by rw [au_k (by decide)]; exact g4) (by rw [au_k (by decide)]; exact g5) (Or.inr (Or.inl ⟨rfl, au_s _ _ _ _⟩))
        · omega
        · omega
    refine B0 (fun g => k93 (Or.inr g)) (fun _ g => k93 (Or.inl g)) (fun g1 g2 => ?_)
    rcases h with ⟨a1, a2, rfl, rfl, rfl⟩ | ⟨a1, -⟩ | ⟨a1, -⟩ | ⟨a1, -⟩
    · exact hQ _ L0 (((f.u (by decide)).u (by decide)).u (by decide)) (by rw [au_k (by decide), au_k (by decide), au_k (by decide)]; exact e4) (by rw [au_k (by decide), au_s]; rfl) (Or.inl ⟨rfl, Or.inl (au_s _ _ _ _)⟩)
    · omega
    · omega
    · omega
  have loop : ∀ (m k : Nat) (I : Nat → Nat → Int32), k + m = q → p ≤ k → MGf I0 I L0 L0 → I 69 4 = nI k → aw_z X (d + 1) y_M_go Q 0 [some (.ref 69), none, none, none, none] [] (aw_s I L0 D) := by
    intro m
    induction m with
    | zero =>
      intro k I e pk f e4
      have ek : k = q := by omega
      subst ek
      have hT := hT0.f f
      have B0 := @b_M_go_0 X d Q I L0 D
      rw [hT.1, e4, nI_clamp (show k < 2 ^ 31 by omega), nI_leI (by omega) (by omega)] at B0
      have nb : ¬ z ≤ k → ¬ isBl (I 70 k) := fun g => by rw [hT.2.2 k (by omega)]; exact h4b (by omega)
      exact B0 (fun _ => k52 I f e4) (fun _ => aw_in_nI (by omega) (by decide)) (fun g g2 => absurd (Or.inl g2) (nb g)) (fun _ _ => aw_in_nI (by omega) (by decide)) (fun _ _ _ => k52 I f e4) (fun g _ g2 => absurd (Or.inr g2) (nb g))
    | succ m ih =>
      intro k I e pk f e4
      have hT := hT0.f f
      have hb := h3 k pk (by omega)
      rw [← hT.2.2 k (by omega)] at hb
      have B0 := @b_M_go_0 X d Q I L0 D
      rw [hT.1, e4, nI_clamp (show k < 2 ^ 31 by omega), nI_leI (by omega) (by omega)] at B0
      have nx : aw_z X (d + 1) y_M_go Q 39 [some (.ref 69), none, none, none, none] [] (aw_s I L0 D) := by
        refine b_M_go_39 ?_
        rw [e4, nI_1]
        exact ih (k + 1) _ (by omega) (by omega) (f.u (by decide)) (au_s _ _ _ _)
      exact B0 (fun g => absurd g (by omega)) (fun _ => aw_in_nI (by omega) (by decide)) (fun _ _ => nx) (fun _ _ => aw_in_nI (by omega) (by decide)) (fun _ g1 g2 => absurd hb (fun h => h.elim g1 g2)) (fun _ _ _ => nx)
  exact aw_go rfl rfl (loop (q - p) p I0 (by omega) (Nat.le_refl _) MGf.rf h4)
end MGO
