/-! PART 61: the class's tokens: all of a text, and one step on -/
/-- what a row of tokens is -/
def TSok (cnt : Nat) (TK TV : Nat → Int32) (TP : Nat → Nat) : Prop := cnt ≤ 500 ∧ (∀ j, j < cnt → TK j ≠ 0 ∧ TK j ≠ 1) ∧ (TK cnt = 0 ∨ TK cnt = 1) ∧ (∀ j, j ≤ cnt → TP j ≤ 500) ∧ (∀ j, j ≤ cnt → TK j = 2 → ∃ v, v < 8 ∧ TV j = nI v) ∧ (∀ j, j ≤ cnt → TK j = 3 → ∃ v, v < 4 ∧ TV j = nI v) ∧ (∀ j, j ≤ cnt → TK j = 7 → TV j = 0)
def isToks (bt : Nat → Int32) (z cnt : Nat) (ps : Nat → Nat) (TK TV : Nat → Int32) (TP : Nat → Nat) : Prop :=
  ps 0 = 0 ∧ (∀ j, j ≤ cnt → isTok bt z (ps j) (TK j) (TV j) (TP j) (ps (j + 1))) ∧ (∀ j, j < cnt → TK j ≠ 0 ∧ TK j ≠ 1) ∧ (TK cnt = 0 ∨ TK cnt = 1) ∧ cnt ≤ 500
theorem sub_rng {x : Int32} {a n : Nat} (ha : a < 1000) (hn : n < 1000) (h1 : ¬ x < nI a) (h2 : ¬ nI (a + n) < x) : ∃ v, v ≤ n ∧ x - nI a = nI v := by
  have e : ∃ m : Nat, x = nI m ∧ m < 2 ^ 31 := by
    have h0 : ¬ x < 0 := fun h => h1 (Int32.lt_of_lt_of_le h (by rw [i32_0, nI_leI (by omega) (by omega)]; omega))
    refine ⟨x.toNatClampNeg, ?_, ?_⟩
    · have := Int32.not_lt.mp h0
      apply Int32.toInt_inj.mp
      show x.toInt = (Int32.ofNat x.toNatClampNeg).toInt
      have h3 : 0 ≤ x.toInt := Int32.le_iff_toInt_le.mp this
      have h4 : x.toInt < 2 ^ 31 := Int32.toInt_lt x
      have h5 : (x.toNatClampNeg : Int) = x.toInt := by rw [← Int32.toNat_toInt]; exact Int.toNat_of_nonneg h3
      rw [Int32.toInt_ofNat_of_lt (by omega)]
      exact h5.symm
    · have h4 : x.toInt < 2 ^ 31 := Int32.toInt_lt x
      have : (x.toInt).toNat < 2 ^ 31 := by omega
      rw [← Int32.toNat_toInt]; exact this
  obtain ⟨m, rfl, hm⟩ := e
  rw [nI_ltI hm (by omega)] at h1
  rw [nI_ltI (by omega) hm] at h2
  exact ⟨m - a, by omega, pk_sub (by omega)⟩
theorem mks_ne {x : Int32} (h : x ∈ mks) : x ≠ 0 ∧ x ≠ 1 ∧ x ≠ 2 ∧ x ≠ 3 ∧ x ≠ 4 ∧ x ≠ 7 := by
  simp only [mks, List.mem_cons, List.not_mem_nil, or_false] at h
  rcases h with rfl | rfl | rfl | rfl | rfl | rfl | rfl | rfl | rfl | rfl | rfl | rfl | rfl | rfl | rfl <;> decide
theorem isTok_V {bt : Nat → Int32} {z p : Nat} {K va : Int32} {pl nx : Nat} (h : isTok bt z p K va pl nx) : (K = 2 → ∃ v, v < 8 ∧ va = nI v) ∧ (K = 3 → ∃ v, v < 4 ∧ va = nI v) ∧ (K = 7 → va = 0) := by
  obtain ⟨q, h1, h2, h3, h4, h | h | h | h⟩ := h
  · obtain ⟨-, -, rfl, -⟩ := h
    exact ⟨fun h => absurd h (by decide), fun h => absurd h (by decide), fun h => absurd h (by decide)⟩
  · obtain ⟨-, -, rfl, -⟩ := h
    exact ⟨fun h => absurd h (by decide), fun h => absurd h (by decide), fun h => absurd h (by decide)⟩
  · obtain ⟨-, -, -, -, -, rfl⟩ := h
    by_cases g : bt q ∈ mks
    · rw [if_pos g]
      obtain ⟨g0, g1, g2, g3, g4, g7⟩ := mks_ne g
      exact ⟨fun h => absurd h g2, fun h => absurd h g3, fun h => absurd h g7⟩
    · rw [if_neg g]
      exact ⟨fun h => absurd h (by decide), fun h => absurd h (by decide), fun h => absurd h (by decide)⟩
  · obtain ⟨-, -, -, -, -, -, -, -, h⟩ := h
    rcases h with ⟨-, ⟨-, rfl, -⟩ | ⟨-, rfl⟩⟩ | ⟨-, -, rfl⟩ | ⟨-, ⟨-, hl⟩ | ⟨-, rfl⟩ | ⟨-, -, ⟨w, hw, -, rfl, rfl⟩ | ⟨rfl, -⟩⟩⟩
    · exact ⟨fun h => absurd h (by decide), fun h => absurd h (by decide), fun h => absurd h (by decide)⟩
    · exact ⟨fun h => absurd h (by decide), fun h => absurd h (by decide), fun h => absurd h (by decide)⟩
    · exact ⟨fun h => absurd h (by decide), fun h => absurd h (by decide), fun h => absurd h (by decide)⟩
    · rcases hl with ⟨a1, a2, rfl, rfl⟩ | ⟨a1, a2, rfl, rfl⟩ | ⟨-, -, rfl⟩
      · refine ⟨fun _ => ?_, fun h => absurd h (by decide), fun h => absurd h (by decide)⟩
        obtain ⟨v, hv, e⟩ := sub_rng (a := 97) (n := 7) (by decide) (by decide) a1 a2
        exact ⟨v, by omega, e⟩
      · refine ⟨fun h => absurd h (by decide), fun _ => ?_, fun h => absurd h (by decide)⟩
        obtain ⟨v, hv, e⟩ := sub_rng (a := 112) (n := 3) (by decide) (by decide) a1 a2
        exact ⟨v, by omega, e⟩
      · exact ⟨fun h => absurd h (by decide), fun h => absurd h (by decide), fun h => absurd h (by decide)⟩
    · exact ⟨fun h => absurd h (by decide), fun h => absurd h (by decide), fun h => absurd h (by decide)⟩
    · refine ⟨fun h => ?_, fun h => ?_, fun _ => rfl⟩
      · have : (nI (w + 5) = 2) = (w + 5 = 2) := nI_eq' (b := 2) (by omega) (by decide)
        rw [this] at h; omega
      · have : (nI (w + 5) = 3) = (w + 5 = 3) := nI_eq' (b := 3) (by omega) (by decide)
        rw [this] at h; omega
    · exact ⟨fun h => absurd h (by decide), fun h => absurd h (by decide), fun h => absurd h (by decide)⟩
theorem isToks.ok {bt : Nat → Int32} {z cnt : Nat} {ps : Nat → Nat} {TK TV : Nat → Int32} {TP : Nat → Nat} (h : isToks bt z cnt ps TK TV TP) : TSok cnt TK TV TP :=
  ⟨h.2.2.2.2, h.2.2.1, h.2.2.2.1, fun j hj => (isTok_K (h.2.1 j hj)).2.2.1, fun j hj => (isTok_V (h.2.1 j hj)).1, fun j hj => (isTok_V (h.2.1 j hj)).2.1, fun j hj => (isTok_V (h.2.1 j hj)).2.2⟩
/-- the class stands at a token -/
def KTk (cnt : Nat) (TK TV : Nat → Int32) (TP : Nat → Nat) (i : Nat) (I : Nat → Nat → Int32) : Prop :=
  i ≤ cnt ∧ I 62 5 = nI i ∧ I 62 6 = TK i ∧ I 62 7 = nI (TP i) ∧ I 62 8 = TV i ∧ ∀ j, j ≤ cnt → I 63 j = TK j ∧ I 64 j = nI (TP j) ∧ I 65 j = TV j
section KTOK
variable {X : aw_X} {d : Nat} {Q : Option Value → aw_H → Prop} {I : Nat → Nat → Int32} {L : Nat → Nat → Int64} {D : Nat → Nat}
theorem c_Tk_advance0 {cnt : Nat} {TK TV : Nat → Int32} {TP : Nat → Nat} {i : Nat} {v : Int32} (h5 : I 62 5 = v) (hv : v + 1 = nI i) (hi : i ≤ cnt) (hc : cnt ≤ 500) (hA : ∀ j, j ≤ cnt → I 63 j = TK j ∧ I 64 j = nI (TP j) ∧ I 65 j = TV j)
    (hQ : ∀ I', KTk cnt TK TV TP i I' → (∀ o, o ≠ 62 → I' o = I o) → Q none (aw_s I' L D)) : aw_m X d y_Tk_advance [.ref 62] (aw_s I L D) Q := by
  have B0 := @b_Tk_advance_0 X d Q I L D
  obtain ⟨a1, a2, a3⟩ := hA i hi
  have p0 : ¬ nI i < 0 := nI_pos (by omega)
  have p1 : ¬ (501 : Int32) ≤ nI i := by
    have : ((501 : Int32) ≤ nI i) = (501 ≤ i) := nI_le' (a := 501) (by decide) (by omega)
    rw [this]; omega
  rw [h5, hv, nI_clamp (show i < 2 ^ 31 by omega), a1, a2, a3] at B0
  refine aw_go rfl rfl (B0 (fun q => absurd q p0) (fun _ q => absurd q p1) (fun _ _ => aw_in_nI (by omega) (by decide)) (fun _ _ => aw_in_nI (by omega) (by decide)) (fun _ _ => aw_in_nI (by omega) (by decide)) (fun _ _ => hQ _ ⟨hi, ?_, ?_, ?_, ?_, fun j hj => ?_⟩ (fun o ho => ?_)))
  · rw [au_k (by decide), au_k (by decide), au_k (by decide), au_s]
  · rw [au_k (by decide), au_k (by decide), au_s]
  · rw [au_k (by decide), au_s]
  · rw [au_s]
  · rw [au_o (by decide), au_o (by decide), au_o (by decide), au_o (by decide), au_o (by decide), au_o (by decide), au_o (by decide), au_o (by decide), au_o (by decide), au_o (by decide), au_o (by decide), au_o (by decide)]; exact hA j hj
  · rw [au_o ho, au_o ho, au_o ho, au_o ho]
theorem c_Tk_advance {cnt : Nat} {TK TV : Nat → Int32} {TP : Nat → Nat} {i : Nat} (hS : TSok cnt TK TV TP) (h : KTk cnt TK TV TP i I) (h0 : TK i ≠ 0) (h1 : TK i ≠ 1)
    (hQ : ∀ I', KTk cnt TK TV TP (i + 1) I' → (∀ o, o ≠ 62 → I' o = I o) → Q none (aw_s I' L D)) : aw_m X d y_Tk_advance [.ref 62] (aw_s I L D) Q := by
  obtain ⟨a1, a2, a3, a4, a5, a6⟩ := h
  have hlt : i < cnt := by
    rcases Nat.lt_or_ge i cnt with g | g
    · exact g
    · have e : i = cnt := by omega
      subst e
      exact absurd hS.2.2.1 (fun h => h.elim h0 h1)
  exact c_Tk_advance0 a2 (nI_1 i) hlt hS.1 a6 hQ
theorem l_Tk_all {bt : Nat → Int32} {z : Nat} {I0 : Nat → Nat → Int32} (hT0 : KTp I0 bt z)
    (hQ : ∀ I' cnt ps TK TV TP, isToks bt z cnt ps TK TV TP → KTk cnt TK TV TP 0 I' → (∀ o, o ≠ 62 → o ≠ 63 → o ≠ 64 → o ≠ 65 → I' o = I0 o) → Q none (aw_s I' L D)) :
    ∀ (m i : Nat) (ps : Nat → Nat) (TK TV : Nat → Int32) (TP : Nat → Nat) (I : Nat → Nat → Int32), i + m = 500 → ps 0 = 0 → i ≤ ps i → ps i ≤ z → (∀ j, j < i → isTok bt z (ps j) (TK j) (TV j) (TP j) (ps (j + 1))) → (∀ j, j < i → TK j ≠ 0 ∧ TK j ≠ 1) →
      (∀ j, j < i → I 63 j = TK j ∧ I 64 j = nI (TP j) ∧ I 65 j = TV j) → (∀ o, o ≠ 62 → o ≠ 63 → o ≠ 64 → o ≠ 65 → I o = I0 o) → I 62 4 = nI (ps i) → ¬ I 62 6 = 0 → ¬ I 62 6 = 1 →
      aw_z X (d + 12) y_Tk_readAll Q 12 [some (.ref 62), some (.int (nI i))] [] (aw_s I L D) := by
  intro m
  induction m with
  | zero =>
    intro i ps TK TV TP I e p0 pi pz h1 h2 h3 h4 h5 h6 h7
    have hz := hT0.2.1
    have hT : KTp I bt z := ⟨by rw [h4 2 (by decide) (by decide) (by decide) (by decide)]; exact hT0.1, hT0.2.1, fun j hj => by rw [h4 3 (by decide) (by decide) (by decide) (by decide)]; exact hT0.2.2 j hj⟩
    have c1 : ((501 : Int32) ≤ nI i) = (501 ≤ i) := nI_le' (a := 501) (by decide) (by omega)
    refine b_Tk_readAll_12 (fun q => ?_) (fun _ q => absurd q h6) (fun _ _ q => absurd q h7) (fun _ _ _ => c_Tk_readToken hT h5 pz (fun nx K va pl I' k1 k2 k3 k4 k5 k6 k7 => ?_))
    · rw [c1] at q; omega
    · refine b_Tk_readAll_38 (aw_in_nI (by omega) (by decide)) (aw_in_nI (by omega) (by decide)) (aw_in_nI (by omega) (by decide)) ?_
      rw [nI_1, nI_clamp (show i < 2 ^ 31 by omega), k5, k6, k7]
      have hKK : K = 0 ∨ K = 1 := by
        rcases Classical.em (K = 0) with g | g
        · exact Or.inl g
        · rcases Classical.em (K = 1) with g2 | g2
          · exact Or.inr g2
          · have := (isTok_go k1 ⟨g, g2⟩).2; omega
      have hj : ∀ j, j ≤ i → j ≠ i → j < i := fun j a b => by omega
      generalize eI : aw_u (aw_u (aw_u I' 63 i K) 64 i (nI pl)) 65 i va = I2
      have f1 : ∀ o, o ≠ 63 → o ≠ 64 → o ≠ 65 → I2 o = I' o := fun o a b c => by rw [← eI, au_o c, au_o b, au_o a]
      have fA : ∀ j, j ≤ i → I2 63 j = va_up TK i K j ∧ I2 64 j = nI (va_up TP i pl j) ∧ I2 65 j = va_up TV i va j := by
        intro j hji
        by_cases g : j = i
        · subst g
          rw [up_s, up_s, up_s, ← eI]
          exact ⟨by rw [au_o (by decide), au_o (by decide), au_s], by rw [au_o (by decide), au_s], by rw [au_s]⟩
        · rw [up_n _ _ g, up_n _ _ g, up_n _ _ g, ← eI]
          obtain ⟨b1, b2, b3⟩ := h3 j (hj j hji g)
          exact ⟨by rw [au_o (by decide), au_o (by decide), au_k g, k2 63 (by decide)]; exact b1, by rw [au_o (by decide), au_k g, au_o (by decide), k2 64 (by decide)]; exact b2, by rw [au_k g, au_o (by decide), au_o (by decide), k2 65 (by decide)]; exact b3⟩
      have fin : aw_z X (d + 12) y_Tk_readAll Q 74 [some (.ref 62), none] [] (aw_s I2 L D) := by
        refine b_Tk_readAll_74 (c_Tk_advance0 (cnt := i) (TK := va_up TK i K) (TV := va_up TV i va) (TP := va_up TP i pl) (i := 0) (v := -1) (au_s _ _ _ _) (by decide) (Nat.zero_le _) (by omega) (fun j hj => ?_) (fun I3 g1 g2 => b_Tk_readAll_83 (hQ I3 i (va_up ps (i + 1) nx) _ _ _ ⟨?_, fun j hji => ?_, fun j hji => ?_, ?_, by omega⟩ g1 (fun o a b c f => ?_))))
        · rw [au_o (by decide), au_o (by decide), au_o (by decide)]; exact fA j hj
        · rw [up_n _ _ (by omega)]; exact p0
        · by_cases g : j = i
          · subst g
            rw [up_s, up_s, up_s, up_s, up_n _ _ (by omega)]
            exact k1
          · rw [up_n _ _ g, up_n _ _ g, up_n _ _ g, up_n _ _ (by omega), up_n _ _ (by omega)]
            exact h1 j (by omega)
        · rw [up_n _ _ (by omega)]; exact h2 j hji
        · rw [up_s]; exact hKK
        · rw [g2 o a, au_o a, f1 o b c f, k2 o a]; exact h4 o a b c f
      refine b_Tk_readAll_12 (fun _ => fin) (fun _ _ => fin) (fun _ _ _ => fin) (fun _ q1 q2 => ?_)
      rw [f1 62 (by decide) (by decide) (by decide), k5] at q1 q2
      exact absurd hKK (fun h => h.elim q1 q2)
  | succ m ih =>
    intro i ps TK TV TP I e p0 pi pz h1 h2 h3 h4 h5 h6 h7
    have hz := hT0.2.1
    have hT : KTp I bt z := ⟨by rw [h4 2 (by decide) (by decide) (by decide) (by decide)]; exact hT0.1, hT0.2.1, fun j hj => by rw [h4 3 (by decide) (by decide) (by decide) (by decide)]; exact hT0.2.2 j hj⟩
    have c1 : ((501 : Int32) ≤ nI i) = (501 ≤ i) := nI_le' (a := 501) (by decide) (by omega)
    refine b_Tk_readAll_12 (fun q => ?_) (fun _ q => absurd q h6) (fun _ _ q => absurd q h7) (fun _ _ _ => c_Tk_readToken hT h5 pz (fun nx K va pl I' k1 k2 k3 k4 k5 k6 k7 => ?_))
    · rw [c1] at q; omega
    · refine b_Tk_readAll_38 (aw_in_nI (by omega) (by decide)) (aw_in_nI (by omega) (by decide)) (aw_in_nI (by omega) (by decide)) ?_
      rw [nI_1, nI_clamp (show i < 2 ^ 31 by omega), k5, k6, k7]
      have hj : ∀ j, j ≤ i → j ≠ i → j < i := fun j a b => by omega
      generalize eI : aw_u (aw_u (aw_u I' 63 i K) 64 i (nI pl)) 65 i va = I2
      have f1 : ∀ o, o ≠ 63 → o ≠ 64 → o ≠ 65 → I2 o = I' o := fun o a b c => by rw [← eI, au_o c, au_o b, au_o a]
      have fA : ∀ j, j ≤ i → I2 63 j = va_up TK i K j ∧ I2 64 j = nI (va_up TP i pl j) ∧ I2 65 j = va_up TV i va j := by
        intro j hji
        by_cases g : j = i
        · subst g
          rw [up_s, up_s, up_s, ← eI]
          exact ⟨by rw [au_o (by decide), au_o (by decide), au_s], by rw [au_o (by decide), au_s], by rw [au_s]⟩
        · rw [up_n _ _ g, up_n _ _ g, up_n _ _ g, ← eI]
          obtain ⟨b1, b2, b3⟩ := h3 j (hj j hji g)
          exact ⟨by rw [au_o (by decide), au_o (by decide), au_k g, k2 63 (by decide)]; exact b1, by rw [au_o (by decide), au_k g, au_o (by decide), k2 64 (by decide)]; exact b2, by rw [au_k g, au_o (by decide), au_o (by decide), k2 65 (by decide)]; exact b3⟩
      have fT : ∀ j, j ≤ i → isTok bt z (va_up ps (i + 1) nx j) (va_up TK i K j) (va_up TV i va j) (va_up TP i pl j) (va_up ps (i + 1) nx (j + 1)) := by
        intro j hji
        by_cases g : j = i
        · subst g
          rw [up_s, up_s, up_s, up_s, up_n _ _ (by omega)]
          exact k1
        · rw [up_n _ _ g, up_n _ _ g, up_n _ _ g, up_n _ _ (by omega), up_n _ _ (by omega)]
          exact h1 j (by omega)
      by_cases hKK : K = 0 ∨ K = 1
      · have fin : aw_z X (d + 12) y_Tk_readAll Q 74 [some (.ref 62), none] [] (aw_s I2 L D) := by
          refine b_Tk_readAll_74 (c_Tk_advance0 (cnt := i) (TK := va_up TK i K) (TV := va_up TV i va) (TP := va_up TP i pl) (i := 0) (v := -1) (au_s _ _ _ _) (by decide) (Nat.zero_le _) (by omega) (fun j hj => ?_) (fun I3 g1 g2 => b_Tk_readAll_83 (hQ I3 i (va_up ps (i + 1) nx) _ _ _ ⟨?_, fT, fun j hji => ?_, ?_, by omega⟩ g1 (fun o a b c f => ?_))))
          · rw [au_o (by decide), au_o (by decide), au_o (by decide)]; exact fA j hj
          · rw [up_n _ _ (by omega)]; exact p0
          · rw [up_n _ _ (by omega)]; exact h2 j hji
          · rw [up_s]; exact hKK
          · rw [g2 o a, au_o a, f1 o b c f, k2 o a]; exact h4 o a b c f
        refine b_Tk_readAll_12 (fun _ => fin) (fun _ _ => fin) (fun _ _ _ => fin) (fun _ q1 q2 => ?_)
        rw [f1 62 (by decide) (by decide) (by decide), k5] at q1 q2
        exact absurd hKK (fun h => h.elim q1 q2)
      · have n0 : K ≠ 0 := fun h => hKK (Or.inl h)
        have n1 : K ≠ 1 := fun h => hKK (Or.inr h)
        have hgo := isTok_go k1 ⟨n0, n1⟩
        have hpz := (isTok_K k1).2.1
        refine ih (i + 1) (va_up ps (i + 1) nx) (va_up TK i K) (va_up TV i va) (va_up TP i pl) I2 (by omega) (by rw [up_n _ _ (by omega)]; exact p0) (by rw [up_s]; omega) (by rw [up_s]; exact hpz) (fun j hji => fT j (by omega)) (fun j hji => ?_) (fun j hji => fA j (by omega)) (fun o a b c f => by rw [f1 o b c f, k2 o a]; exact h4 o a b c f) ?_ ?_ ?_
        · by_cases g : j = i
          · subst g; rw [up_s]; exact ⟨n0, n1⟩
          · rw [up_n _ _ g]; exact h2 j (by omega)
        · rw [f1 62 (by decide) (by decide) (by decide), up_s]; exact k4
        · rw [f1 62 (by decide) (by decide) (by decide), k5]; exact n0
        · rw [f1 62 (by decide) (by decide) (by decide), k5]; exact n1
theorem c_Tk_readAll {bt : Nat → Int32} {z : Nat} (hT : KTp I bt z)
    (hQ : ∀ I' cnt ps TK TV TP, isToks bt z cnt ps TK TV TP → KTk cnt TK TV TP 0 I' → (∀ o, o ≠ 62 → o ≠ 63 → o ≠ 64 → o ≠ 65 → I' o = I o) → Q none (aw_s I' L D)) : aw_m X (d + 12) y_Tk_readAll [.ref 62] (aw_s I L D) Q := by
  refine aw_go rfl rfl (b_Tk_readAll_0 ?_)
  exact l_Tk_all hT hQ 500 0 (fun _ => 0) (fun _ => 0) (fun _ => 0) (fun _ => 0) _ rfl rfl (Nat.zero_le _) (Nat.zero_le _) (fun j h => by omega) (fun j h => by omega) (fun j h => by omega) (fun o a b c f => by rw [au_o a, au_o a]) (by rw [au_k (by decide), au_s]; rfl) (by rw [au_s]; decide) (by rw [au_s]; decide)
end KTOK
