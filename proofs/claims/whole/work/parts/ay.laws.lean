/-! PART ay: laws of both -/
def lwS (rel : Nat → Nat → Nat) (a b : Nat) (p : Nat × (Nat → Int32)) : Nat × (Nat → Int32) :=
  if rel a b = 1 then (p.1 + 1, va_up p.2 p.1 (nI (100 * a + 10 * b))) else if rel a b = 2 then (p.1 + 1, va_up p.2 p.1 (nI (100 * a + 10 * b + 1))) else if rel a b = 4 then (p.1 + 1, va_up p.2 p.1 (nI (100 * a + 10 * b + 2))) else p
def lwI (rel : Nat → Nat → Nat) (a : Nat) (p : Nat × (Nat → Int32)) : Nat → Nat × (Nat → Int32)
  | 0 => p
  | k + 1 => lwS rel a (a + 1 + k) (lwI rel a p k)
def lwO (rel : Nat → Nat → Nat) : Nat → Nat × (Nat → Int32)
  | 0 => (0, fun _ => 0)
  | a + 1 => lwI rel a (lwO rel a) (7 - a)
def pdN : Nat → Nat
  | 0 => 0
  | a + 1 => pdN a + (7 - a)
theorem lwS_le (rel : Nat → Nat → Nat) (a b : Nat) (p : Nat × (Nat → Int32)) : (lwS rel a b p).1 ≤ p.1 + 1 := by
  unfold lwS
  (repeat' split) <;> first | exact Nat.le_refl _ | exact Nat.le_succ _
theorem lwI_le (rel : Nat → Nat → Nat) (a : Nat) (p : Nat × (Nat → Int32)) : ∀ k, (lwI rel a p k).1 ≤ p.1 + k
  | 0 => Nat.le_refl _
  | k + 1 => by have := lwI_le rel a p k; have := lwS_le rel a (a + 1 + k) (lwI rel a p k); rw [lwI]; omega
theorem lwO_le (rel : Nat → Nat → Nat) : ∀ a, (lwO rel a).1 ≤ pdN a
  | 0 => Nat.le_refl _
  | a + 1 => by have := lwO_le rel a; have := lwI_le rel a (lwO rel a) (7 - a); rw [lwO, pdN]; omega
theorem pd_lt : ∀ a, a < 8 → pdN a + (7 - a) ≤ 28 := by decide
/-- a row of laws so far -/
def LwR (p : Nat × (Nat → Int32)) (o k arr : Nat) (I : Nat → Nat → Int32) : Prop := I o k = nI p.1 ∧ ∀ j, j < p.1 → I arr j = p.2 j
/-- what laws() leaves -/
def FLl (I I' : Nat → Nat → Int32) (L L' : Nat → Nat → Int64) : Prop := (∀ o k, o ≠ 67 → o ≠ 104 → o ≠ 69 → ¬ (84 ≤ o ∧ o ≤ 88) → o ≠ 90 → ¬ (o = 0 ∧ k = 14) → I' o k = I o k) ∧ (∀ k, k ≠ 0 → k ≠ 25 → k ≠ 42 → k ≠ 43 → k ≠ 44 → k ≠ 45 → k ≠ 66 → k ≠ 69 → I' 69 k = I 69 k) ∧ (∀ o, o ≠ 69 → L' o = L o) ∧ ∀ k, k ≠ 46 → k ≠ 47 → L' 69 k = L 69 k
section LAWS
variable {X : aw_X} {d : Nat} {Q : Option Value → aw_H → Prop} {I : Nat → Nat → Int32} {L : Nat → Nat → Int64} {D : Nat → Nat} {v1 : Int32}
theorem nl_step {a b w k n : Nat} (k' c : Nat) (hk' : k + 1 = k') (hc : 2 ^ k = c) (ha : a < 8) (hb : b < 8) (hw : w < 8) (h0 : w ≠ 0) (hk : k < 3) (hn : n < 28) (h14 : I 0 14 = nI n)
    (hy : w = c → aw_z X (d + 1) y_AW_noteLaw Q 3 [some (.ref 0), some (.int (nI a)), some (.int (nI b)), some (.int (nI w)), some (.int (nI k'))] [] (aw_s (aw_u (aw_u I 67 n (nI (100 * a + 10 * b + k))) 0 14 (nI (n + 1))) L D))
    (hnn : w ≠ c → aw_z X (d + 1) y_AW_noteLaw Q 3 [some (.ref 0), some (.int (nI a)), some (.int (nI b)), some (.int (nI w)), some (.int (nI k'))] [] (aw_s I L D)) :
    aw_z X (d + 1) y_AW_noteLaw Q 3 [some (.ref 0), some (.int (nI a)), some (.int (nI b)), some (.int (nI w)), some (.int (nI k))] [] (aw_s I L D) := by
  subst hk'
  subst hc
  have n2 : ¬ (2 : Int32) < nI k := by rw [show (2 : Int32) = nI 2 from rfl, nI_ltI (by decide) (by omega)]; omega
  have hA := (hA_1 w hw k (by omega)).resolve_left h0
  have hv : hAw w k = if w = 2 ^ k then 1 else 0 := by unfold hAw; rw [if_neg (by omega)]
  have p14 : ¬ I 0 14 < 0 := by rw [h14]; exact nI_pos (by omega)
  have q14 : ¬ (28 : Int32) ≤ I 0 14 := by rw [h14, show (28 : Int32) = nI 28 from rfl, nI_leI (by decide) (by omega)]; omega
  have ev : (100 : Int32) * nI a + (10 : Int32) * nI b + nI k = nI (100 * a + 10 * b + k) := by
    rw [show (100 : Int32) = nI 100 from rfl, show (10 : Int32) = nI 10 from rfl, pk_mul, pk_mul, nI_add, nI_add]
  refine b_AW_noteLaw_3 (fun z => absurd z n2) (fun _ => c_holdsAlways hw h0 (by omega) (b_AW_noteLaw_15 (fun z => ?_) (fun _ z => absurd z p14) (fun _ _ z => absurd z q14) (fun _ _ _ => by rw [h14]; exact aw_in_nI hn (by decide)) (fun z _ _ => ?_)))
  · rw [nI_1]
    refine hnn (fun e => ?_)
    rw [hv, if_pos e] at z
    exact absurd z (by decide)
  · rw [ev, h14, nI_clamp (show n < 2 ^ 31 by omega), nI_1, nI_1]
    refine hy (Classical.byContradiction (fun e => z ?_))
    rw [hv, if_neg e]; rfl
theorem c_noteLaw {rel : Nat → Nat → Nat} {a b : Nat} {p : Nat × (Nat → Int32)} (ha : a < 8) (hb : b < 8) (hw : rel a b < 8) (h0 : rel a b ≠ 0) (hn : p.1 < 28) (h : LwR p 0 14 67 I)
    (hQ : ∀ I', LwR (lwS rel a b p) 0 14 67 I' → (∀ o k, o ≠ 67 → ¬ (o = 0 ∧ k = 14) → I' o k = I o k) → Q none (aw_s I' L D)) : aw_m X (d + 1) y_AW_noteLaw [.ref 0, .int (nI a), .int (nI b), .int (nI (rel a b))] (aw_s I L D) Q := by
  obtain ⟨h14, h67⟩ := h
  -- behind the last
  have last : ∀ (J : Nat → Nat → Int32) (k : Nat), k = 3 → Q none (aw_s J L D) → aw_z X (d + 1) y_AW_noteLaw Q 3 [some (.ref 0), some (.int (nI a)), some (.int (nI b)), some (.int (nI (rel a b))), some (.int (nI k))] [] (aw_s J L D) := fun J k e q => by
    subst e
    exact b_AW_noteLaw_3 (fun _ => q) (fun z => absurd (by decide) z)
  -- one law more
  have more : ∀ k, lwS rel a b p = (p.1 + 1, va_up p.2 p.1 (nI (100 * a + 10 * b + k))) → Q none (aw_s (aw_u (aw_u I 67 p.1 (nI (100 * a + 10 * b + k))) 0 14 (nI (p.1 + 1))) L D) := fun k e => by
    refine hQ _ ⟨?_, fun j hj => ?_⟩ (fun o x z1 z2 => by rw [au_ok (by omega), au_o z1])
    · rw [e, au_s]
    · rw [e] at hj ⊢
      have hj : j < p.1 + 1 := hj
      show _ = va_up p.2 p.1 _ j
      rw [au_o (by decide)]
      by_cases g : j = p.1
      · subst g; rw [au_s, up_s]
      · rw [au_k g, up_n _ _ g]; exact h67 j (by omega)
  -- on without it
  have skip : ∀ (J : Nat → Nat → Int32) (k k' : Nat), k < 3 → k + 1 = k' → rel a b ≠ 2 ^ k → aw_z X (d + 1) y_AW_noteLaw Q 3 [some (.ref 0), some (.int (nI a)), some (.int (nI b)), some (.int (nI (rel a b))), some (.int (nI k'))] [] (aw_s J L D) → aw_z X (d + 1) y_AW_noteLaw Q 3 [some (.ref 0), some (.int (nI a)), some (.int (nI b)), some (.int (nI (rel a b))), some (.int (nI k))] [] (aw_s J L D) := fun J k k' hk hk' hne kk => by
    subst hk'
    have n2 : ¬ (2 : Int32) < nI k := by rw [show (2 : Int32) = nI 2 from rfl, nI_ltI (by decide) (by omega)]; omega
    have hv : hAw (rel a b) k = 0 := by unfold hAw; rw [if_neg (by omega), if_neg hne]
    refine b_AW_noteLaw_3 (fun z => absurd z n2) (fun _ => c_holdsAlways hw h0 (by omega) (b_AW_noteLaw_15 (fun _ => by rw [nI_1]; exact kk) (fun z => ?_) (fun z => ?_) (fun z => ?_) (fun z => ?_))) <;> exact absurd (by rw [hv]; rfl) z
  have d1 : ∀ w : Nat, w = 1 → w ≠ 2 ^ 1 ∧ w ≠ 2 ^ 2 := fun w e => by subst e; decide
  have d2 : ∀ w : Nat, w = 2 → w ≠ 1 ∧ w ≠ 2 ^ 2 := fun w e => by subst e; decide
  have d4 : ∀ w : Nat, w = 4 → w ≠ 1 ∧ w ≠ 2 := fun w e => by subst e; decide
  have end3 : ∀ (J : Nat → Nat → Int32), Q none (aw_s J L D) → aw_z X (d + 1) y_AW_noteLaw Q 3 [some (.ref 0), some (.int (nI a)), some (.int (nI b)), some (.int (nI (rel a b))), some (.int (nI 3))] [] (aw_s J L D) := fun J q => last J 3 rfl q
  have g2 : rel a b ≠ 1 → rel a b ≠ 2 → aw_z X (d + 1) y_AW_noteLaw Q 3 [some (.ref 0), some (.int (nI a)), some (.int (nI b)), some (.int (nI (rel a b))), some (.int (nI 2))] [] (aw_s I L D) := fun e0 e1 => by
    refine nl_step (k := 2) (n := p.1) 3 4 rfl rfl ha hb hw h0 (by decide) hn h14 (fun e => end3 _ (more 2 ?_)) (fun e2 => end3 _ (hQ I ?_ (fun _ _ _ _ => rfl)))
    · unfold lwS
      rw [if_neg (d4 _ e).1, if_neg (d4 _ e).2, if_pos e]
    · unfold lwS
      rw [if_neg e0, if_neg e1, if_neg e2]
      exact ⟨h14, h67⟩
  have g1 : rel a b ≠ 1 → aw_z X (d + 1) y_AW_noteLaw Q 3 [some (.ref 0), some (.int (nI a)), some (.int (nI b)), some (.int (nI (rel a b))), some (.int (nI 1))] [] (aw_s I L D) := fun e0 => by
    refine nl_step (k := 1) (n := p.1) 2 2 rfl rfl ha hb hw h0 (by decide) hn h14 (fun e => skip _ 2 3 (by decide) rfl (d2 _ e).2 (end3 _ (more 1 ?_))) (fun e1 => g2 e0 e1)
    unfold lwS
    rw [if_neg (d2 _ e).1, if_pos e]
  refine aw_go rfl rfl (b_AW_noteLaw_0 ?_)
  refine nl_step (k := 0) (n := p.1) 1 1 rfl rfl ha hb hw h0 (by decide) hn h14 (fun e => skip _ 1 2 (by decide) rfl (d1 _ e).1 (skip _ 2 3 (by decide) rfl (d1 _ e).2 (end3 _ (more 0 ?_)))) g1
  unfold lwS
  rw [if_pos e]
  simp only [Nat.add_zero]
theorem l_AW_lawsI {E : Nat → PE} {R s a : Nat} {p : Nat × (Nat → Int32)} (hs : s < 60) (ha : a < 8) (hb : Bgn E R s) (hp : p.1 ≤ pdN a) {I0 : Nat → Nat → Int32} (h19 : ∀ k, k < 3840 → I0 19 k = stW E R k)
    (hk : ∀ I', LwR (lwI (relW E R s) a p (7 - a)) 0 14 67 I' → (∀ o k, o ≠ 67 → ¬ (o = 0 ∧ k = 14) → I' o k = I0 o k) → aw_z X (d + 3) y_AW_laws Q 20 [some (.ref 0), some (.int (nI s)), some (.int (nI (a + 1))), none] [] (aw_s I' L D)) :
    ∀ (m k : Nat) (J : Nat → Nat → Int32), a + 1 + k + m = 8 → LwR (lwI (relW E R s) a p k) 0 14 67 J → (∀ o k, o ≠ 67 → ¬ (o = 0 ∧ k = 14) → J o k = I0 o k) → aw_z X (d + 3) y_AW_laws Q 30 [some (.ref 0), some (.int (nI s)), some (.int (nI a)), some (.int (nI (a + 1 + k)))] [] (aw_s J L D) := by
  intro m
  induction m with
  | zero =>
    intro k J e h f
    have ek : k = 7 - a := by omega
    subst ek
    refine b_AW_laws_30 (fun _ => by rw [nI_1]; exact hk J h f) (fun z => absurd ?_ z)
    rw [show (8 : Int32) = nI 8 from rfl, nI_leI (by decide) (by omega)]; omega
  | succ m ih =>
    intro k J e h f
    have n8 : ¬ (8 : Int32) ≤ nI (a + 1 + k) := by rw [show (8 : Int32) = nI 8 from rfl, nI_leI (by decide) (by omega)]; omega
    obtain ⟨r1, r2⟩ := relW_ok (R := R) ha (show a + 1 + k < 8 by omega) hb
    have hn : (lwI (relW E R s) a p k).1 < 28 := by
      have := lwI_le (relW E R s) a p k
      have := pd_lt a ha
      omega
    refine b_AW_laws_30 (fun z => absurd z n8) (fun _ => c_Wk_relationsOf (d := d + 1) hs ha (by omega) (fun k hk => by rw [f 19 k (by decide) (by omega)]; exact h19 k hk) (b_AW_laws_49 (c_noteLaw (d := d + 1) (rel := relW E R s) ha (by omega) r1 r2 hn h (fun I' g1 g2 => b_AW_laws_52 ?_))))
    rw [nI_1, show a + 1 + k + 1 = a + 1 + (k + 1) by omega]
    exact ih (k + 1) I' (by omega) g1 (fun o x z1 z2 => (g2 o x z1 z2).trans (f o x z1 z2))
theorem l_AW_lawsO {E : Nat → PE} {R s : Nat} (hs : s < 60) (hb : Bgn E R s) {I0 : Nat → Nat → Int32} (h19 : ∀ k, k < 3840 → I0 19 k = stW E R k)
    (hQ : ∀ I', LwR (lwO (relW E R s) 8) 0 14 67 I' → (∀ o k, o ≠ 67 → ¬ (o = 0 ∧ k = 14) → I' o k = I0 o k) → Q (some (.int (nI (lwO (relW E R s) 8).1))) (aw_s I' L D)) :
    ∀ (m a : Nat) (J : Nat → Nat → Int32), a + m = 8 → LwR (lwO (relW E R s) a) 0 14 67 J → (∀ o k, o ≠ 67 → ¬ (o = 0 ∧ k = 14) → J o k = I0 o k) → aw_z X (d + 3) y_AW_laws Q 20 [some (.ref 0), some (.int (nI s)), some (.int (nI a)), none] [] (aw_s J L D) := by
  intro m
  induction m with
  | zero =>
    intro a J e h f
    have ea : a = 8 := by omega
    subst ea
    exact b_AW_laws_20 (fun _ => by rw [h.1]; exact hQ J h f) (fun z => absurd (by decide) z)
  | succ m ih =>
    intro a J e h f
    have n8 : ¬ (8 : Int32) ≤ nI a := by rw [show (8 : Int32) = nI 8 from rfl, nI_leI (by decide) (by omega)]; omega
    refine b_AW_laws_20 (fun z => absurd z n8) (fun _ => ?_)
    rw [nI_1]
    exact l_AW_lawsI (d := d) hs (by omega) hb (lwO_le _ a) (I0 := J) (fun k hk => by rw [f 19 k (by decide) (by omega)]; exact h19 k hk) (fun I' g1 g2 => ih (a + 1) I' (by omega) g1 (fun o x z1 z2 => (g2 o x z1 z2).trans (f o x z1 z2))) (7 - a) 0 J (by omega) h (fun _ _ _ _ => rfl)
end LAWS
