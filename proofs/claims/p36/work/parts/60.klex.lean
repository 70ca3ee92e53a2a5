/-! PART 60: the tokens of a text, and the class's reading of them -/
def numV (bt : Nat → Int32) (q : Nat) : Nat → Int32
  | 0 => 0
  | k + 1 => (10 * numV bt q k + bt (q + k)) - 48
def letK (x K va : Int32) : Prop := (¬ x < 97 ∧ ¬ 104 < x ∧ K = 2 ∧ va = x - 97) ∨ (¬ x < 112 ∧ ¬ 115 < x ∧ K = 3 ∧ va = x - 112) ∨ ((x < 97 ∨ 104 < x) ∧ (x < 112 ∨ 115 < x) ∧ K = 0)
def tkW (bt : Nat → Int32) (q e : Nat) (K va : Int32) : Prop :=
  ((∀ j, q ≤ j → j < e → isDg (bt j)) ∧ ((e - q ≤ 3 ∧ K = 4 ∧ va = numV bt q (e - q)) ∨ (3 < e - q ∧ K = 0))) ∨
  ((∃ j, q ≤ j ∧ j < e ∧ isDg (bt j)) ∧ (∃ j, q ≤ j ∧ j < e ∧ ¬ isDg (bt j)) ∧ K = 0) ∨
  ((∀ j, q ≤ j → j < e → ¬ isDg (bt j)) ∧ ((e = q + 1 ∧ letK (bt q) K va) ∨ (5 < e - q ∧ K = 0) ∨ (2 ≤ e - q ∧ e - q ≤ 5 ∧ ((∃ w, w < 12 ∧ wMt bt q (e - q) w ∧ K = nI (w + 5) ∧ va = 0) ∨ (K = 0 ∧ ∀ w, w < 12 → ¬ wMt bt q (e - q) w)))))
/-- one token from a place on: its kind, its number, its place, where the next one is looked for -/
def isTok (bt : Nat → Int32) (z p : Nat) (K va : Int32) (pl nx : Nat) : Prop := ∃ q, p ≤ q ∧ q ≤ z ∧ (∀ j, p ≤ j → j < q → isBl (bt j)) ∧ (q < z → ¬ isBl (bt q)) ∧
  ((500 ≤ q ∧ 500 < z ∧ K = 0 ∧ pl = 500 ∧ nx = q) ∨
   ((q < 500 ∨ z ≤ 500) ∧ q = z ∧ K = 1 ∧ pl = q ∧ nx = q) ∨
   ((q < 500 ∨ z ≤ 500) ∧ q < z ∧ ¬ isOw (bt q) ∧ pl = q ∧ nx = q + 1 ∧ K = (if bt q ∈ mks then bt q else 0)) ∨
   ((q < 500 ∨ z ≤ 500) ∧ q < z ∧ isOw (bt q) ∧ pl = q ∧ q < nx ∧ nx ≤ z ∧ (∀ j, q ≤ j → j < nx → isOw (bt j)) ∧ (nx < z → ¬ isOw (bt nx)) ∧ tkW bt q nx K va))
theorem isTok_K {bt : Nat → Int32} {z p : Nat} {K va : Int32} {pl nx : Nat} (h : isTok bt z p K va pl nx) : p ≤ nx ∧ nx ≤ z ∧ pl ≤ 500 ∧ pl ≤ z := by
  obtain ⟨q, h1, h2, h3, h4, h | h | h | h⟩ := h
  · omega
  · omega
  · omega
  · obtain ⟨a1, a2, a3, a4, a5, a6, -⟩ := h; omega
theorem isTok_go {bt : Nat → Int32} {z p : Nat} {K va : Int32} {pl nx : Nat} (h : isTok bt z p K va pl nx) (hK : K ≠ 0 ∧ K ≠ 1) : p < nx ∧ p < 500 := by
  obtain ⟨q, h1, h2, h3, h4, h | h | h | h⟩ := h
  · exact absurd h.2.2.1 hK.1
  · exact absurd h.2.2.1 hK.2
  · omega
  · obtain ⟨a1, a2, a3, a4, a5, a6, -⟩ := h; omega
def dgc (bt : Nat → Int32) (q : Nat) : Nat → Nat
  | 0 => 0
  | k + 1 => dgc bt q k + (if isDg (bt (q + k)) then 1 else 0)
theorem dgc_le (bt : Nat → Int32) (q : Nat) : ∀ k, dgc bt q k ≤ k
  | 0 => Nat.le_refl _
  | k + 1 => by have := dgc_le bt q k; simp only [dgc]; split <;> omega
theorem dgc_all (bt : Nat → Int32) (q : Nat) : ∀ k, dgc bt q k = k → ∀ j, j < k → isDg (bt (q + j))
  | 0, _, j, h => by omega
  | k + 1, h, j, hj => by
    have h1 := dgc_le bt q k
    simp only [dgc] at h
    split at h
    · next g =>
      by_cases e : j = k
      · subst e; exact g
      · exact dgc_all bt q k (by omega) j (by omega)
    · omega
theorem dgc_none (bt : Nat → Int32) (q : Nat) : ∀ k, dgc bt q k = 0 → ∀ j, j < k → ¬ isDg (bt (q + j))
  | 0, _, j, h => by omega
  | k + 1, h, j, hj => by
    simp only [dgc] at h
    split at h
    · omega
    · next g =>
      by_cases e : j = k
      · subst e; exact g
      · exact dgc_none bt q k (by omega) j (by omega)
theorem dgc_ex (bt : Nat → Int32) (q : Nat) : ∀ k, 0 < dgc bt q k → ∃ j, j < k ∧ isDg (bt (q + j))
  | 0, h => by simp [dgc] at h
  | k + 1, h => by
    simp only [dgc] at h
    split at h
    · next g => exact ⟨k, Nat.lt_succ_self k, g⟩
    · obtain ⟨j, h1, h2⟩ := dgc_ex bt q k (by omega)
      exact ⟨j, by omega, h2⟩
theorem dgc_exn (bt : Nat → Int32) (q : Nat) : ∀ k, dgc bt q k < k → ∃ j, j < k ∧ ¬ isDg (bt (q + j))
  | 0, h => by simp [dgc] at h
  | k + 1, h => by
    simp only [dgc] at h
    split at h
    · obtain ⟨j, h1, h2⟩ := dgc_exn bt q k (by omega)
      exact ⟨j, by omega, h2⟩
    · next g => exact ⟨k, Nat.lt_succ_self k, g⟩
section KLEX
variable {X : aw_X} {d : Nat} {Q : Option Value → aw_H → Prop} {I : Nat → Nat → Int32} {L : Nat → Nat → Int64} {D : Nat → Nat}
theorem c_Tk_isBlank {x : Int32} (h1 : isBl x → Q (some (.int 1)) (aw_s I L D)) (h0 : ¬ isBl x → Q (some (.int 0)) (aw_s I L D)) : aw_m X d y_Tk_isBlank [.int x] (aw_s I L D) Q :=
  aw_go rfl rfl (b_Tk_isBlank_0 (fun q => h1 (Or.inl q)) (fun q q2 => h0 (fun h => h.elim q q2)) (fun _ q => h1 (Or.inr q)))
theorem c_Tk_isLetter {x : Int32} (h1 : isLt x → Q (some (.int 1)) (aw_s I L D)) (h0 : ¬ isLt x → Q (some (.int 0)) (aw_s I L D)) : aw_m X d y_Tk_isLetter [.int x] (aw_s I L D) Q :=
  aw_go rfl rfl (b_Tk_isLetter_0 (fun q => h0 (fun h => h.1 q)) (fun _ q2 => h0 (fun h => h.2 q2)) (fun q q2 => h1 ⟨q, q2⟩))
theorem c_Tk_isDigit {x : Int32} (h1 : isDg x → Q (some (.int 1)) (aw_s I L D)) (h0 : ¬ isDg x → Q (some (.int 0)) (aw_s I L D)) : aw_m X d y_Tk_isDigit [.int x] (aw_s I L D) Q :=
  aw_go rfl rfl (b_Tk_isDigit_0 (fun q => h0 (fun h => h.1 q)) (fun _ q2 => h0 (fun h => h.2 q2)) (fun q q2 => h1 ⟨q, q2⟩))
theorem c_Tk_isOfWord {x : Int32} (h1 : isOw x → Q (some (.int 1)) (aw_s I L D)) (h0 : ¬ isOw x → Q (some (.int 0)) (aw_s I L D)) : aw_m X (d + 1) y_Tk_isOfWord [.int x] (aw_s I L D) Q :=
  aw_go rfl rfl (b_Tk_isOfWord_0 (c_Tk_isLetter (fun g => b_Tk_isOfWord_4 (fun _ => h1 (Or.inl g)) (fun q => absurd q (by decide)))
    (fun g => b_Tk_isOfWord_4 (fun q => absurd rfl q) (fun _ => c_Tk_isDigit (fun g2 => b_Tk_isOfWord_11 (fun q => absurd q (by decide)) (fun _ => h1 (Or.inr g2))) (fun g2 => b_Tk_isOfWord_11 (fun _ => h0 (fun h => h.elim g g2)) (fun q => absurd rfl q))))))
theorem l_Tk_skip {bt : Nat → Int32} {z : Nat} : ∀ (m k : Nat) (I : Nat → Nat → Int32), k + m = z → KTp I bt z → I 62 4 = nI k →
    (∀ q, k ≤ q → q ≤ z → (∀ j, k ≤ j → j < q → isBl (bt j)) → (q < z → ¬ isBl (bt q)) → Q none (aw_s (aw_u I 62 4 (nI q)) L D)) →
    aw_z X (d + 1) y_Tk_skipBlanks Q 5 [some (.ref 62), some (.int (nI k))] [] (aw_s I L D) := by
  intro m
  induction m with
  | zero =>
    intro k I e hT h4 hQ
    have hz := hT.2.1
    have h := hQ k (Nat.le_refl _) (by omega) (fun j h1 h2 => by omega) (fun h => by omega)
    rw [au_id h4] at h
    refine b_Tk_skipBlanks_5 (fun _ => h) (fun q => ?_)
    rw [hT.1, nI_leI (by omega) (by omega)] at q
    omega
  | succ m ih =>
    intro k I e hT h4 hQ
    have hz := hT.2.1
    refine b_Tk_skipBlanks_5 (fun q => ?_) (fun _ => c_Tp_byteAt hT (by omega) (b_Tk_skipBlanks_24 (c_Tk_isBlank (fun g => ?_) (fun g => ?_))))
    · rw [hT.1, nI_leI (by omega) (by omega)] at q
      omega
    · refine b_Tk_skipBlanks_27 (fun q => absurd q (by decide)) (fun _ => ?_)
      rw [nI_1]
      refine ih (k + 1) _ (by omega) (hT.u (by decide) (by decide)) (au_s _ _ _ _) (fun q a1 a2 a3 a4 => ?_)
      rw [au_au]
      exact hQ q (by omega) a2 (fun j b1 b2 => by
        by_cases hj : j = k
        · subst hj; exact g
        · exact a3 j (by omega) b2) a4
    · refine b_Tk_skipBlanks_27 (fun _ => ?_) (fun q => absurd rfl q)
      have h := hQ k (Nat.le_refl _) (by omega) (fun j h1 h2 => by omega) (fun _ => g)
      rw [au_id h4] at h
      exact h
theorem c_Tk_skipBlanks {bt : Nat → Int32} {z p : Nat} (hT : KTp I bt z) (h4 : I 62 4 = nI p) (hp : p ≤ z)
    (hQ : ∀ q, p ≤ q → q ≤ z → (∀ j, p ≤ j → j < q → isBl (bt j)) → (q < z → ¬ isBl (bt q)) → Q none (aw_s (aw_u I 62 4 (nI q)) L D)) : aw_m X (d + 1) y_Tk_skipBlanks [.ref 62] (aw_s I L D) Q := by
  refine aw_go rfl rfl (b_Tk_skipBlanks_0 ?_)
  rw [h4]
  exact l_Tk_skip (z - p) p I (by omega) hT h4 hQ
theorem l_Tk_number {bt : Nat → Int32} {z q len : Nat} (hz : q + len ≤ z) : ∀ (m k : Nat) (I : Nat → Nat → Int32), k + m = min len 3 → KTp I bt z → I 62 7 = nI q → I 62 8 = numV bt q k →
    Q none (aw_s (aw_u I 62 8 (numV bt q (min len 3))) L D) → aw_z X (d + 1) y_Tk_readNumber Q 16 [some (.ref 62), some (.int (nI len)), some (.int (nI k))] [] (aw_s I L D) := by
  intro m
  induction m with
  | zero =>
    intro k I e hT h7 h8 hQ
    have hz := hT.2.1
    have ek : k = min len 3 := by omega
    rw [← ek, au_id h8] at hQ
    refine b_Tk_readNumber_16 (fun _ => hQ) (fun _ _ => hQ) (fun q1 q2 => ?_)
    have c2 : ((3 : Int32) ≤ nI k) = (3 ≤ k) := nI_le' (a := 3) (by decide) (by omega)
    rw [c2] at q2
    rw [nI_leI (by omega) (by omega)] at q1
    omega
  | succ m ih =>
    intro k I e hT h7 h8 hQ
    have hz := hT.2.1
    have c2 : ((3 : Int32) ≤ nI k) = (3 ≤ k) := nI_le' (a := 3) (by decide) (by omega)
    refine b_Tk_readNumber_16 (fun q1 => ?_) (fun q1 q2 => ?_) (fun q1 q2 => ?_)
    · rw [nI_leI (by omega) (by omega)] at q1; omega
    · rw [c2] at q2; omega
    · rw [h7, nI_add]
      refine c_Tp_byteAt hT (by omega) (b_Tk_readNumber_47 ?_)
      rw [nI_1, h8]
      refine ih (k + 1) _ (by omega) (hT.u (by decide) (by decide)) (by rw [au_k (by decide)]; exact h7) (au_s _ _ _ _) ?_
      rw [au_au]
      exact hQ
theorem c_Tk_readNumber {bt : Nat → Int32} {z q len : Nat} (hT : KTp I bt z) (hz : q + len ≤ z) (h7 : I 62 7 = nI q) (h8 : I 62 8 = 0)
    (h : Q none (aw_s (aw_u (aw_u I 62 6 (if len ≤ 3 then 4 else 0)) 62 8 (numV bt q (min len 3))) L D)) : aw_m X (d + 1) y_Tk_readNumber [.ref 62, .int (nI len)] (aw_s I L D) Q := by
  have hz5 := hT.2.1
  have c1 : ((3 : Int32) < nI len) = (3 < len) := nI_lt' (a := 3) (by decide) (by omega)
  have k1 : ∀ v : Int32, v = (if len ≤ 3 then 4 else 0) → aw_z X (d + 1) y_Tk_readNumber Q 16 [some (.ref 62), some (.int (nI len)), some (.int 0)] [] (aw_s (aw_u I 62 6 v) L D) := by
    intro v hv
    refine l_Tk_number hz (min len 3) 0 _ (by omega) (hT.u (by decide) (by decide)) (by rw [au_k (by decide)]; exact h7) (by rw [au_k (by decide)]; exact h8) ?_
    rw [hv]; exact h
  refine aw_go rfl rfl (b_Tk_readNumber_0 (fun q => k1 0 ?_) (fun q => k1 4 ?_))
  · rw [c1] at q; rw [if_neg (by omega)]
  · rw [c1] at q; rw [if_pos (by omega)]
theorem c_Tk_readLetter {x va : Int32} (h8 : I 62 8 = va) (h : ∀ K va', letK x K va' → Q none (aw_s (aw_u (aw_u I 62 6 K) 62 8 va') L D)) : aw_m X d y_Tk_readLetter [.ref 62, .int x] (aw_s I L D) Q := by
  have k33 : (x < 97 ∨ 104 < x) → aw_z X d y_Tk_readLetter Q 33 [some (.ref 62), some (.int x)] [] (aw_s (aw_u I 62 6 0) L D) := by
    intro g
    have no : (x < 112 ∨ 115 < x) → Q none (aw_s (aw_u I 62 6 0) L D) := fun g2 => by
      have := h 0 va (Or.inr (Or.inr ⟨g, g2, rfl⟩))
      rw [au_id (by rw [au_k (by decide)]; exact h8)] at this
      exact this
    refine b_Tk_readLetter_33 (fun q => no (Or.inl q)) (fun _ q => no (Or.inr q)) (fun q1 q2 => ?_)
    rw [au_au]
    exact h 3 (x - 112) (Or.inr (Or.inl ⟨q1, q2, rfl, rfl⟩))
  refine aw_go rfl rfl (b_Tk_readLetter_0 (fun q => k33 (Or.inl q)) (fun _ q => k33 (Or.inr q)) (fun q1 q2 => ?_))
  rw [au_au]
  exact h 2 (x - 97) (Or.inl ⟨q1, q2, rfl, rfl⟩)
theorem l_Tk_kind {bt : Nat → Int32} {z q len : Nat} (hT : KTp I bt z) (h7 : I 62 7 = nI q) (hz : q + len ≤ z) (hl : len ≤ 5) (h1 : ∀ w, w < 12 → wMt bt q len w → Q (some (.int (nI (w + 5)))) (aw_s I L D)) (h0 : (∀ w, w < 12 → ¬ wMt bt q len w) → Q (some (.int 0)) (aw_s I L D)) :
    ∀ (m w : Nat), w + m = 12 → (∀ v, v < w → ¬ wMt bt q len v) → aw_z X (d + 9) y_Tk_kindOfWord Q 9 [some (.ref 62), some (.int (nI len)), some (.int (nI (w + 5)))] [] (aw_s I L D) := by
  intro m
  induction m with
  | zero =>
    intro w e hn
    have c1 : ((16 : Int32) < nI (w + 5)) = (16 < w + 5) := nI_lt' (a := 16) (by decide) (by omega)
    refine b_Tk_kindOfWord_9 (fun _ => h0 (fun v hv => hn v (by omega))) (fun q => ?_)
    rw [c1] at q; omega
  | succ m ih =>
    intro w e hn
    have c1 : ((16 : Int32) < nI (w + 5)) = (16 < w + 5) := nI_lt' (a := 16) (by decide) (by omega)
    refine b_Tk_kindOfWord_9 (fun q => ?_) (fun q => ?_)
    · rw [c1] at q; omega
    · have e1 : (nI (w + 5) - 5) * 5 = nI (5 * w) := by
        rw [show (5 : Int32) = nI 5 from rfl, pk_sub (by omega), pk_mul, show (w + 5 - 5) * 5 = 5 * w by omega]
      rw [e1]
      refine c_Tk_isWord hT h7 hz hl (by omega) (fun g => b_Tk_kindOfWord_25 (fun q => absurd q (by decide)) (fun _ => h1 w (by omega) g)) (fun g => b_Tk_kindOfWord_25 (fun _ => ?_) (fun q => absurd rfl q))
      rw [nI_1]
      exact ih (w + 1) (by omega) (fun v hv => by
        by_cases hvw : v = w
        · subst hvw; exact g
        · exact hn v (by omega))
theorem c_Tk_kindOfWord {bt : Nat → Int32} {z q len : Nat} (hT : KTp I bt z) (h7 : I 62 7 = nI q) (hz : q + len ≤ z) (h5 : 5 < len → Q (some (.int 0)) (aw_s I L D)) (h1 : ∀ w, len ≤ 5 → w < 12 → wMt bt q len w → Q (some (.int (nI (w + 5)))) (aw_s I L D)) (h0 : len ≤ 5 → (∀ w, w < 12 → ¬ wMt bt q len w) → Q (some (.int 0)) (aw_s I L D)) :
    aw_m X (d + 9) y_Tk_kindOfWord [.ref 62, .int (nI len)] (aw_s I L D) Q := by
  have hz5 := hT.2.1
  have c1 : (nI len ≤ (5 : Int32)) = (len ≤ 5) := nI_le' (b := 5) (by omega) (by decide)
  refine aw_go rfl rfl (b_Tk_kindOfWord_0 (fun g => ?_) (fun g => ?_))
  · rw [c1] at g
    exact l_Tk_kind hT h7 hz g (fun w => h1 w g) (h0 g) 12 0 rfl (fun v hv => by omega)
  · rw [c1] at g; exact h5 (by omega)
theorem l_Tk_word {bt : Nat → Int32} {z q : Nat} (h7v : q < z) (how : isOw (bt q))
    (hQ : ∀ e K va I', q < e → e ≤ z → (∀ j, q ≤ j → j < e → isOw (bt j)) → (e < z → ¬ isOw (bt e)) → tkW bt q e K va → (∀ o, o ≠ 62 → I' o = I o) → (∀ k, k ≠ 4 → k ≠ 6 → k ≠ 8 → I' 62 k = I 62 k) → I' 62 4 = nI e → I' 62 6 = K → I' 62 8 = va → Q none (aw_s I' L D)) (hT0 : KTp I bt z) (h70 : I 62 7 = nI q) (h80 : I 62 8 = 0) :
    ∀ (m i : Nat) (I1 : Nat → Nat → Int32), i + m = z → q ≤ i → (∀ j, q ≤ j → j < i → isOw (bt j)) → (∀ o, o ≠ 62 → I1 o = I o) → (∀ k, k ≠ 4 → I1 62 k = I 62 k) → I1 62 4 = nI i →
      aw_z X (d + 10) y_Tk_readWord Q 7 [some (.ref 62), some (.int (nI (dgc bt q (i - q)))), some (.int (nI i))] [] (aw_s I1 L D) := by
  have fin : ∀ (e : Nat) (I1 : Nat → Nat → Int32), q < e → e ≤ z → (∀ j, q ≤ j → j < e → isOw (bt j)) → (e < z → ¬ isOw (bt e)) → (∀ o, o ≠ 62 → I1 o = I o) → (∀ k, k ≠ 4 → I1 62 k = I 62 k) → I1 62 4 = nI e →
      aw_z X (d + 10) y_Tk_readWord Q 62 [some (.ref 62), some (.int (nI (dgc bt q (e - q)))), none] [] (aw_s I1 L D) := by
    intro e I1 h1 h2 h3 h4 f1 f2 f3
    have hz := hT0.2.1
    have hT : KTp I1 bt z := ⟨by rw [f1 2 (by decide)]; exact hT0.1, hT0.2.1, fun j hj => by rw [f1 3 (by decide)]; exact hT0.2.2 j hj⟩
    have g7 : I1 62 7 = nI q := by rw [f2 7 (by decide)]; exact h70
    have g8 : I1 62 8 = 0 := by rw [f2 8 (by decide)]; exact h80
    have hd := dgc_le bt q (e - q)
    have eS : I1 62 4 - I1 62 7 = nI (e - q) := by rw [f3, g7, pk_sub (by omega)]
    have qj : ∀ j, q ≤ j → q + (j - q) = j := fun j h => by omega
    have B0 := @b_Tk_readWord_62 X (d + 9) Q I1 L D (nI (dgc bt q (e - q)))
    have c1 : (nI (dgc bt q (e - q)) = nI (e - q)) = (dgc bt q (e - q) = e - q) := nI_eq' (by omega) (by omega)
    have c2 : (nI (dgc bt q (e - q)) ≤ 0) = (dgc bt q (e - q) ≤ 0) := nI_le' (b := 0) (by omega) (by decide)
    have c3 : (nI (e - q) = 1) = (e - q = 1) := nI_eq' (b := 1) (by omega) (by decide)
    rw [eS, c1, c2, c3, g7] at B0
    have done : ∀ K va I', tkW bt q e K va → (∀ o, o ≠ 62 → I' o = I1 o) → (∀ k, k ≠ 4 → k ≠ 6 → k ≠ 8 → I' 62 k = I1 62 k) → I' 62 4 = nI e → I' 62 6 = K → I' 62 8 = va → Q none (aw_s I' L D) :=
      fun K va I' a1 a2 a3 a4 a5 a6 => hQ e K va I' h1 h2 h3 h4 a1 (fun o h => (a2 o h).trans (f1 o h)) (fun k x y z => (a3 k x y z).trans (f2 k x)) a4 a5 a6
    refine B0 (fun n1 n2 n3 => ?_) (fun n1 n2 n3 => ?_) (fun n1 n2 => ?_) (fun n1 => ?_)
    · have nd : ∀ j, q ≤ j → j < e → ¬ isDg (bt j) := fun j x y => by
        have := dgc_none bt q (e - q) (by omega) (j - q) (by omega)
        rw [qj j x] at this
        exact this
      have out : ∀ K, tkW bt q e K 0 → aw_z X (d + 10) y_Tk_readWord Q 126 [none, none, none] [.int K, .ref 62] (aw_s I1 L D) := fun K hK => b_Tk_readWord_126 (done K 0 _ hK (fun o h => au_o h) (fun k x y z => au_k y) (by rw [au_k (by decide)]; exact f3) (au_s _ _ _ _) (by rw [au_k (by decide)]; exact g8))
      refine c_Tk_kindOfWord hT g7 (by omega) (fun g => out 0 (Or.inr (Or.inr ⟨nd, Or.inr (Or.inl ⟨g, rfl⟩)⟩))) (fun w g gw gm => out _ (Or.inr (Or.inr ⟨nd, Or.inr (Or.inr ⟨by omega, g, Or.inl ⟨w, gw, gm, rfl, rfl⟩⟩)⟩))) (fun g gn => out 0 (Or.inr (Or.inr ⟨nd, Or.inr (Or.inr ⟨by omega, g, Or.inr ⟨rfl, gn⟩⟩)⟩)))
    · have nd : ∀ j, q ≤ j → j < e → ¬ isDg (bt j) := fun j x y => by
        have := dgc_none bt q (e - q) (by omega) (j - q) (by omega)
        rw [qj j x] at this
        exact this
      refine c_Tp_byteAt hT h7v (b_Tk_readWord_114 (c_Tk_readLetter g8 (fun K va hK => b_Tk_readWord_117 ?_)))
      exact done K va _ (Or.inr (Or.inr ⟨nd, Or.inl ⟨by omega, hK⟩⟩)) (fun o h => by rw [au_o h, au_o h]) (fun k x y z => by rw [au_k z, au_k y]) (by rw [au_k (by decide), au_k (by decide)]; exact f3) (by rw [au_k (by decide), au_s]) (au_s _ _ _ _)
    · obtain ⟨j1, a1, a2⟩ := dgc_ex bt q (e - q) (by omega)
      obtain ⟨j2, b1, b2⟩ := dgc_exn bt q (e - q) (by omega)
      exact done 0 0 _ (Or.inr (Or.inl ⟨⟨q + j1, by omega, by omega, a2⟩, ⟨q + j2, by omega, by omega, b2⟩, rfl⟩)) (fun o h => au_o h) (fun k x y z => au_k y) (by rw [au_k (by decide)]; exact f3) (au_s _ _ _ _) (by rw [au_k (by decide)]; exact g8)
    · have ad : ∀ j, q ≤ j → j < e → isDg (bt j) := fun j x y => by
        have := dgc_all bt q (e - q) n1 (j - q) (by omega)
        rw [qj j x] at this
        exact this
      refine c_Tk_readNumber hT (by omega) g7 g8 (b_Tk_readWord_82 (done (if e - q ≤ 3 then 4 else 0) (numV bt q (min (e - q) 3)) _ (Or.inl ⟨ad, ?_⟩) (fun o h => by rw [au_o h, au_o h]) (fun k x y z => by rw [au_k z, au_k y]) (by rw [au_k (by decide), au_k (by decide)]; exact f3) (by rw [au_k (by decide), au_s]) (au_s _ _ _ _)))
      by_cases g : e - q ≤ 3
      · exact Or.inl ⟨g, if_pos g, by rw [Nat.min_eq_left g]⟩
      · exact Or.inr ⟨by omega, if_neg g⟩
  intro m
  induction m with
  | zero =>
    intro i I1 e hqi how1 f1 f2 f3
    have hz := hT0.2.1
    have ez : i = z := by omega
    have hT : KTp I1 bt z := ⟨by rw [f1 2 (by decide)]; exact hT0.1, hT0.2.1, fun j hj => by rw [f1 3 (by decide)]; exact hT0.2.2 j hj⟩
    refine b_Tk_readWord_7 (fun _ => fin i I1 (by omega) (by omega) how1 (fun h => by omega) f1 f2 f3) (fun g => ?_)
    rw [hT.1, nI_leI (by omega) (by omega)] at g
    omega
  | succ m ih =>
    intro i I1 e hqi how1 f1 f2 f3
    have hz := hT0.2.1
    have hT : KTp I1 bt z := ⟨by rw [f1 2 (by decide)]; exact hT0.1, hT0.2.1, fun j hj => by rw [f1 3 (by decide)]; exact hT0.2.2 j hj⟩
    refine b_Tk_readWord_7 (fun g => ?_) (fun _ => c_Tp_byteAt hT (by omega) (b_Tk_readWord_26 (c_Tk_isOfWord (fun g => b_Tk_readWord_29 (fun q => absurd q (by decide)) (fun _ => ?_)) (fun g => b_Tk_readWord_29 (fun _ => ?_) (fun q => absurd rfl q)))))
    · rw [hT.1, nI_leI (by omega) (by omega)] at g
      omega
    · have e1 : q + (i - q) = i := by omega
      have e2 : i + 1 - q = (i - q) + 1 := by omega
      have nxt : ∀ v : Nat, v = dgc bt q (i + 1 - q) → aw_z X (d + 10) y_Tk_readWord Q 49 [some (.ref 62), some (.int (nI v)), some (.int (nI i))] [] (aw_s I1 L D) := by
        intro v hv
        refine b_Tk_readWord_49 ?_
        rw [nI_1, hv]
        refine ih (i + 1) _ (by omega) (by omega) (fun j x y => ?_) (fun o h => by rw [au_o h]; exact f1 o h) (fun k h => by rw [au_k h]; exact f2 k h) (au_s _ _ _ _)
        by_cases hj : j = i
        · subst hj; exact g
        · exact how1 j x (by omega)
      refine c_Tp_byteAt hT (by omega) (b_Tk_readWord_40 (c_Tk_isDigit (fun g2 => b_Tk_readWord_43 (fun q => absurd q (by decide)) (fun _ => ?_)) (fun g2 => b_Tk_readWord_43 (fun _ => nxt _ ?_) (fun q => absurd rfl q))))
      · rw [nI_1]
        refine nxt _ ?_
        rw [e2]; simp only [dgc]; rw [e1, if_pos g2]
      · rw [e2]; simp only [dgc]; rw [e1, if_neg g2]; rfl
    · have hne : i ≠ q := fun h => by subst h; exact g how
      exact fin i I1 (by omega) (by omega) how1 (fun _ => g) f1 f2 f3
theorem c_Tk_readWord {bt : Nat → Int32} {z q : Nat} (h7v : q < z) (how : isOw (bt q)) (hT : KTp I bt z) (h7 : I 62 7 = nI q) (h8 : I 62 8 = 0) (h4 : I 62 4 = nI q)
    (hQ : ∀ e K va I', q < e → e ≤ z → (∀ j, q ≤ j → j < e → isOw (bt j)) → (e < z → ¬ isOw (bt e)) → tkW bt q e K va → (∀ o, o ≠ 62 → I' o = I o) → (∀ k, k ≠ 4 → k ≠ 6 → k ≠ 8 → I' 62 k = I 62 k) → I' 62 4 = nI e → I' 62 6 = K → I' 62 8 = va → Q none (aw_s I' L D)) :
    aw_m X (d + 10) y_Tk_readWord [.ref 62] (aw_s I L D) Q := by
  refine aw_go rfl rfl (b_Tk_readWord_0 ?_)
  rw [h7]
  have := l_Tk_word (d := d) (X := X) (L := L) (D := D) h7v how hQ hT h7 h8 (z - q) q I (by omega) (Nat.le_refl _) (fun j x y => by omega) (fun _ _ => rfl) (fun _ _ => rfl) h4
  rw [Nat.sub_self] at this
  exact this
theorem c_Tk_readToken {bt : Nat → Int32} {z p : Nat} (hT : KTp I bt z) (h4 : I 62 4 = nI p) (hp : p ≤ z)
    (hQ : ∀ nx K va pl I', isTok bt z p K va pl nx → (∀ o, o ≠ 62 → I' o = I o) → (∀ k, k ≠ 4 → k ≠ 6 → k ≠ 7 → k ≠ 8 → I' 62 k = I 62 k) → I' 62 4 = nI nx → I' 62 6 = K → I' 62 7 = nI pl → I' 62 8 = va → Q none (aw_s I' L D)) :
    aw_m X (d + 11) y_Tk_readToken [.ref 62] (aw_s I L D) Q := by
  have hz := hT.2.1
  refine aw_go rfl rfl (b_Tk_readToken_0 (c_Tk_skipBlanks hT h4 hp (fun q a1 a2 a3 a4 => ?_)))
  have c1 : (nI q < (500 : Int32)) = (q < 500) := nI_lt' (b := 500) (by omega) (by decide)
  have c2 : (nI z ≤ (500 : Int32)) = (z ≤ 500) := nI_le' (b := 500) (by omega) (by decide)
  have t1 : aw_u I 62 4 (nI q) 2 1 = nI z := by rw [au_o (by decide)]; exact hT.1
  have t4 : aw_u I 62 4 (nI q) 62 4 = nI q := au_s _ _ _ _
  have B0 := @b_Tk_readToken_4 X (d + 10) Q (aw_u I 62 4 (nI q)) L D
  rw [t1, t4, c1, c2] at B0
  generalize eI1 : aw_u (aw_u (aw_u I 62 4 (nI q)) 62 7 (nI q)) 62 8 0 = I1 at B0
  have f1 : ∀ o, o ≠ 62 → I1 o = I o := fun o h => by rw [← eI1, au_o h, au_o h, au_o h]
  have f2 : ∀ k, k ≠ 4 → k ≠ 6 → k ≠ 7 → k ≠ 8 → I1 62 k = I 62 k := fun k x y z w => by rw [← eI1, au_k w, au_k z, au_k x]
  have g4 : I1 62 4 = nI q := by rw [← eI1, au_k (by decide), au_k (by decide), au_s]
  have g7 : I1 62 7 = nI q := by rw [← eI1, au_k (by decide), au_s]
  have g8 : I1 62 8 = 0 := by rw [← eI1, au_s]
  have hT1 : KTp I1 bt z := ⟨by rw [f1 2 (by decide)]; exact hT.1, hT.2.1, fun j hj => by rw [f1 3 (by decide)]; exact hT.2.2 j hj⟩
  have k55 : (q < 500 ∨ z ≤ 500) → aw_z X (d + 11) y_Tk_readToken Q 55 [some (.ref 62)] [] (aw_s I1 L D) := by
    intro h5
    have B1 := @b_Tk_readToken_55 X (d + 10) Q I1 L D
    rw [g4, hT1.1, nI_ltI (by omega) (by omega)] at B1
    refine B1 (fun hq => c_Tp_byteAt hT1 hq (b_Tk_readToken_88 (c_Tk_isOfWord (fun g => b_Tk_readToken_91 (fun q => absurd q (by decide)) (fun _ => ?_)) (fun g => b_Tk_readToken_91 (fun _ => ?_) (fun q => absurd rfl q))))) (fun hq => b_Tk_readToken_105 ?_)
    · refine c_Tk_readWord hq g hT1 g7 g8 g4 (fun e K va I' b1 b2 b3 b4 b5 b6 b7 b8 b9 b10 => b_Tk_readToken_98 (b_Tk_readToken_105 ?_))
      exact hQ e K va q I' ⟨q, a1, a2, a3, a4, Or.inr (Or.inr (Or.inr ⟨h5, hq, g, rfl, b1, b2, b3, b4, b5⟩))⟩ (fun o h => (b6 o h).trans (f1 o h)) (fun k x y z w => (b7 k x y w).trans (f2 k x y z w)) b8 b9 (by rw [b7 7 (by decide) (by decide) (by decide)]; exact g7) b10
    · refine c_Tk_readSign hT1 g4 hq (b_Tk_readToken_105 ?_)
      exact hQ (q + 1) (if bt q ∈ mks then bt q else 0) 0 q _ ⟨q, a1, a2, a3, a4, Or.inr (Or.inr (Or.inl ⟨h5, hq, g, rfl, rfl, rfl⟩))⟩ (fun o h => by rw [au_o h, au_o h]; exact f1 o h) (fun k x y z w => by rw [au_k x, au_k y]; exact f2 k x y z w) (au_s _ _ _ _) (by rw [au_k (by decide), au_s]) (by rw [au_k (by decide), au_k (by decide)]; exact g7) (by rw [au_k (by decide), au_k (by decide)]; exact g8)
    · exact hQ q 1 0 q _ ⟨q, a1, a2, a3, a4, Or.inr (Or.inl ⟨h5, by omega, rfl, rfl, rfl⟩)⟩ (fun o h => by rw [au_o h]; exact f1 o h) (fun k x y z w => by rw [au_k y]; exact f2 k x y z w) (by rw [au_k (by decide)]; exact g4) (au_s _ _ _ _) (by rw [au_k (by decide)]; exact g7) (by rw [au_k (by decide)]; exact g8)
  refine B0 (fun h => k55 (Or.inl h)) (fun _ h => k55 (Or.inr h)) (fun h1 h2 => b_Tk_readToken_105 ?_)
  exact hQ q 0 0 500 _ ⟨q, a1, a2, a3, a4, Or.inl ⟨by omega, by omega, rfl, rfl, rfl⟩⟩ (fun o h => by rw [au_o h, au_o h]; exact f1 o h) (fun k x y z w => by rw [au_k y, au_k z]; exact f2 k x y z w) (by rw [au_k (by decide), au_k (by decide)]; exact g4) (au_s _ _ _ _) (by rw [au_k (by decide), au_s]; rfl) (by rw [au_k (by decide), au_k (by decide)]; exact g8)
end KLEX
