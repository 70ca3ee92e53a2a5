/-! PART h3: the bytes lie on the tape alone -/
theorem tp4_at {f : Nat → Int32} {n b : Nat} {w : Int32} (hb : b < 4) : tp4 f n w (n + b) = byt w b := by
  unfold tp4
  rcases (show b = 0 ∨ b = 1 ∨ b = 2 ∨ b = 3 by omega) with rfl | rfl | rfl | rfl
  · rw [up_n _ _ (by omega), up_n _ _ (by omega), up_n _ _ (by omega), Nat.add_zero, up_s]; rfl
  · rw [up_n _ _ (by omega), up_n _ _ (by omega), up_s]; rfl
  · rw [up_n _ _ (by omega), up_s]; rfl
  · rw [up_s]; rfl
theorem tp20_at {f g : Nat → Int32} {k : Nat} {v1 v2 v3 v4 v5 : Int32} (hg : g k = v1 ∧ g (k + 1) = v2 ∧ g (k + 2) = v3 ∧ g (k + 3) = v4 ∧ g (k + 4) = v5) : ∀ j, 4 * k ≤ j → j < 4 * k + 20 → tp20 f (4 * k) v1 v2 v3 v4 v5 j = byt (g (j / 4)) (j % 4) := fun j h1 h2 => by
  obtain ⟨rfl, rfl, rfl, rfl, rfl⟩ := hg
  have ej : ∀ q, j / 4 = q → j = 4 * q + j % 4 := fun q e => by omega
  have m4 : j % 4 < 4 := Nat.mod_lt _ (by decide)
  unfold tp20
  rcases (show j / 4 = k ∨ j / 4 = k + 1 ∨ j / 4 = k + 2 ∨ j / 4 = k + 3 ∨ j / 4 = k + 4 by omega) with e | e | e | e | e
  · rw [tp4_lo (by omega), tp4_lo (by omega), tp4_lo (by omega), tp4_lo (by omega), e]
    have := tp4_at (f := f) (n := 4 * k) (w := g k) m4
    rw [← ej k e] at this; exact this
  · rw [tp4_lo (by omega), tp4_lo (by omega), tp4_lo (by omega), e]
    have := tp4_at (f := tp4 f (4 * k) (g k)) (n := 4 * k + 4) (w := g (k + 1)) m4
    rw [show 4 * k + 4 + j % 4 = j by omega] at this; exact this
  · rw [tp4_lo (by omega), tp4_lo (by omega), e]
    have := tp4_at (f := tp4 (tp4 f (4 * k) (g k)) (4 * k + 4) (g (k + 1))) (n := 4 * k + 8) (w := g (k + 2)) m4
    rw [show 4 * k + 8 + j % 4 = j by omega] at this; exact this
  · rw [tp4_lo (by omega), e]
    have := tp4_at (f := tp4 (tp4 (tp4 f (4 * k) (g k)) (4 * k + 4) (g (k + 1))) (4 * k + 8) (g (k + 2))) (n := 4 * k + 12) (w := g (k + 3)) m4
    rw [show 4 * k + 12 + j % 4 = j by omega] at this; exact this
  · rw [e]
    have := tp4_at (f := tp4 (tp4 (tp4 (tp4 f (4 * k) (g k)) (4 * k + 4) (g (k + 1))) (4 * k + 8) (g (k + 2))) (4 * k + 12) (g (k + 3))) (n := 4 * k + 16) (w := g (k + 4)) m4
    rw [show 4 * k + 16 + j % 4 = j by omega] at this; exact this
section LIES
variable {X : aw_X} {d : Nat} {Q : Option Value → aw_H → Prop} {I : Nat → Nat → Int32} {L : Nat → Nat → Int64} {D : Nat → Nat} {tx : List Nat}
theorem c_AW_end {z m : Nat} (h : I 2 1 = nI z) (hz : z ≤ 540) (hm : m ≤ z) (hQ : Q (some (.int 1)) (aw_s (aw_u I 2 1 (nI m)) L D)) : aw_m X (d + 1) y_AW_end [.ref 0, .int (nI m)] (aw_s I L D) Q := by
  have B0 := @b_Tp_cut_0 X d (fun r A => aw_z X (d + 1) y_AW_end Q 8 [none, none] (r.toList ++ []) A) I L D (nI m)
  rw [h] at B0
  have c0 : ¬ nI m < 0 := nI_pos (by omega)
  have c1 : nI m ≤ nI z := nI_le hm (by omega)
  exact aw_go rfl rfl (b_AW_end_0 (aw_go rfl rfl (B0 (fun a => absurd a c0) (fun _ _ => b_AW_end_8 (Or.inr rfl) hQ) (fun _ b => absurd c1 b))))
/-- the words as they are fed -/
def wdF (I : Nat → Nat → Int32) (i : Nat) : Int32 := if i < 64 then I 69 i else 0
theorem l_lies {I0 : Nat → Nat → Int32} (hT : Tx I0 tx) (hQ : ∀ I', (∀ o k, o ≠ 3 → ¬ (o = 2 ∧ k = 1) → I' o k = I0 o k) → I' 2 1 = nI tx.length → (∀ j, j < tx.length → I' 3 j = nI (tx.getD j 0)) → Q (some (.int 1)) (aw_s I' L D)) :
    ∀ (m k : Nat) (I : Nat → Nat → Int32), k + 5 * m = 70 → (∀ o k, o ≠ 3 → ¬ (o = 2 ∧ k = 1) → I o k = I0 o k) → I 2 1 = nI (4 * k) → (∀ j, j < 4 * k → I 3 j = byt (wdF I0 (j / 4)) (j % 4)) →
      aw_z X (d + 2) y_Law_lies Q 12 [some (.ref 0), some (.ref 69), some (.int (nI tx.length)), some (.int (nI k))] [] (aw_s I L D) := by
  intro m
  induction m with
  | zero =>
    intro k I e hf h1 h3
    have : k = 70 := by omega
    subst this
    have l5 := hT.1
    have c : nI tx.length ≤ (4 : Int32) * nI 70 := by rw [show (4 : Int32) = nI 4 from rfl, pk_mul, nI_leI (by omega) (by decide)]; omega
    refine b_Law_lies_12 (fun _ => c_AW_end h1 (by decide) (by omega) (b_Law_lies_110 (Or.inr rfl) (hQ _ (fun o k a b => by rw [au_ok (by omega)]; exact hf o k a b) (au_s _ _ _ _) (fun j hj => ?_)))) (fun q => absurd c q) (fun q => absurd c q) (fun q => absurd c q) (fun q => absurd c q)
    rw [au_o (by decide), h3 j (by omega)]
    unfold wdF
    rw [if_pos (by omega)]
    exact hT.2 j hj
  | succ m ih =>
    intro k I e hf h1 h3
    have l5 := hT.1
    have m4 : (4 : Int32) * nI k = nI (4 * k) := by rw [show (4 : Int32) = nI 4 from rfl, pk_mul]
    by_cases g : tx.length ≤ 4 * k
    · have c : nI tx.length ≤ (4 : Int32) * nI k := by rw [m4, nI_leI (by omega) (by omega)]; omega
      refine b_Law_lies_12 (fun _ => c_AW_end h1 (by omega) (by omega) (b_Law_lies_110 (Or.inr rfl) (hQ _ (fun o k a b => by rw [au_ok (by omega)]; exact hf o k a b) (au_s _ _ _ _) (fun j hj => ?_)))) (fun q => absurd c q) (fun q => absurd c q) (fun q => absurd c q) (fun q => absurd c q)
      rw [au_o (by decide), h3 j (by omega)]
      unfold wdF
      rw [if_pos (by omega)]
      exact hT.2 j hj
    · have c : ¬ nI tx.length ≤ (4 : Int32) * nI k := by rw [m4, nI_leI (by omega) (by omega)]; omega
      have k64 : k < 64 := by omega
      have i69 : I 69 = I0 69 := funext fun x => hf 69 x (by decide) (by omega)
      have ad : ∀ i, nI k + nI i = nI (k + i) := fun i => nI_add k i
      have cc : ∀ i, i < 10 → ((64 : Int32) ≤ nI k + nI i) = (64 ≤ k + i) := fun i hi => by
        rw [ad, show (64 : Int32) = nI 64 from rfl]; exact propext (nI_leI (by decide) (by omega))
      -- behind the fifth word
      have k91 : aw_z X (d + 2) y_Law_lies Q 91 [some (.ref 0), some (.ref 69), some (.int (nI tx.length)), some (.int (nI k))] [.int (wdF I0 (k + 4)), .int (wdF I0 (k + 3)), .int (wdF I0 (k + 2)), .int (wdF I0 (k + 1)), .int (wdF I0 k), .ref 0] (aw_s I L D) := by
        refine b_Law_lies_91 (c_AW_feed (d := d) (z := 4 * k) (by omega) h1 (fun _ I1 a1 b1 f1 => ?_) (fun q => absurd (by omega) q))
        have p : 0 ≤ nI (4 * k + 20) := nI_pos' (by omega)
        refine b_Law_lies_94 (fun _ => ?_) (fun q => absurd p q)
        rw [show nI k + (5 : Int32) = nI (k + 5) from ad 5]
        refine ih (k + 5) I1 (by omega) (fun o x a b => (f1 o x a b).trans (hf o x a b)) (by rw [b1]; exact congrArg nI (by omega)) (fun j hj => ?_)
        rw [a1]
        by_cases q : j < 4 * k
        · unfold tp20
          rw [tp4_lo (by omega), tp4_lo (by omega), tp4_lo (by omega), tp4_lo (by omega), tp4_lo q]
          exact h3 j q
        · exact tp20_at (g := wdF I0) ⟨rfl, rfl, rfl, rfl, rfl⟩ j (by omega) (by omega)
      have wlo : ∀ i, k + i < 64 → wdF I0 (k + i) = I 69 (k + i) := fun i hi => by unfold wdF; rw [if_pos hi, i69]
      have whi : ∀ i, 64 ≤ k + i → wdF I0 (k + i) = 0 := fun i hi => by unfold wdF; rw [if_neg (by omega)]
      have k74 : aw_z X (d + 2) y_Law_lies Q 74 [some (.ref 0), some (.ref 69), some (.int (nI tx.length)), some (.int (nI k))] [.int (wdF I0 (k + 3)), .int (wdF I0 (k + 2)), .int (wdF I0 (k + 1)), .int (wdF I0 k), .ref 0] (aw_s I L D) := by
        refine b_Law_lies_74 (fun q => ?_) (fun q => ?_) (fun q => ?_)
        · rw [show ((64 : Int32) ≤ nI k + 4) = (64 ≤ k + 4) from cc 4 (by decide)] at q; rw [← whi 4 q]; exact k91
        · rw [show ((64 : Int32) ≤ nI k + 4) = (64 ≤ k + 4) from cc 4 (by decide)] at q; rw [show nI k + (4 : Int32) = nI (k + 4) from ad 4]; exact aw_in_nI (by omega) (by decide)
        · rw [show ((64 : Int32) ≤ nI k + 4) = (64 ≤ k + 4) from cc 4 (by decide)] at q; rw [show nI k + (4 : Int32) = nI (k + 4) from ad 4, nI_clamp (by omega), ← wlo 4 (by omega)]; exact k91
      have k57 : aw_z X (d + 2) y_Law_lies Q 57 [some (.ref 0), some (.ref 69), some (.int (nI tx.length)), some (.int (nI k))] [.int (wdF I0 (k + 2)), .int (wdF I0 (k + 1)), .int (wdF I0 k), .ref 0] (aw_s I L D) := by
        refine b_Law_lies_57 (fun q => ?_) (fun q => ?_) (fun q => ?_)
        · rw [show ((64 : Int32) ≤ nI k + 3) = (64 ≤ k + 3) from cc 3 (by decide)] at q; rw [← whi 3 q]; exact k74
        · rw [show ((64 : Int32) ≤ nI k + 3) = (64 ≤ k + 3) from cc 3 (by decide)] at q; rw [show nI k + (3 : Int32) = nI (k + 3) from ad 3]; exact aw_in_nI (by omega) (by decide)
        · rw [show ((64 : Int32) ≤ nI k + 3) = (64 ≤ k + 3) from cc 3 (by decide)] at q; rw [show nI k + (3 : Int32) = nI (k + 3) from ad 3, nI_clamp (by omega), ← wlo 3 (by omega)]; exact k74
      have k40 : aw_z X (d + 2) y_Law_lies Q 40 [some (.ref 0), some (.ref 69), some (.int (nI tx.length)), some (.int (nI k))] [.int (wdF I0 (k + 1)), .int (wdF I0 k), .ref 0] (aw_s I L D) := by
        refine b_Law_lies_40 (fun q => ?_) (fun q => ?_) (fun q => ?_)
        · rw [show ((64 : Int32) ≤ nI k + 2) = (64 ≤ k + 2) from cc 2 (by decide)] at q; rw [← whi 2 q]; exact k57
        · rw [show ((64 : Int32) ≤ nI k + 2) = (64 ≤ k + 2) from cc 2 (by decide)] at q; rw [show nI k + (2 : Int32) = nI (k + 2) from ad 2]; exact aw_in_nI (by omega) (by decide)
        · rw [show ((64 : Int32) ≤ nI k + 2) = (64 ≤ k + 2) from cc 2 (by decide)] at q; rw [show nI k + (2 : Int32) = nI (k + 2) from ad 2, nI_clamp (by omega), ← wlo 2 (by omega)]; exact k57
      have w0 : I 69 (nI k).toNatClampNeg = wdF I0 k := by rw [nI_clamp (by omega)]; exact (wlo 0 k64).symm
      refine b_Law_lies_12 (fun q => absurd q c) (fun _ => aw_in_nI k64 (by decide)) (fun _ q => ?_) (fun _ q => ?_) (fun _ q => ?_)
      · rw [show ((64 : Int32) ≤ nI k + 1) = (64 ≤ k + 1) from cc 1 (by decide)] at q; rw [w0, ← whi 1 q]; exact k40
      · rw [show ((64 : Int32) ≤ nI k + 1) = (64 ≤ k + 1) from cc 1 (by decide)] at q; rw [show nI k + (1 : Int32) = nI (k + 1) from ad 1]; exact aw_in_nI (by omega) (by decide)
      · rw [show ((64 : Int32) ≤ nI k + 1) = (64 ≤ k + 1) from cc 1 (by decide)] at q; rw [w0, show nI k + (1 : Int32) = nI (k + 1) from ad 1, nI_clamp (by omega), ← wlo 1 (by omega)]; exact k40
theorem c_Law_lies {z : Nat} (hT : Tx I tx) (hz : z ≤ 540) (h1 : I 2 1 = nI z) (hQ : ∀ I', (∀ o k, o ≠ 3 → ¬ (o = 2 ∧ k = 1) → I' o k = I o k) → I' 2 1 = nI tx.length → (∀ j, j < tx.length → I' 3 j = nI (tx.getD j 0)) → Q (some (.int 1)) (aw_s I' L D)) :
    aw_m X (d + 2) y_Law_lies [.ref 0, .ref 69, .int (nI tx.length)] (aw_s I L D) Q := by
  have c : ¬ (1 : Int32) = 0 := by decide
  refine aw_go rfl rfl (b_Law_lies_0 (c_AW_end (m := 0) h1 hz (Nat.zero_le _) (b_Law_lies_5 (fun _ => ?_) (fun q => absurd q c))))
  refine l_lies (I0 := aw_u I 2 1 (nI 0)) ⟨hT.1, fun j hj => by rw [au_o (by decide)]; exact hT.2 j hj⟩ (fun I' f => hQ I' (fun o k a b => by rw [f o k a b, au_ok (by omega)])) 14 0 _ rfl (fun _ _ _ _ => rfl) (au_s _ _ _ _) (fun j hj => absurd hj (by omega))
end LIES
