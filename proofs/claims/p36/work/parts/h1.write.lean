/-! PART h1: the law's add and number -/
def TxF (I0 I : Nat → Nat → Int32) (tx : List Nat) : Prop := Tx I tx ∧ ∀ o, o ≠ 69 → I o = I0 o
section WRT
variable {X : aw_X} {d : Nat} {Q : Option Value → aw_H → Prop} {I0 I : Nat → Nat → Int32} {L : Nat → Nat → Int64} {D : Nat → Nat} {tx : List Nat}
theorem c_Law_putF {c : Nat} {v : Int32} (h : TxF I0 I tx) (hc : c < 256) (hv : v = nI c) (hl : tx.length < 250) (hQ : ∀ I', TxF I0 I' (tx ++ [c]) → Q (some (.int (nI (tx ++ [c]).length))) (aw_s I' L D)) : aw_m X d y_Law_put [.ref 69, .int (nI tx.length), .int v] (aw_s I L D) Q :=
  c_Law_put h.1 hl hc hv (fun I' g f => hQ I' ⟨g, fun o ho => (f o ho).trans (h.2 o ho)⟩)
/-- a word's bytes, the highest first -/
def wBy (w : Int64) (bs : List Nat) : Prop := ∀ i, i < 8 → ((w >>> ((nI (56 - 8 * i)).toInt64 &&& 63)).toInt32 &&& 255) = nI (bs.getD i 0) ∧ bs.getD i 0 < 128
theorem v5_s : ∀ i, i < 8 → nI 56 - nI (8 * i) + (-8) = nI 56 - nI (8 * (i + 1)) := by decide +kernel
theorem l_Law_add {w : Int64} {bs : List Nat} (hw : wBy w bs) (h8 : bs.length = 8) : ∀ (m i : Nat) (tx : List Nat) (I : Nat → Nat → Int32), i + m = 8 → TxF I0 I tx → tx.length + m ≤ 250 → (∀ I', TxF I0 I' (tx ++ (bs.drop i).filter (fun b => b != 0)) → Q (some (.int (nI (tx ++ (bs.drop i).filter (fun b => b != 0)).length))) (aw_s I' L D)) →
    aw_z X (d + 1) y_Law_add Q 7 [some (.ref 69), none, some (.long w), none, some (.int (nI tx.length)), some (.int (nI 56 - nI (8 * i))), none] [] (aw_s I L D) := by
  intro m
  induction m with
  | zero =>
    intro i tx I e hT hl hQ
    have : i = 8 := by omega
    subst this
    rw [List.drop_of_length_le (by omega)] at hQ
    simp only [List.filter_nil, List.append_nil] at hQ
    have lt : nI 56 - nI (8 * 8) < 0 := by decide +kernel
    exact b_Law_add_7 (fun _ => hQ I hT) (fun q => absurd lt q) (fun q => absurd lt q)
  | succ m ih =>
    intro i tx I e hT hl hQ
    have e5 : nI 56 - nI (8 * i) = nI (56 - 8 * i) := pk_sub (by omega)
    have n5 : ¬ nI 56 - nI (8 * i) < 0 := by rw [e5]; exact nI_pos (by omega)
    obtain ⟨w1, w2⟩ := hw i (by omega)
    have w1 : ((w >>> ((nI 56 - nI (8 * i)).toInt64 &&& 63)).toInt32 &&& 255) = nI (bs.getD i 0) := by rw [e5]; exact w1
    have dr : bs.drop i = bs.getD i 0 :: bs.drop (i + 1) := by
      rw [List.drop_eq_getElem_cons (show i < bs.length by omega), List.getD_eq_getElem?_getD, List.getElem?_eq_getElem (show i < bs.length by omega)]; rfl
    by_cases g : bs.getD i 0 = 0
    · have c0 : ((w >>> ((nI 56 - nI (8 * i)).toInt64 &&& 63)).toInt32 &&& 255) ≤ 0 := by rw [w1, g]; decide
      refine b_Law_add_7 (fun q => absurd q n5) (fun _ _ => ?_) (fun _ q => absurd c0 q)
      rw [v5_s i (by omega)]
      refine ih (i + 1) tx I (by omega) hT (by omega) (fun I' h' => ?_)
      have := hQ I'
      rw [dr, List.filter_cons_of_neg (by rw [g]; decide)] at this
      exact this h'
    · have c0 : ¬ ((w >>> ((nI 56 - nI (8 * i)).toInt64 &&& 63)).toInt32 &&& 255) ≤ 0 := by
        rw [w1, show (0 : Int32) = nI 0 from rfl, nI_leI (by omega) (by decide)]; omega
      refine b_Law_add_7 (fun q => absurd q n5) (fun _ q => absurd q c0) (fun _ _ => ?_)
      refine c_Law_putF hT (c := bs.getD i 0) (by omega) w1 (by omega) (fun I' h' => b_Law_add_36 ?_)
      rw [v5_s i (by omega)]
      refine ih (i + 1) (tx ++ [bs.getD i 0]) I' (by omega) h' (by rw [List.length_append]; show tx.length + 1 + m ≤ 250; omega) (fun I2 h2 => ?_)
      have := hQ I2
      rw [dr, List.filter_cons_of_pos (by simpa using g)] at this
      rw [List.append_assoc] at h2 ⊢
      exact this h2
theorem c_Law_add {w : Int64} {bs bz : List Nat} (hT : TxF I0 I tx) (hw : ∀ i : Fin 8, ((w >>> ((nI (56 - 8 * i.1)).toInt64 &&& 63)).toInt32 &&& 255) = nI (bs.getD i.1 0) ∧ bs.getD i.1 0 < 128) (h8 : bs.length = 8 ∧ bs.filter (fun b => b != 0) = bz) (hl : tx.length + 8 ≤ 250) (hQ : ∀ I', TxF I0 I' (tx ++ bz) → Q (some (.int (nI (tx ++ bz).length))) (aw_s I' L D)) :
    aw_m X (d + 1) y_Law_add [.ref 69, .int (nI tx.length), .long w] (aw_s I L D) Q := by
  obtain ⟨h8, rfl⟩ := h8
  exact aw_go rfl rfl (b_Law_add_0 (l_Law_add (fun i hi => hw ⟨i, hi⟩) h8 8 0 tx I rfl hT hl (fun I' h' => hQ I' h')))
theorem c_Law_number {n : Nat} (hT : TxF I0 I tx) (hn : n ≤ 15) (hl : tx.length + 2 ≤ 250) (hQ : ∀ I', TxF I0 I' (tx ++ dgs n) → Q (some (.int (nI (tx ++ dgs n).length))) (aw_s I' L D)) : aw_m X (d + 1) y_Law_number [.ref 69, .int (nI tx.length), .int (nI n)] (aw_s I L D) Q := by
  have c100 : nI n < 100 := by rw [show (100 : Int32) = nI 100 from rfl, nI_ltI (by omega) (by decide)]; omega
  have n100 : ¬ (100 : Int32) ≤ 1 := by decide
  have n10 : ¬ (10 : Int32) ≤ 1 := by decide
  have mm : nI n - nI n / 10 * 10 = nI (n % 10) := by
    rw [show (10 : Int32) = nI 10 from rfl, pk_div (by omega) (by decide) (by decide), pk_mul, pk_sub (by omega)]
    exact congrArg nI (by omega)
  -- the last digit
  have last : ∀ (I2 : Nat → Nat → Int32) (tx2 : List Nat), TxF I0 I2 tx2 → tx2.length < 250 → (∀ I', TxF I0 I' (tx2 ++ [48 + n % 10]) → Q (some (.int (nI (tx2 ++ [48 + n % 10]).length))) (aw_s I' L D)) → aw_z X (d + 1) y_Law_number Q 6 [some (.ref 69), none, some (.int (nI n)), some (.int (nI tx2.length)), some (.int 1)] [] (aw_s I2 L D) := fun I2 tx2 h2 l2 q2 => by
    refine b_Law_number_6 (fun _ => ?_) (fun q => absurd (by decide) q) (fun q => absurd (by decide) q) (fun q => absurd (by decide) q)
    exact c_Law_putF h2 (c := 48 + n % 10) (by omega) (by rw [mm, show (48 : Int32) = nI 48 from rfl, nI_add]) l2 (fun I' h' => b_Law_number_56 (q2 I' h'))
  refine aw_go rfl rfl (b_Law_number_0 (b_Law_number_6 (fun q => absurd q n100) (fun _ _ => b_Law_number_34 ?_) (fun _ q => absurd c100 q) (fun _ q => absurd c100 q)))
  rw [show (100 : Int32) / 10 = 10 by decide]
  by_cases g : n < 10
  · have c10 : nI n < 10 := by rw [show (10 : Int32) = nI 10 from rfl, nI_ltI (by omega) (by decide)]; omega
    have e : dgs n = [48 + n] := by unfold dgs; rw [if_pos g]
    refine b_Law_number_6 (fun q => absurd q n10) (fun _ _ => b_Law_number_34 ?_) (fun _ q => absurd c10 q) (fun _ q => absurd c10 q)
    rw [show (10 : Int32) / 10 = 1 by decide]
    refine last I tx hT (by omega) (fun I' h' => ?_)
    rw [Nat.mod_eq_of_lt g, ← e] at h' ⊢
    exact hQ I' h'
  · have c10 : ¬ nI n < 10 := by rw [show (10 : Int32) = nI 10 from rfl, nI_ltI (by omega) (by decide)]; omega
    have e : dgs n = [49, 48 + (n - 10)] := by unfold dgs; rw [if_neg g]
    have d1 : nI n / 10 = nI 1 := by
      rw [show (10 : Int32) = nI 10 from rfl, pk_div (by omega) (by decide) (by decide)]
      exact congrArg nI (by omega)
    refine b_Law_number_6 (fun q => absurd q n10) (fun _ q => absurd q c10) (fun _ _ => by decide) (fun _ _ => ?_)
    refine c_Law_putF hT (c := 49) (by decide) (by rw [d1]; decide) (by omega) (fun I1 h1 => b_Law_number_33 (b_Law_number_34 ?_))
    rw [show (10 : Int32) / 10 = 1 by decide]
    have l1 : (tx ++ [49]).length = tx.length + 1 := List.length_append
    refine last I1 (tx ++ [49]) h1 (by omega) (fun I' h' => ?_)
    rw [show 48 + n % 10 = 48 + (n - 10) by omega, List.append_assoc, show ([49] ++ [48 + (n - 10)] : List Nat) = dgs n from e.symm] at h' ⊢
    exact hQ I' h'
end WRT
