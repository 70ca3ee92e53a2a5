/-! PART 59: the class's tape as a text; words and signs (the two methods over strings) -/
theorem au_id {α : Type} {f : Nat → Nat → α} {o k : Nat} {v : α} (h : f o k = v) : aw_u f o k v = f := by
  funext a b
  by_cases ha : a = o
  · subst ha
    by_cases hb : b = k
    · subst hb; rw [au_s]; exact h.symm
    · rw [au_k hb]
  · rw [au_o ha]
theorem au_au {α : Type} (f : Nat → Nat → α) (o k : Nat) (v w : α) : aw_u (aw_u f o k v) o k w = aw_u f o k w := by
  funext a b
  by_cases ha : a = o
  · subst ha
    by_cases hb : b = k
    · subst hb; rw [au_s, au_s]
    · rw [au_k hb, au_k hb, au_k hb]
  · rw [au_o ha, au_o ha, au_o ha]
abbrev isBl (x : Int32) : Prop := x = 32 ∨ x = 10
abbrev isLt (x : Int32) : Prop := ¬ x < 97 ∧ ¬ 122 < x
abbrev isDg (x : Int32) : Prop := ¬ x < 48 ∧ ¬ 57 < x
abbrev isOw (x : Int32) : Prop := isLt x ∨ isDg x
def mks : List Int32 := [59, 123, 125, 40, 41, 91, 93, 43, 45, 42, 47, 61, 60, 62, 35]
/-- the words of the grammar, five places each -/
def wds : List Int32 := [112, 114, 111, 99, 32, 99, 97, 108, 108, 32, 99, 101, 108, 108, 32, 105, 102, 32, 32, 32, 101, 108, 115, 101, 32, 119, 104, 105, 108, 101, 109, 117, 115, 116, 32, 108, 101, 116, 32, 32, 97, 115, 107, 32, 32, 101, 110, 100, 32, 32, 111, 114, 32, 32, 32, 97, 110, 100, 32, 32]
def wch (k : Nat) : Int32 := wds.getD k 0
def wMt (bt : Nat → Int32) (q len w : Nat) : Prop := ∀ i, i < 5 → (if i < len then bt (q + i) else 32) = wch (5 * w + i)
/-- the tape -/
def KTp (I : Nat → Nat → Int32) (bt : Nat → Int32) (z : Nat) : Prop := I 2 1 = nI z ∧ z ≤ 540 ∧ ∀ j, j < z → I 3 j = bt j
theorem KTp.u {I : Nat → Nat → Int32} {bt : Nat → Int32} {z o k : Nat} {v : Int32} (h : KTp I bt z) (h2 : o ≠ 2) (h3 : o ≠ 3) : KTp (aw_u I o k v) bt z :=
  ⟨by rw [au_o (fun e => h2 e.symm)]; exact h.1, h.2.1, fun j hj => by rw [au_o (fun e => h3 e.symm)]; exact h.2.2 j hj⟩
section KSTR
variable {X : aw_X} {d : Nat} {Q : Option Value → aw_H → Prop} {I : Nat → Nat → Int32} {L : Nat → Nat → Int64} {D : Nat → Nat}
theorem c_Tp_byteAt {bt : Nat → Int32} {z p : Nat} (hT : KTp I bt z) (hp : p < z) (h : Q (some (.int (bt p))) (aw_s I L D)) : aw_m X d y_Tp_byteAt [.ref 2, .int (nI p)] (aw_s I L D) Q := by
  obtain ⟨t1, t2, t3⟩ := hT
  have B0 := @b_Tp_byteAt_0 X d Q I L D (nI p)
  have p0 : ¬ nI p < 0 := nI_pos (by omega)
  have p1 : ¬ nI z ≤ nI p := by rw [nI_leI (by omega) (by omega)]; omega
  have p2 : ¬ (540 : Int32) ≤ nI p := by
    have : ((540 : Int32) ≤ nI p) = (540 ≤ p) := nI_le' (a := 540) (by decide) (by omega)
    rw [this]; omega
  rw [t1, nI_clamp (show p < 2 ^ 31 by omega), t3 p hp] at B0
  exact aw_go rfl rfl (B0 (fun q => absurd q p0) (fun _ q => absurd q p1) (fun _ _ q => absurd q p2) (fun _ _ _ => aw_in_nI (by omega) (by decide)) (fun _ _ _ => h))
theorem c_Tp_byteAtX {bt : Nat → Int32} {z p : Nat} (hT : KTp I bt z) (hp : z ≤ p) (hp2 : p < 2 ^ 31) (h : Q (some (.int (-1))) (aw_s I L D)) : aw_m X d y_Tp_byteAt [.ref 2, .int (nI p)] (aw_s I L D) Q := by
  obtain ⟨t1, t2, t3⟩ := hT
  have B0 := @b_Tp_byteAt_0 X d Q I L D (nI p)
  have p1 : nI z ≤ nI p := by rw [nI_leI (by omega) (by omega)]; omega
  rw [t1] at B0
  exact aw_go rfl rfl (B0 (fun _ => h) (fun _ _ => h) (fun _ q => absurd p1 q) (fun _ q => absurd p1 q) (fun _ q => absurd p1 q))
end KSTR
section STRK
variable {X : aw_X} {d : Nat} {Q : Option Value → aw_H → Prop} {I : Nat → Nat → Int32} {L : Nat → Nat → Int64} {D : Nat → Nat}
theorem sCh_w : ∀ p, p < 60 → sCh 0 p = wch p := by decide +kernel
theorem l_Tk_isWord {bt : Nat → Int32} {z q len w : Nat} (hT : KTp I bt z) (h7 : I 62 7 = nI q) (hz : q + len ≤ z) (hl : len ≤ 5) (hw : w < 12) (h1 : wMt bt q len w → Q (some (.int 1)) (aw_s I L D)) (h0 : ¬ wMt bt q len w → Q (some (.int 0)) (aw_s I L D)) :
    ∀ (m k : Nat), k + m = 5 → (∀ i, i < k → (if i < len then bt (q + i) else 32) = wch (5 * w + i)) → aw_z X (d + 8) y_Tk_isWord Q 2 [some (.ref 62), some (.int (nI len)), some (.int (nI (5 * w))), some (.int (nI k)), none, none] [] (aw_s I L D) := by
  have z540 := hT.2.1
  intro m
  induction m with
  | zero =>
    intro k e g
    have : k = 5 := by omega
    subst this
    exact s_Tk_isWord_2.go [some (.ref 62), some (.int (nI len)), some (.int (nI (5 * w))), some (.int (nI 5)), none, none] [.int 5, .int (nI 5)] (aw_s I L D) rfl (z_icmp_ge (tgt := 72) d_Tk_isWord_4 rfl (fun _ => s_Tk_isWord_72.go [some (.ref 62), some (.int (nI len)), some (.int (nI (5 * w))), some (.int (nI 5)), none, none] [.int 1] (aw_s I L D) rfl (z_iret d_Tk_isWord_73 rfl (aw_nz (Or.inr rfl)) (h1 g))) (fun c => absurd (by decide) c))
  | succ m ih =>
    intro k e g
    have c5 : ¬ (5 : Int32) ≤ nI k := by rw [show (5 : Int32) = nI 5 from rfl, nI_leI (by decide) (by omega)]; omega
    have on : ∀ x : Int32, x = (if k < len then bt (q + k) else 32) → aw_z X (d + 8) y_Tk_isWord Q 30 [some (.ref 62), some (.int (nI len)), some (.int (nI (5 * w))), some (.int (nI k)), none, none] [.int x] (aw_s I L D) := fun x ex => by
      refine s_Tk_isWord_30.go [some (.ref 62), some (.int (nI len)), some (.int (nI (5 * w))), some (.int (nI k)), some (.int x), some (.int (nI (5 * w) + nI k))] [.int (nI (5 * w) + nI k)] (aw_s I L D) rfl ?_
      rw [nI_add]
      have p0 : ¬ nI (5 * w + k) < 0 := nI_pos (by omega)
      have p1 : ¬ nI (sLn 0) ≤ nI (5 * w + k) := by rw [nI_leI (sLn_lt 0) (by omega), show sLn 0 = 60 from rfl]; omega
      refine z_if_lt (tgt := 64) d_Tk_isWord_39 rfl (fun c => absurd c p0) (fun _ => ?_)
      refine s_Tk_isWord_42.go [some (.ref 62), some (.int (nI len)), some (.int (nI (5 * w))), some (.int (nI k)), some (.int x), some (.int (nI (5 * w + k)))] [.int (nI (5 * w + k))] (aw_s I L D) rfl (z_ldcs (a := 1002) (fun U H h => h.2.2.1) (aw_Kle rfl) d_Tk_isWord_44 ?_)
      refine z_callT (i := 0) (av := []) (st := [.int (nI (5 * w + k))]) (by decide) rfl ok_S_length ml_Tk_101 in_S_length se_S_length d_Tk_isWord_46 rfl rfl (Nat.le_of_ble_eq_true rfl) (Nat.le_refl _) (Nat.le_refl _) (c_S_length (d := d + 6) (by decide) (z_icmp_ge (tgt := 64) d_Tk_isWord_49 rfl (fun c => absurd c p1) (fun _ => ?_)))
      refine z_ldcs (a := 1002) (fun U H h => h.2.2.1) (aw_Kle rfl) d_Tk_isWord_52 (s_Tk_isWord_54.go [some (.ref 62), some (.int (nI len)), some (.int (nI (5 * w))), some (.int (nI k)), some (.int x), some (.int (nI (5 * w + k)))] [.int (nI (5 * w + k)), .ref 1002] (aw_s I L D) rfl ?_)
      refine z_callT (i := 0) (av := [.int (nI (5 * w + k))]) (st := []) (by decide) rfl ok_S_charAt ml_Tk_105 in_S_charAt se_S_charAt d_Tk_isWord_56 rfl rfl (Nat.le_of_ble_eq_true rfl) (Nat.le_refl _) (Nat.le_refl _) (c_S_charAt (d := d + 4) (by decide) (show 5 * w + k < 60 by omega) ?_)
      rw [sCh_w _ (by omega)]
      refine s_Tk_isWord_59.go [some (.ref 62), some (.int (nI len)), some (.int (nI (5 * w))), some (.int (nI k)), some (.int x), some (.int (nI (5 * w + k)))] [.int x, .int (wch (5 * w + k))] (aw_s I L D) rfl (z_icmp_eq (tgt := 66) d_Tk_isWord_61 rfl (fun c => ?_) (fun c => ?_))
      · refine s_Tk_isWord_66.go [some (.ref 62), some (.int (nI len)), some (.int (nI (5 * w))), some (.int (nI k + 1)), some (.int x), some (.int (nI (5 * w + k)))] [] (aw_s I L D) rfl (z_goto (tgt := 2) d_Tk_isWord_69 rfl ?_)
        rw [nI_1]
        refine aw_Z.weak (ls' := [some (.ref 62), some (.int (nI len)), some (.int (nI (5 * w))), some (.int (nI (k + 1))), none, none]) (ih (k + 1) (by omega) (fun i hi => ?_)) (Nat.le_of_ble_eq_true rfl) ⟨Or.inr rfl, ⟨Or.inr rfl, ⟨Or.inr rfl, ⟨Or.inr rfl, ⟨Or.inl rfl, ⟨Or.inl rfl, trivial⟩⟩⟩⟩⟩⟩
        by_cases y : i = k
        · subst y; rw [← ex]; exact c.symm
        · exact g i (by omega)
      · refine s_Tk_isWord_64.go [some (.ref 62), some (.int (nI len)), some (.int (nI (5 * w))), some (.int (nI k)), some (.int x), some (.int (nI (5 * w + k)))] [.int 0] (aw_s I L D) rfl (z_iret d_Tk_isWord_65 rfl (aw_nz (Or.inl rfl)) (h0 (fun y => c ?_)))
        rw [ex]; exact (y k (by omega)).symm
    refine s_Tk_isWord_2.go [some (.ref 62), some (.int (nI len)), some (.int (nI (5 * w))), some (.int (nI k)), none, none] [.int 5, .int (nI k)] (aw_s I L D) rfl (z_icmp_ge (tgt := 72) d_Tk_isWord_4 rfl (fun c => absurd c c5) (fun _ => ?_))
    refine s_Tk_isWord_7.go [some (.ref 62), some (.int (nI len)), some (.int (nI (5 * w))), some (.int (nI k)), none, none] [.int (nI len), .int (nI k)] (aw_s I L D) rfl (z_icmp_ge (tgt := 28) d_Tk_isWord_9 rfl (fun c => ?_) (fun c => ?_))
    · rw [nI_leI (by omega) (by omega)] at c
      exact s_Tk_isWord_28.go [some (.ref 62), some (.int (nI len)), some (.int (nI (5 * w))), some (.int (nI k)), none, none] [.int 32] (aw_s I L D) rfl (on 32 (by rw [if_neg (by omega)]))
    · rw [nI_leI (by omega) (by omega)] at c
      refine s_Tk_isWord_12.go [some (.ref 62), some (.int (nI len)), some (.int (nI (5 * w))), some (.int (nI k)), none, none] [.int (I 62 7 + nI k), .ref 2] (aw_s I L D) rfl ?_
      rw [h7, nI_add]
      exact z_callV (av := [.int (nI (q + k))]) (st := []) ok_Tp_byteAt (Or.inl w_480) w_481 w_482 k_Tp d_Tk_isWord_22 rfl (aw_lt (o := 2) rfl) rfl rfl (Nat.le_of_ble_eq_true rfl) (Nat.le_refl _) (Nat.le_refl _) (c_Tp_byteAt hT (by omega) (z_goto (tgt := 30) d_Tk_isWord_25 rfl (on _ (by rw [if_pos (by omega)]))))
theorem c_Tk_isWord {bt : Nat → Int32} {z q len w : Nat} (hT : KTp I bt z) (h7 : I 62 7 = nI q) (hz : q + len ≤ z) (hl : len ≤ 5) (hw : w < 12) (h1 : wMt bt q len w → Q (some (.int 1)) (aw_s I L D)) (h0 : ¬ wMt bt q len w → Q (some (.int 0)) (aw_s I L D)) :
    aw_m X (d + 8) y_Tk_isWord [.ref 62, .int (nI len), .int (nI (5 * w))] (aw_s I L D) Q :=
  aw_C.of rfl (Nat.le_of_ble_eq_true rfl) (s_Tk_isWord_0.go [some (.ref 62), some (.int (nI len)), some (.int (nI (5 * w))), some (.int (nI 0)), none, none] [] (aw_s I L D) rfl (l_Tk_isWord hT h7 hz hl hw h1 h0 5 0 rfl (fun i hi => absurd hi (Nat.not_lt_zero i))))
theorem mks_r : ∀ x, x ∈ mks → ¬ x ≤ 32 ∧ ¬ (127 : Int32) ≤ x := by decide
theorem mks_ix : ∀ n, n < 127 → (¬ sIx (nI n).toInt8.toInt32 15 0 < 0 ↔ nI n ∈ mks) ∧ ((nI n).toUInt32 % 65536).toInt32 = nI n := by decide +kernel
theorem c_Tk_readSign {bt : Nat → Int32} {z q : Nat} (hT : KTp I bt z) (h4 : I 62 4 = nI q) (hz : q < z) (h : Q none (aw_s (aw_u (aw_u I 62 6 (if bt q ∈ mks then bt q else 0)) 62 4 (nI (q + 1))) L D)) :
    aw_m X (d + 8) y_Tk_readSign [.ref 62] (aw_s I L D) Q := by
  refine aw_C.of rfl (Nat.le_of_ble_eq_true rfl) (s_Tk_readSign_0.go [some (.ref 62), none] [.int (I 62 4), .ref 2] (aw_s I L D) rfl ?_)
  have fin : ∀ k : Int32, k = (if bt q ∈ mks then bt q else 0) → aw_z X (d + 8) y_Tk_readSign Q 40 [some (.ref 62), some (.int (bt q))] [.int k, .ref 62] (aw_s I L D) := fun k e => by
    refine s_Tk_readSign_40.go [some (.ref 62), some (.int (bt q))] [] (aw_s (aw_u (aw_u I 62 6 k) 62 4 (I 62 4 + 1)) L D) rfl (z_vret d_Tk_readSign_53 rfl ?_)
    rw [h4, nI_1, e]; exact h
  have zero : bt q ∉ mks → aw_z X (d + 8) y_Tk_readSign Q 39 [some (.ref 62), some (.int (bt q))] [.ref 62] (aw_s I L D) := fun e =>
    s_Tk_readSign_39.go [some (.ref 62), some (.int (bt q))] [.int 0, .ref 62] (aw_s I L D) rfl (fin 0 (by rw [if_neg e]))
  rw [h4]
  refine z_callV (av := [.int (nI q)]) (st := []) ok_Tp_byteAt (Or.inl w_480) w_481 w_482 k_Tp d_Tk_readSign_8 rfl (aw_lt (o := 2) rfl) rfl rfl (Nat.le_of_ble_eq_true rfl) (Nat.le_refl _) (Nat.le_refl _) (c_Tp_byteAt hT hz ?_)
  refine s_Tk_readSign_11.go [some (.ref 62), some (.int (bt q))] [.int 32, .int (bt q), .ref 62] (aw_s I L D) rfl (z_icmp_le (tgt := 39) d_Tk_readSign_16 rfl (fun c => zero (fun y => (mks_r _ y).1 c)) (fun c => ?_))
  refine s_Tk_readSign_19.go [some (.ref 62), some (.int (bt q))] [.int 127, .int (bt q), .ref 62] (aw_s I L D) rfl (z_icmp_ge (tgt := 39) d_Tk_readSign_22 rfl (fun c2 => zero (fun y => (mks_r _ y).2 c2)) (fun c2 => ?_))
  obtain ⟨n, hn, en⟩ : ∃ n, n < 127 ∧ bt q = nI n := by
    have c0 : ¬ bt q < 0 := fun y => c (Int32.le_of_lt (Int32.lt_trans y (by decide)))
    obtain ⟨n, hn, e⟩ := nI_of c0
    rw [e, show (127 : Int32) = nI 127 from rfl, nI_leI (by decide) hn] at c2
    exact ⟨n, by omega, e⟩
  obtain ⟨m1, m2⟩ := mks_ix n hn
  refine z_ldcs (a := 1003) (fun U H h => h.2.2.2.1) (aw_Kle rfl) d_Tk_readSign_25 (s_Tk_readSign_27.go [some (.ref 62), some (.int (bt q))] [.int (((bt q).toUInt32 % 65536).toInt32), .ref 1003, .ref 62] (aw_s I L D) rfl ?_)
  have m3 : ((bt q).toUInt32 % 65536).toInt32 = nI n := by rw [en]; exact m2
  rw [m3]
  refine z_callT (i := 1) (av := [.int (nI n)]) (st := [.ref 62]) (by decide) rfl ok_S_indexOf1 ml_Tk_80 in_S_indexOf1 se_S_indexOf1 d_Tk_readSign_29 rfl rfl (Nat.le_of_ble_eq_true rfl) (Nat.le_refl _) (Nat.le_refl _) (c_S_indexOf1 (d := d + 4) (by omega) (z_if_lt (tgt := 39) d_Tk_readSign_32 rfl (fun y => zero (fun t => m1.mpr (by rw [← en]; exact t) y)) (fun y => ?_)))
  have t : bt q ∈ mks := by rw [en]; exact m1.mp y
  exact s_Tk_readSign_35.go [some (.ref 62), some (.int (bt q))] [.int (bt q), .ref 62] (aw_s I L D) rfl (z_goto (tgt := 40) d_Tk_readSign_36 rfl (fin _ (by rw [if_pos t])))
end STRK
