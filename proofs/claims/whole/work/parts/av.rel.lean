/-! PART av: how names stand, how a name stands to a number, what holds always -/
def trW (w : Nat) : Nat := w / 4 + (w / 2 % 2) * 2 + (w % 2) * 4
theorem trW_all : ∀ w, w < 8 → trW w < 8 ∧ (w ≠ 0 → trW w ≠ 0) ∧
    ((((((nI w).toUInt32 >>> ((2 : Int32).toUInt32 &&& Int32.toUInt32 31)).toInt32 &&& 1) <<< ((0 : Int32) &&& 31)) ||| ((((nI w).toUInt32 >>> ((1 : Int32).toUInt32 &&& Int32.toUInt32 31)).toInt32 &&& 1) <<< ((1 : Int32) &&& 31))) ||| ((((nI w).toUInt32 >>> ((0 : Int32).toUInt32 &&& Int32.toUInt32 31)).toInt32 &&& 1) <<< ((2 : Int32) &&& 31))) = nI (trW w) ∧
    ((nI w &&& 2) ||| ((nI w &&& 1) <<< ((2 : Int32) &&& 31))) ||| (nI w >>> ((2 : Int32) &&& 31)) = nI (trW w) := by decide +kernel
/-- how two names stand -/
def relW (E : Nat → PE) (R s a c : Nat) : Nat := if a = c then 2 else if a < c then (stW E R (64 * s + 8 * a + c)).toBitVec.toNat else trW (stW E R (64 * s + 8 * c + a)).toBitVec.toNat
theorem stW_w (E : Nat → PE) (R k : Nat) : (stW E R k).toBitVec.toNat < 8 ∧ stW E R k = nI (stW E R k).toBitVec.toNat := by
  obtain ⟨w, h, e⟩ := stW_S E k R
  rw [e, pk_tn (by omega)]; exact ⟨h, rfl⟩
theorem relW_ok {E : Nat → PE} {R s a c : Nat} (ha : a < 8) (hc : c < 8) (hb : Bgn E R s) : relW E R s a c < 8 ∧ relW E R s a c ≠ 0 := by
  have z : ∀ b c, b < c → c < 8 → (stW E R (64 * s + 8 * b + c)).toBitVec.toNat < 8 ∧ (stW E R (64 * s + 8 * b + c)).toBitVec.toNat ≠ 0 := fun b c h1 h2 => by
    obtain ⟨w, w1, w2, e⟩ := stW_Z (s := s) h1 h2 R hb
    rw [e, pk_tn (by omega)]; exact ⟨w1, w2⟩
  unfold relW
  split
  · exact ⟨by decide, by decide⟩
  · split
    · exact z a c (by assumption) hc
    · obtain ⟨z1, z2⟩ := z c a (by omega) ha
      have := trW_all _ z1
      exact ⟨this.1, this.2.1 z2⟩
def encB (p q r : Bool) : Nat := (if p = true then 1 else 0) + (if q = true then 2 else 0) + (if r = true then 4 else 0)
theorem enc_all : ∀ p q r : Bool, encB p q r < 8 ∧ nI (encB p q r) ||| 1 = nI (encB true q r) ∧ nI (encB p q r) ||| 2 = nI (encB p true r) ∧ nI (encB p q r) ||| 4 = nI (encB p q true) ∧ (p = true ∨ q = true ∨ r = true → encB p q r ≠ 0) := by decide +kernel
theorem lb_upto : ∀ o, o < 64 → ∀ v, v < 64 → lb (((2 : Int64) <<< ((nI o).toInt64 &&& 63)) - 1) v = decide (v ≤ o) := by decide +kernel
theorem m1_lb : ∀ v, v < 64 → lb (-1) v = true := by decide +kernel
theorem lb_not {x : Int64} {v : Nat} (hv : v < 64) : lb (x ^^^ (-1)) v = !lb x v := by
  have : lb (x ^^^ (-1)) v = (lb x v ^^ lb (-1) v) := BitVec.getLsbD_xor
  rw [this, m1_lb v hv, Bool.xor_true]
/-- what always holds -/
def hAw (w r : Nat) : Nat := if r = 3 then (if w / 2 % 2 = 0 then 1 else 0) else if w = 2 ^ r then 1 else 0
theorem hA_1 : ∀ w, w < 8 → ∀ r, r < 4 → w = 0 ∨ (hAw w r < 2 ∧ (nI r = 3 ↔ r = 3)) := by decide +kernel
theorem hA_2 : ∀ w, w < 8 → w = 0 ∨ ((nI w &&& 2 = 0 ↔ hAw w 3 = 1) ∧ (nI w &&& ((5 : Int32) ^^^ -1) = 0 ↔ hAw w 3 = 1)) := by decide +kernel
theorem hA_3 : ∀ w, w < 8 → ∀ r, r < 3 → w = 0 ∨ ((nI w = (1 : Int32) <<< (nI r &&& 31) ↔ hAw w r = 1) ∧ (nI w &&& (((1 : Int32) <<< (nI r &&& 31)) ^^^ -1) = 0 ↔ hAw w r = 1)) := by decide +kernel
theorem hA_all (w : Nat) (hw : w < 8) (h0 : w ≠ 0) (r : Nat) (hr : r < 4) : hAw w r < 2 ∧ (nI r = 3 ↔ r = 3) ∧ (r = 3 → (nI w &&& 2 = 0 ↔ hAw w r = 1) ∧ (nI w &&& ((5 : Int32) ^^^ -1) = 0 ↔ hAw w r = 1)) ∧ (r ≠ 3 → (nI w = (1 : Int32) <<< (nI r &&& 31) ↔ hAw w r = 1) ∧ (nI w &&& (((1 : Int32) <<< (nI r &&& 31)) ^^^ -1) = 0 ↔ hAw w r = 1)) := by
  have a := (hA_1 w hw r hr).resolve_left h0
  refine ⟨a.1, a.2, fun e => ?_, fun e => (hA_3 w hw r (by omega)).resolve_left h0⟩
  subst e
  exact (hA_2 w hw).resolve_left h0
section REL
variable {X : aw_X} {d : Nat} {Q : Option Value → aw_H → Prop} {I : Nat → Nat → Int32} {L : Nat → Nat → Int64} {D : Nat → Nat} {S : PT} {F B T O n : Nat} {E : Nat → PE} {wl wc wi : Nat → Nat}
theorem c_Wk_relationsOf {R s a c : Nat} (hs : s < 60) (ha : a < 8) (hc : c < 8) (h19 : ∀ k, k < 3840 → I 19 k = stW E R k) (hQ : Q (some (.int (nI (relW E R s a c)))) (aw_s I L D)) : aw_m X (d + 1) y_Wk_relationsOf [.ref 11, .int (nI s), .int (nI a), .int (nI c)] (aw_s I L D) Q := by
  have e1 : nI a = nI c ↔ a = c := nI_eq (by omega) (by omega)
  have e2 : nI c ≤ nI a ↔ c ≤ a := nI_leI (by omega) (by omega)
  have ix : ∀ x y, x < 8 → y < 8 → (nI s * 8 + nI x) * 8 + nI y = nI (64 * s + 8 * x + y) := fun x y _ _ => by
    rw [show (8 : Int32) = nI 8 from rfl, pk_mul, nI_add, pk_mul, nI_add]; exact congrArg nI (by omega)
  unfold relW at hQ
  refine aw_go rfl rfl (b_Wk_relationsOf_0 (fun p q => ?_) (fun p q => ?_) (fun p => ?_))
  · have p : ¬ a = c := fun z => p (e1.mpr z)
    have q := e2.mp q
    rw [if_neg p, if_neg (by omega)] at hQ
    rw [ix c a hc ha]
    refine c_valueAtN (N := 3840) (by decide) rfl (by decide) (show 64 * s + 8 * c + a < 3840 by omega) ?_
    obtain ⟨w1, w2⟩ := stW_w E R (64 * s + 8 * c + a)
    rw [h19 _ (by omega)]
    generalize (stW E R (64 * s + 8 * c + a)).toBitVec.toNat = w at *
    rw [w2]
    refine b_Wk_relationsOf_49 ?_
    rw [(trW_all w w1).2.2.1]; exact hQ
  · have p : ¬ a = c := fun z => p (e1.mpr z)
    have q : ¬ c ≤ a := fun z => q (e2.mpr z)
    rw [if_neg p, if_pos (by omega), ← (stW_w E R (64 * s + 8 * a + c)).2] at hQ
    rw [ix a c ha hc]
    refine c_valueAtN (N := 3840) (by decide) rfl (by decide) (show 64 * s + 8 * a + c < 3840 by omega) ?_
    rw [h19 _ (by omega)]
    exact b_Wk_relationsOf_30 hQ
  · rw [if_pos (e1.mp p)] at hQ; exact hQ
theorem c_M_standing {s a c : Nat} (h : RWd S F B T O E n wl wc wi I L) (h48 : I 69 48 = 0) (hs : s < 60) (ha : a < 8) (hc : c < 8)
    (hQ : ∀ I' L', RWd S F B T O E n wl wc wi I' L' → FLw I I' L L' → I' 69 0 = I 69 0 → Q (some (.int (nI (relW E (2 ^ (B * (T + O))) s a c)))) (aw_s I' L' D)) : aw_m X (d + 5) y_M_standing [.ref 69, .int (nI s), .int (nI a), .int (nI c)] (aw_s I L D) Q := by
  refine aw_go rfl rfl (b_M_standing_0 (c_M_findStands (d := d) h h48 (fun I' L' g h90 f f0 => ?_)))
  have hQ := hQ I' L' g f f0
  generalize 2 ^ (B * (T + O)) = R at *
  have e1 : nI a = nI c ↔ a = c := nI_eq (by omega) (by omega)
  have e2 : nI c ≤ nI a ↔ c ≤ a := nI_leI (by omega) (by omega)
  have ix : ∀ x y, x < 8 → y < 8 → (64 : Int32) * nI s + (8 : Int32) * nI x + nI y = nI (64 * s + 8 * x + y) := fun x y _ _ => by
    rw [show (8 : Int32) = nI 8 from rfl, show (64 : Int32) = nI 64 from rfl, pk_mul, pk_mul, nI_add, nI_add]
  unfold relW at hQ
  refine b_M_standing_4 (fun p q => ?_) (fun p q => ?_) (fun p q => ?_) (fun p q => ?_) (fun p => ?_)
  · rw [ix c a hc ha]; exact aw_in_nI (by omega) (by decide)
  · have p : ¬ a = c := fun z => p (e1.mpr z)
    have q := e2.mp q
    rw [if_neg p, if_neg (by omega)] at hQ
    obtain ⟨w1, w2⟩ := stW_w E R (64 * s + 8 * c + a)
    rw [ix c a hc ha, nI_clamp (show 64 * s + 8 * c + a < 2 ^ 31 by omega), h90 _ (by omega)]
    generalize (stW E R (64 * s + 8 * c + a)).toBitVec.toNat = w at *
    rw [w2, (trW_all w w1).2.2.2]; exact hQ
  · rw [ix a c ha hc]; exact aw_in_nI (by omega) (by decide)
  · have p : ¬ a = c := fun z => p (e1.mpr z)
    have q : ¬ c ≤ a := fun z => q (e2.mpr z)
    rw [if_neg p, if_pos (by omega), ← (stW_w E R (64 * s + 8 * a + c)).2] at hQ
    rw [ix a c ha hc, nI_clamp (show 64 * s + 8 * a + c < 2 ^ 31 by omega), h90 _ (by omega)]; exact hQ
  · rw [if_pos (e1.mp p)] at hQ; exact hQ
theorem c_holdsAlways {w r : Nat} (hw : w < 8) (h0 : w ≠ 0) (hr : r < 4) (hQ : Q (some (.int (nI (hAw w r)))) (aw_s I L D)) : aw_m X d y_AW_holdsAlways [.int (nI w), .int (nI r)] (aw_s I L D) Q := by
  obtain ⟨a1, a2, a3, a4⟩ := hA_all w hw h0 r hr
  have n0 : hAw w r ≠ 1 → hAw w r = 0 := fun z => by omega
  refine aw_go rfl rfl (b_AW_holdsAlways_0 (fun p q => ?_) (fun p q => ?_) (fun p q => ?_) (fun p q => ?_))
  · have p := fun z => p (a2.mpr z)
    rw [n0 (fun z => q ((a4 p).1.mpr z))] at hQ; exact hQ
  · have p := fun z => p (a2.mpr z)
    rw [(a4 p).1.mp q] at hQ; exact hQ
  · have p := a2.mp p
    rw [n0 (fun z => q ((a3 p).1.mpr z))] at hQ; exact hQ
  · have p := a2.mp p
    rw [(a3 p).1.mp q] at hQ; exact hQ
theorem l_M_holdsA {w r : Nat} (hw : w < 8) (h0 : w ≠ 0) (hr : r < 4) (hQ : Q (some (.int (nI (hAw w r)))) (aw_s I L D)) : aw_z X (d + 1) y_M_law Q 177 [none, none, none, some (.int (nI r)), none, none, some (.int (nI w)), none] [] (aw_s I L D) := by
  obtain ⟨a1, a2, a3, a4⟩ := hA_all w hw h0 r hr
  have n0 : hAw w r ≠ 1 → hAw w r = 0 := fun z => by omega
  refine b_M_law_177 (fun p => b_M_law_189 (fun q => ?_) (fun q => ?_)) (fun p => b_M_law_189 (fun q => ?_) (fun q => ?_))
  · have p := fun z => p (a2.mpr z)
    rw [n0 (fun z => q ((a4 p).2.mpr z))] at hQ; exact hQ
  · have p := fun z => p (a2.mpr z)
    rw [(a4 p).2.mp q] at hQ; exact hQ
  · have p := a2.mp p
    rw [n0 (fun z => q ((a3 p).2.mpr z))] at hQ; exact hQ
  · have p := a2.mp p
    rw [(a3 p).2.mp q] at hQ; exact hQ
theorem c_relationsTo {y : Int64} {o : Nat} (ho : o < 64)
    (hQ : ∀ p q r : Bool, (p = true ↔ ∃ v, v < 64 ∧ v < o ∧ lb y v = true) → (q = true ↔ lb y o = true) → (r = true ↔ ∃ v, v < 64 ∧ o < v ∧ lb y v = true) → Q (some (.int (nI (encB p q r)))) (aw_s I L D)) : aw_m X d y_AW_relationsTo [.long y, .int (nI o)] (aw_s I L D) Q := by
  have c1 : lg_cmp ((y &&& (((2 : Int64) <<< ((nI o).toInt64 &&& 63)) - (1 : Int64))) &&& (((1 : Int64) <<< ((nI o).toInt64 &&& 63)) ^^^ (-1 : Int64))) (0 : Int64) = 0 ↔ ¬ ∃ v, v < 64 ∧ v < o ∧ lb y v = true := by
    rw [cmp_eq]
    constructor
    · rintro z ⟨v, h1, h2, h3⟩
      have : ((y &&& (((2 : Int64) <<< ((nI o).toInt64 &&& 63)) - (1 : Int64))) &&& (((1 : Int64) <<< ((nI o).toInt64 &&& 63)) ^^^ (-1 : Int64))) ≠ 0 := lb_ne.mpr ⟨v, h1, by
        rw [lb_and, lb_and, lb_not h1, lb_upto o ho v h1, show (1 : Int64) <<< ((nI o).toInt64 &&& 63) = bit64 o from rfl, lb_bit ho, h3, decide_eq_true (show v ≤ o by omega), decide_eq_false (show ¬ v = o by omega)]; rfl⟩
      exact this z
    · intro z
      refine Classical.byContradiction (fun t => ?_)
      obtain ⟨v, h1, h2⟩ := lb_ne.mp t
      rw [lb_and, lb_and, lb_not h1, lb_upto o ho v h1, show (1 : Int64) <<< ((nI o).toInt64 &&& 63) = bit64 o from rfl, lb_bit ho, Bool.and_eq_true, Bool.and_eq_true, decide_eq_true_iff, Bool.not_eq_true', decide_eq_false_iff_not] at h2
      exact z ⟨v, h1, by omega, h2.1.1⟩
  have c2 : lg_cmp (y &&& ((1 : Int64) <<< ((nI o).toInt64 &&& 63))) (0 : Int64) = 0 ↔ ¬ lb y o = true := by
    rw [cmp_eq]
    constructor
    · intro z h
      have : (y &&& ((1 : Int64) <<< ((nI o).toInt64 &&& 63))) ≠ 0 := lb_ne.mpr ⟨o, ho, by
        rw [lb_and, show (1 : Int64) <<< ((nI o).toInt64 &&& 63) = bit64 o from rfl, lb_bit ho, h, decide_eq_true rfl]; rfl⟩
      exact this z
    · intro z
      refine Classical.byContradiction (fun t => ?_)
      obtain ⟨v, h1, h2⟩ := lb_ne.mp t
      rw [lb_and, show (1 : Int64) <<< ((nI o).toInt64 &&& 63) = bit64 o from rfl, lb_bit ho, Bool.and_eq_true, decide_eq_true_iff] at h2
      rw [h2.2] at h2
      exact z h2.1
  have c3 : lg_cmp (y &&& ((((2 : Int64) <<< ((nI o).toInt64 &&& 63)) - (1 : Int64)) ^^^ (-1 : Int64))) (0 : Int64) = 0 ↔ ¬ ∃ v, v < 64 ∧ o < v ∧ lb y v = true := by
    rw [cmp_eq]
    constructor
    · rintro z ⟨v, h1, h2, h3⟩
      have : (y &&& ((((2 : Int64) <<< ((nI o).toInt64 &&& 63)) - (1 : Int64)) ^^^ (-1 : Int64))) ≠ 0 := lb_ne.mpr ⟨v, h1, by
        rw [lb_and, lb_not h1, lb_upto o ho v h1, h3, decide_eq_false (show ¬ v ≤ o by omega)]; rfl⟩
      exact this z
    · intro z
      refine Classical.byContradiction (fun t => ?_)
      obtain ⟨v, h1, h2⟩ := lb_ne.mp t
      rw [lb_and, lb_not h1, lb_upto o ho v h1, Bool.and_eq_true, Bool.not_eq_true', decide_eq_false_iff_not] at h2
      exact z ⟨v, h1, by omega, h2.1⟩
  have fin : ∀ p q : Bool, (p = true ↔ ∃ v, v < 64 ∧ v < o ∧ lb y v = true) → (q = true ↔ lb y o = true) → aw_z X d y_AW_relationsTo Q 52 [some (.long y), none, none, some (.long (((2 : Int64) <<< ((nI o).toInt64 &&& 63)) - (1 : Int64))), none, none, none, some (.int (nI (encB p q false)))] [] (aw_s I L D) := fun p q hp hq => by
    refine b_AW_relationsTo_52 (fun z => hQ p q false hp hq ⟨fun t => absurd t Bool.false_ne_true, fun t => absurd t (c3.mp z)⟩) (fun z => ?_)
    rw [(enc_all p q false).2.2.2.1]
    exact hQ p q true hp hq ⟨fun _ => Classical.not_not.mp (fun t => z (c3.mpr t)), fun _ => rfl⟩
  have mid : ∀ p : Bool, (p = true ↔ ∃ v, v < 64 ∧ v < o ∧ lb y v = true) → aw_z X d y_AW_relationsTo Q 37 [some (.long y), none, none, some (.long (((2 : Int64) <<< ((nI o).toInt64 &&& 63)) - (1 : Int64))), none, some (.long ((1 : Int64) <<< ((nI o).toInt64 &&& 63))), none, some (.int (nI (encB p false false)))] [] (aw_s I L D) := fun p hp => by
    refine b_AW_relationsTo_37 (fun z => fin p false hp ⟨fun t => absurd t Bool.false_ne_true, fun t => absurd t (c2.mp z)⟩) (fun z => ?_)
    rw [(enc_all p false false).2.2.1]
    exact fin p true hp ⟨fun _ => Classical.not_not.mp (fun t => z (c2.mpr t)), fun _ => rfl⟩
  refine aw_go rfl rfl (b_AW_relationsTo_0 (fun z => ?_) (fun z => ?_))
  · exact mid false ⟨fun t => absurd t Bool.false_ne_true, fun t => absurd t (c1.mp z)⟩
  · have := (enc_all false false false).2.1
    rw [show (0 : Int32) ||| 1 = nI (encB false false false) ||| 1 from rfl, this]
    exact mid true ⟨fun _ => Classical.not_not.mp (fun t => z (c1.mpr t)), fun _ => rfl⟩
end REL
