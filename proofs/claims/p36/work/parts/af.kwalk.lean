/-! PART af: what a walk leaves, row by row; the class walks -/
def mayW (E : Nat → PE) : Nat → Nat → Int64
  | 0 => fun _ => 0
  | r + 1 => if eE (E r) = 4 then mayW E r else mayT (mayW E r) (eT (E r))
def stW (E : Nat → PE) : Nat → Nat → Int32
  | 0 => fun _ => 0
  | r + 1 => if eE (E r) = 4 then stW E r else stT (stW E r) (eT (E r))
def bsW (E : Nat → PE) (q : Nat) : Int64 := if eE (E q) = 4 then 0 else setL (eT (E q))
def allB (E : Nat → PE) : Nat → Int64
  | 0 => 0
  | r + 1 => if eE (E r) = 4 then allB E r else allB E r ||| setL (eT (E r))
def anyW (E : Nat → PE) : Nat → Nat
  | 0 => 0
  | r + 1 => if eE (E r) = 4 then anyW E r else 1
def mnW (E : Nat → PE) (s : Nat) : Nat → Nat
  | 0 => 1000
  | r + 1 => if eE (E r) = 4 then mnW E s r else if eY (E r) s < mnW E s r then eY (E r) s else mnW E s r
def mxW (E : Nat → PE) (s : Nat) : Nat → Nat
  | 0 => 0
  | r + 1 => if eE (E r) = 4 then mxW E s r else if mxW E s r < eY (E r) s then eY (E r) s else mxW E s r
theorem any_1 (E : Nat → PE) : ∀ r, anyW E r = 0 ∨ anyW E r = 1
  | 0 => Or.inl rfl
  | r + 1 => by rw [anyW]; split; exact any_1 E r; exact Or.inr rfl
theorem any_0 (E : Nat → PE) (s : Nat) : ∀ r, anyW E r = 0 → mnW E s r = 1000 ∧ mxW E s r = 0
  | 0, _ => ⟨rfl, rfl⟩
  | r + 1, h => by
    rw [anyW] at h
    by_cases q : eE (E r) = 4
    · rw [if_pos q] at h
      rw [mnW, mxW, if_pos q, if_pos q]; exact any_0 E s r h
    · rw [if_neg q] at h; cases h
theorem mn_le (E : Nat → PE) (s : Nat) : ∀ r, mnW E s r ≤ 1000
  | 0 => Nat.le_refl _
  | r + 1 => by have := mn_le E s r; rw [mnW]; split; exact this; split <;> omega
theorem mx_le {B F cs : Nat} {E : Nat → PE} (hF : F ≤ 40) (h : WE B F cs E) (s : Nat) : ∀ r, mxW E s r ≤ 40
  | 0 => Nat.zero_le _
  | r + 1 => by
    have := mx_le hF h s r
    obtain ⟨-, -, -, l, -, -, y⟩ := h.1 r
    have := y s
    rw [mxW]; split; assumption; split <;> omega
theorem mayL_e {f g : Nat → Int64} {s k : Nat} {nm : Nat → Int32} (h : f k = g k) : ∀ a, mayL f s nm a k = mayL g s nm a k
  | 0 => h
  | a + 1 => by
    have ih := mayL_e (s := s) (nm := nm) h a
    rw [mayL, mayL]
    by_cases q : k = 8 * s + a
    · subst q; rw [up_s, up_s, ih]
    · rw [up_n _ _ q, up_n _ _ q, ih]
theorem stJ_e {f g : Nat → Int32} {s b k : Nat} {nm : Nat → Int32} (h : f k = g k) : ∀ a, stJ f s nm b a k = stJ g s nm b a k
  | 0 => h
  | a + 1 => by
    have ih := stJ_e (s := s) (nm := nm) (b := b) h a
    rw [stJ, stJ]
    by_cases q : k = 64 * s + 8 * b + (b + 1 + a)
    · subst q; rw [up_s, up_s, ih]
    · rw [up_n _ _ q, up_n _ _ q, ih]
theorem stO_e {f g : Nat → Int32} {s k : Nat} {nm : Nat → Int32} (h : f k = g k) : ∀ a, stO f s nm a k = stO g s nm a k
  | 0 => h
  | a + 1 => by rw [stO, stO]; exact stJ_e (stO_e h a) _
theorem mayT_e {k : Nat} : ∀ (tr : List (Nat × (Nat → Int32))) {f g : Nat → Int64}, f k = g k → mayT f tr k = mayT g tr k
  | [], _, _, h => h
  | e :: tr, f, g, h => mayT_e (k := k) tr (f := mayL f e.1 e.2 8) (g := mayL g e.1 e.2 8) (mayL_e h 8)
theorem stT_e {k : Nat} : ∀ (tr : List (Nat × (Nat → Int32))) {f g : Nat → Int32}, f k = g k → stT f tr k = stT g tr k
  | [], _, _, h => h
  | e :: tr, f, g, h => stT_e (k := k) tr (f := stO f e.1 e.2 8) (g := stO g e.1 e.2 8) (stO_e h 8)
abbrev kK (E : Nat → PE) : Nat → Nat := fun q => keyN (E q)
/-- what the class has noted of the first rows -/
def KWn (E : Nat → PE) (r n : Nat) (wl wc : Nat → Nat) (I : Nat → Nat → Int32) (L : Nat → Nat → Int64) : Prop :=
  (∀ q, q < r → L 12 q = lN (keyN (E q)) ∧ I 13 q = eS (E q) ∧ L 14 q = bsW E q) ∧ WY (kK E) r n wl wc ∧ KWy (kK E) n wl wc I L ∧ L 11 11 = allB E r ∧ I 11 10 = nI (anyW E r) ∧ (∀ k, k < 480 → L 18 k = mayW E r k) ∧ (∀ k, k < 3840 → I 19 k = stW E r k) ∧ (anyW E r = 1 → ∀ s, s < 60 → I 20 s = nI (mnW E s r) ∧ I 21 s = nI (mxW E s r))
theorem KWn.fr {E : Nat → PE} {r n : Nat} {wl wc : Nat → Nat} {I I' : Nat → Nat → Int32} {L L' : Nat → Nat → Int64} (h : KWn E r n wl wc I L) (h6 : I' 11 6 = I 11 6) (h10 : I' 11 10 = I 11 10) (h11 : L' 11 11 = L 11 11) (hI : ∀ o, 12 ≤ o → o ≤ 21 → I' o = I o) (hL : ∀ o, 12 ≤ o → o ≤ 21 → L' o = L o) : KWn E r n wl wc I' L' := by
  obtain ⟨a1, a2, ⟨a3, a4⟩, a5, a6, a7, a8, a9⟩ := h
  refine ⟨fun q hq => ?_, a2, ⟨h6.trans a3, fun i hi => ?_⟩, h11.trans a5, h10.trans a6, fun k hk => ?_, fun k hk => ?_, fun x s hs => ?_⟩
  · rw [hL 12 (by decide) (by decide), hI 13 (by decide) (by decide), hL 14 (by decide) (by decide)]; exact a1 q hq
  · rw [hL 15 (by decide) (by decide), hI 17 (by decide) (by decide), hI 16 (by decide) (by decide)]; exact a4 i hi
  · rw [hL 18 (by decide) (by decide)]; exact a7 k hk
  · rw [hI 19 (by decide) (by decide)]; exact a8 k hk
  · rw [hI 20 (by decide) (by decide), hI 21 (by decide) (by decide)]; exact a9 x s hs
/-- what noting leaves -/
def FKN (I I' : Nat → Nat → Int32) (L L' : Nat → Nat → Int64) : Prop :=
  (∀ o k, ¬ (12 ≤ o ∧ o ≤ 21) → ¬ (o = 11 ∧ (k = 6 ∨ k = 10)) → I' o k = I o k) ∧ ∀ o k, ¬ (12 ≤ o ∧ o ≤ 21) → ¬ (o = 11 ∧ k = 11) → L' o k = L o k
section KWALK
variable {X : aw_X} {d : Nat} {Q : Option Value → aw_H → Prop} {I : Nat → Nat → Int32} {L : Nat → Nat → Int64} {D : Nat → Nat}
theorem l_Wk_rounds {any : Nat} {mn mx ys : Nat → Nat} (ha : any = 0 ∨ any = 1) (hys : ∀ s, ys s ≤ 1000) (hmn : ∀ s, mn s ≤ 1000) (hmx : ∀ s, mx s ≤ 1000) (hv : any = 1 → ∀ s, s < 60 → I 20 s = nI (mn s) ∧ I 21 s = nI (mx s)) (h10 : I 11 10 = nI any) (hy : ∀ s, s < 60 → I 10 s = nI (ys s))
    (hQ : ∀ I', (∀ o k, o ≠ 20 → o ≠ 21 → ¬ (o = 11 ∧ k = 10) → I' o k = I o k) → I' 11 10 = 1 → (∀ s, s < 60 → I' 20 s = nI (if any = 0 then ys s else if ys s < mn s then ys s else mn s) ∧ I' 21 s = nI (if any = 0 then ys s else if mx s < ys s then ys s else mx s)) → Q none (aw_s I' L D)) :
    ∀ (m k : Nat) (J : Nat → Nat → Int32), k + m = 60 → (∀ o, o ≠ 20 → o ≠ 21 → J o = I o) → (∀ s, k ≤ s → J 20 s = I 20 s ∧ J 21 s = I 21 s) → (∀ s, s < k → J 20 s = nI (if any = 0 then ys s else if ys s < mn s then ys s else mn s) ∧ J 21 s = nI (if any = 0 then ys s else if mx s < ys s then ys s else mx s)) →
      aw_z X (d + 1) y_Wk_noteRounds Q 2 [some (.ref 11), some (.ref 4), some (.int (nI k)), none] [] (aw_s J L D) := by
  intro m
  induction m with
  | zero =>
    intro k J e hf hs hd
    have : k = 60 := by omega
    subst this
    exact b_Wk_noteRounds_2 (fun _ => hQ _ (fun o x p q r => by rw [au_ok (by omega)]; rw [hf o p q]) (au_s _ _ _ _) (fun s hs => by rw [au_o (by decide), au_o (by decide)]; exact hd s hs)) (fun q => absurd (by decide) q)
  | succ m ih =>
    intro k J e hf hs hd
    have h60 : ¬ (60 : Int32) ≤ nI k := by rw [show (60 : Int32) = nI 60 from rfl, nI_leI (by decide) (by omega)]; omega
    have vk := aw_in_nI (show k < 60 by omega) (show 60 < 2 ^ 31 by decide)
    have kc : (nI k).toNatClampNeg = k := nI_clamp (by omega)
    refine b_Wk_noteRounds_2 (fun q => absurd q h60) (fun _ => c_valueAtN (N := 60) (by decide) rfl (by decide) (show k < 60 by omega) ?_)
    show aw_z X (d + 1) y_Wk_noteRounds Q 16 [some (.ref 11), some (.ref 4), some (.int (nI k)), none] [.int (J 10 k)] (aw_s J L D)
    rw [hf 10 (by decide) (by decide), hy k (by omega)]
    have ej : J 11 10 = nI any := by rw [hf 11 (by decide) (by decide)]; exact h10
    -- the greatest, then on
    have go70 : ∀ (J' : Nat → Nat → Int32) (a b : Int32), J' = aw_u J 20 k a → a = nI (if any = 0 then ys k else if ys k < mn k then ys k else mn k) → b = nI (if any = 0 then ys k else if mx k < ys k then ys k else mx k) → aw_z X (d + 1) y_Wk_noteRounds Q 70 [some (.ref 11), some (.ref 4), some (.int (nI k)), none] [.int b, .int (nI k), .ref 21] (aw_s J' L D) := fun J' a b e1 e2 e3 => by
      subst e1
      refine b_Wk_noteRounds_70 vk ?_
      rw [kc, nI_1]
      refine ih (k + 1) _ (by omega) (fun o p q => by rw [au_o q, au_o p]; exact hf o p q) (fun s hs2 => ?_) (fun s hs2 => ?_)
      · rw [au_o (by decide), au_k (by omega), au_k (by omega), au_o (by decide)]; exact hs s (by omega)
      · by_cases q : s = k
        · subst q; rw [au_o (by decide), au_s, au_s]; exact ⟨e2, e3⟩
        · rw [au_o (by decide), au_k q, au_k q, au_o (by decide)]; exact hd s (by omega)
    have any0 : any = 0 → J 11 10 = 0 := fun q => by rw [ej, q]; rfl
    have any1 : J 11 10 = 0 → any = 0 := fun q => by
      rcases ha with g | g
      · exact g
      · rw [ej, g] at q; exact absurd q (by decide)
    have go43 : ∀ a : Int32, a = nI (if any = 0 then ys k else if ys k < mn k then ys k else mn k) → aw_z X (d + 1) y_Wk_noteRounds Q 43 [some (.ref 11), some (.ref 4), some (.int (nI k)), some (.int (nI (ys k)))] [.int a, .int (nI k), .ref 20] (aw_s J L D) := fun a ea => by
      refine bb_noteRounds_43 vk (fun q => ?_) (fun _ => vk) (fun q => ?_)
      · rw [kc]; exact go70 _ a _ rfl ea (by rw [if_pos (any1 q)])
      · have a1 : any = 1 := ha.elim (fun g => absurd (any0 g) q) id
        rw [kc, show J 21 k = nI (mx k) from (hs k (Nat.le_refl _)).2.trans (hv a1 k (by omega)).2]
        refine go70 _ a _ rfl ea ?_
        have := hys k
        have := hmx k
        have c1 : nI (mx k) < nI (ys k) ↔ mx k < ys k := nI_ltI (by omega) (by omega)
        rw [if_neg (show ¬ any = 0 by omega)]
        by_cases g : mx k < ys k
        · rw [if_pos (c1.mpr g), if_pos g]
        · rw [if_neg (fun z => g (c1.mp z)), if_neg g]
    refine bb_noteRounds_16 (fun q => go43 _ (by rw [if_pos (any1 q)])) (fun _ => vk) (fun q => ?_)
    have a1 : any = 1 := ha.elim (fun g => absurd (any0 g) q) id
    rw [kc, show J 20 k = nI (mn k) from (hs k (Nat.le_refl _)).1.trans (hv a1 k (by omega)).1]
    refine go43 _ ?_
    have := hys k
    have := hmn k
    have c1 : nI (ys k) < nI (mn k) ↔ ys k < mn k := nI_ltI (by omega) (by omega)
    rw [if_neg (show ¬ any = 0 by omega)]
    by_cases g : ys k < mn k
    · rw [if_pos (c1.mpr g), if_pos g]
    · rw [if_neg (fun z => g (c1.mp z)), if_neg g]
theorem c_Wk_note {B F cs r n : Nat} {E : Nat → PE} {wl wc : Nat → Nat} {f : Nat → Int64} (hr : r < 4096) (hF : F ≤ 40) (hB : B ≤ 6) (hcs : cs ≤ 60) (hE : WE B F cs E) (h : KWn E r n wl wc I L)
    (h12 : I 4 12 = nI (eB (E r))) (h13 : I 4 13 = nI (eD (E r)).length) (h14 : L 4 14 = pathL (eD (E r))) (h15 : I 4 15 = eE (E r)) (h16 : I 4 16 = eS (E r)) (h9 : L 9 = trL f (eT (E r))) (h10 : ∀ s, s < 60 → I 10 s = nI (eY (E r) s))
    (hQ : ∀ I' L' n' wl' wc', KWn E (r + 1) n' wl' wc' I' L' → FKN I I' L L' → Q none (aw_s I' L' D)) : aw_m X (d + 4) y_Wk_note [.ref 11, .int (nI r), .ref 4] (aw_s I L D) Q := by
  have a0 : ¬ nI r < 0 := nI_pos (by omega)
  have a1 : nI r < (4096 : Int32) := by rw [show (4096 : Int32) = nI 4096 from rfl, nI_ltI (by omega) (by decide)]; omega
  have vr := aw_in_nI hr (show 4096 < 2 ^ 31 by decide)
  have rc : (nI r).toNatClampNeg = r := nI_clamp (by omega)
  have hEr := hE.1 r
  obtain ⟨k1, k2, k3, k4, k5, k6, k7, k8⟩ := h
  refine aw_go rfl rfl (b_Wk_note_0 (fun q => absurd q a0) (fun _ _ => c_Wk_keyOf hF hEr h12 h13 h14 h15 h16 (b_Wk_note_16 vr vr vr ?_)) (fun _ q => absurd a1 q))
  rw [rc, h16]
  refine c_Wk_noteWay (d := d + 1) (K := kK E) hr (fun q => Nat.lt_trans (key_lt hF (hE.1 q)) (by decide)) k2 ⟨by rw [au_o (by decide)]; exact k3.1, fun i hi => by rw [au_o (by decide), au_o (by decide), au_o (by decide), au_o (by decide)]; exact k3.2 i hi⟩ (fun I1 L1 n' wl' wc' w1 w2 f1 f2 => ?_)
  -- the rows before and this one
  have row : ∀ (I2 : Nat → Nat → Int32) (L2 : Nat → Nat → Int64), (∀ q, I2 13 q = I1 13 q) → (∀ q, L2 12 q = L1 12 q) → (∀ q, q ≠ r → L2 14 q = L1 14 q) → L2 14 r = bsW E r → ∀ q, q < r + 1 → L2 12 q = lN (keyN (E q)) ∧ I2 13 q = eS (E q) ∧ L2 14 q = bsW E q := fun I2 L2 g1 g2 g3 g4 q hq => by
    rw [g1, g2, f1 13 q (by omega) (by decide) (by decide), f2 12 (by decide), au_o (by decide)]
    by_cases g : q = r
    · subst g
      rw [au_s, au_s]; exact ⟨rfl, rfl, g4⟩
    · rw [g3 q g, f2 14 (by decide), au_k g, au_k g, au_k g, au_o (by decide)]; exact k1 q (by omega)
  have e15 : I1 4 15 = eE (E r) := by rw [f1 4 15 (by omega) (by decide) (by decide), au_o (by decide)]; exact h15
  have i1 : ∀ o k, o ≠ 13 → o ≠ 16 → o ≠ 17 → ¬ (o = 11 ∧ k = 6) → I1 o k = I o k := fun o k p13 p16 p17 p => by rw [f1 o k p p16 p17, au_o p13]
  have l1 : ∀ o, o ≠ 12 → o ≠ 14 → o ≠ 15 → L1 o = L o := fun o p q r => by rw [f2 o r, au_o q, au_o p]
  refine b_Wk_note_47 (fun q => b_Wk_note_86 (hQ I1 L1 n' wl' wc' ⟨row I1 L1 (fun _ => rfl) (fun _ => rfl) (fun _ _ => rfl) ?_, w1, w2, ?_, ?_, fun k hk => ?_, fun k hk => ?_, fun x s hs => ?_⟩ ⟨fun o k a b => ?_, fun o k a b => ?_⟩)) (fun q => ?_)
  · have q : eE (E r) = 4 := e15.symm.trans q
    rw [f2 14 (by decide), au_s, bsW, if_pos q]
  · have q : eE (E r) = 4 := e15.symm.trans q
    rw [l1 11 (by decide) (by decide) (by decide), k4, allB, if_pos q]
  · have q : eE (E r) = 4 := e15.symm.trans q
    rw [i1 11 10 (by decide) (by decide) (by decide) (by decide), k5, anyW, if_pos q]
  · have q : eE (E r) = 4 := e15.symm.trans q
    rw [l1 18 (by decide) (by decide) (by decide), k6 k hk, mayW, if_pos q]
  · have q : eE (E r) = 4 := e15.symm.trans q
    rw [i1 19 k (by decide) (by decide) (by decide) (by omega), k7 k hk, stW, if_pos q]
  · have q : eE (E r) = 4 := e15.symm.trans q
    rw [anyW, if_pos q] at x
    rw [i1 20 s (by decide) (by decide) (by decide) (by omega), i1 21 s (by decide) (by decide) (by decide) (by omega), mnW, mxW, if_pos q, if_pos q]
    exact k8 x s hs
  · exact i1 o k (by omega) (by omega) (by omega) (by omega)
  · rw [l1 o (by omega) (by omega) (by omega)]
  · have q : ¬ eE (E r) = 4 := fun z => q (e15.trans z)
    obtain ⟨x1, x2, x3, x4, x5, x6, x7⟩ := hEr
    refine c_Wk_noteTrace (d := d) (f := f) hB hcs (by omega) x6 (by rw [i1 4 12 (by decide) (by decide) (by decide) (by decide), x5]; exact h12) (by rw [l1 9 (by decide) (by decide) (by decide)]; exact h9) (fun I2 L2 g1 g2 g3 g4 => b_Wk_note_65 vr vr ?_)
    rw [rc, au_s]
    have hys : ∀ s, eY (E r) s ≤ 1000 := fun s => by have := x7 s; omega
    have hy : ∀ s, s < 60 → I2 10 s = nI (eY (E r) s) := fun s hs => by rw [g1 10 (by decide), i1 10 s (by decide) (by decide) (by decide) (by omega)]; exact h10 s hs
    have e10 : I2 11 10 = nI (anyW E r) := by rw [g1 11 (by decide), i1 11 10 (by decide) (by decide) (by decide) (by decide)]; exact k5
    have hv : anyW E r = 1 → ∀ s, s < 60 → I2 20 s = nI (mnW E s r) ∧ I2 21 s = nI (mxW E s r) := fun x s hs => by
      rw [g1 20 (by decide), g1 21 (by decide), i1 20 s (by decide) (by decide) (by decide) (by omega), i1 21 s (by decide) (by decide) (by decide) (by omega)]; exact k8 x s hs
    refine aw_go rfl rfl (b_Wk_noteRounds_0 (l_Wk_rounds (d := d + 2) (mn := fun s => mnW E s r) (mx := fun s => mxW E s r) (any_1 E r) hys (fun s => mn_le E s r) (fun s => Nat.le_trans (mx_le hF hE s r) (by decide)) hv e10 hy (fun I3 m1 m2 m3 => b_Wk_note_86 (hQ _ _ n' wl' wc' ⟨row _ _ (fun q => ?_) (fun q => ?_) (fun q hq => ?_) ?_, w1, ⟨?_, fun i hi => ?_⟩, ?_, ?_, fun k hk => ?_, fun k hk => ?_, fun _ s hs => ?_⟩ ⟨fun o k a b => ?_, fun o k a b => ?_⟩)) 60 0 I2 rfl (fun _ _ _ => rfl) (fun _ _ => ⟨rfl, rfl⟩) (fun _ h => absurd h (Nat.not_lt_zero _))))
    · rw [m1 13 q (by decide) (by decide) (by omega), g1 13 (by decide)]
    · rw [au_o (by decide), au_o (by decide), g3 12 (by decide)]
    · rw [au_o (by decide), au_k hq, g3 14 (by decide)]
    · rw [au_o (by decide), au_s, bsW, if_neg q]
    · rw [m1 11 6 (by decide) (by decide) (by decide), g1 11 (by decide)]; exact w2.1
    · rw [au_o (by decide), au_o (by decide), g3 15 (by decide), m1 17 i (by decide) (by decide) (by omega), g1 17 (by decide), m1 16 i (by decide) (by decide) (by omega), g1 16 (by decide)]; exact w2.2 i hi
    · rw [au_s, g3 11 (by decide), l1 11 (by decide) (by decide) (by decide), k4, allB, if_neg q]
    · rw [m2, anyW, if_neg q]; rfl
    · rw [au_o (by decide), au_o (by decide), g4, mayW, if_neg q]
      exact mayT_e _ (by rw [l1 18 (by decide) (by decide) (by decide)]; exact k6 k hk)
    · rw [m1 19 k (by decide) (by decide) (by omega), g2, stW, if_neg q]
      exact stT_e _ (by rw [i1 19 k (by decide) (by decide) (by decide) (by omega)]; exact k7 k hk)
    · have m := m3 s hs
      rw [m.1, m.2, mnW, mxW, if_neg q, if_neg q]
      rcases any_1 E r with z | z
      · obtain ⟨z1, z2⟩ := any_0 E s r z
        have := hys s
        rw [if_pos z, if_pos z, z1, z2]
        refine ⟨congrArg nI ?_, congrArg nI ?_⟩
        · split <;> omega
        · split <;> omega
      · have z' : ¬ anyW E r = 0 := by omega
        rw [if_neg z', if_neg z']
        exact ⟨rfl, rfl⟩
    · rw [m1 o k (by omega) (by omega) (by omega), g1 o (by omega)]; exact i1 o k (by omega) (by omega) (by omega) (by omega)
    · rw [au_ok (by omega), au_o (by omega), g3 o (by omega), l1 o (by omega) (by omega) (by omega)]
end KWALK
