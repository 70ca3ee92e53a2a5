/-! PART 72: the reference's reading: its state, small methods -/
/-- tokens; the text, its length, where each token is looked for; from which order on, how many less; the heap ahead -/
abbrev MC : Type := TD × (Nat → Int32) × Nat × (Nat → Nat) × Nat × Nat × (Nat → Nat → Int32) × (Nat → Nat → Int64)
abbrev mTd (C : MC) : TD := C.1
abbrev mBt (C : MC) : Nat → Int32 := C.2.1
abbrev mZ (C : MC) : Nat := C.2.2.1
abbrev mPs (C : MC) : Nat → Nat := C.2.2.2.1
abbrev mLo (C : MC) : Nat := C.2.2.2.2.1
abbrev mDl (C : MC) : Nat := C.2.2.2.2.2.1
abbrev mI0 (C : MC) : Nat → Nat → Int32 := C.2.2.2.2.2.2.1
abbrev mL0 (C : MC) : Nat → Nat → Int64 := C.2.2.2.2.2.2.2
def mOK (C : MC) : Prop := isToks (mBt C) (mZ C) (mTd C).1 (mPs C) (tK (mTd C)) (tV (mTd C)) (tP (mTd C)) ∧ mDl C ≤ mLo C ∧ mDl C ≤ 40
/-- the pile of open brackets and waiting orders -/
def PL (f : Nat → Int32) : List Nat → Prop
  | [] => True
  | o :: os => f os.length = nI o ∧ PL f os
theorem PL_up {f : Nat → Int32} {x : Int32} {k : Nat} : ∀ {p : List Nat}, p.length ≤ k → PL f p → PL (va_up f k x) p
  | [], _, _ => trivial
  | o :: os, hk, h => ⟨by rw [up_n _ _ (by simp at hk; omega)]; exact h.1, PL_up (by simp at hk; omega) h.2⟩
/-- the blocks that are open: what kind, which order to mend, where it began -/
def BL (f g h : Nat → Int32) : List (Nat × Nat × Nat) → Prop
  | [] => True
  | b :: bs => f bs.length = nI b.1 ∧ g bs.length = nI b.2.1 ∧ h bs.length = nI b.2.2 ∧ BL f g h bs
theorem BL_up {f g h : Nat → Int32} {x y z : Int32} {k : Nat} : ∀ {p : List (Nat × Nat × Nat)}, p.length ≤ k → BL f g h p → BL (va_up f k x) (va_up g k y) (va_up h k z) p
  | [], _, _ => trivial
  | o :: os, hk, hh => ⟨by rw [up_n _ _ (by simp at hk; omega)]; exact hh.1, by rw [up_n _ _ (by simp at hk; omega)]; exact hh.2.1, by rw [up_n _ _ (by simp at hk; omega)]; exact hh.2.2.1, BL_up (by simp at hk; omega) hh.2.2.2⟩
def FRM (C : MC) (I : Nat → Nat → Int32) (L : Nat → Nat → Int64) : Prop :=
  (∀ o, o ≠ 69 → o ≠ 71 → o ≠ 72 → o ≠ 75 → o ≠ 76 → o ≠ 77 → o ≠ 78 → o ≠ 79 → o ≠ 80 → o ≠ 81 → o ≠ 82 → o ≠ 83 → I o = mI0 C o) ∧
  (∀ k, ¬ (4 ≤ k ∧ k ≤ 8) → ¬ (25 ≤ k ∧ k ≤ 28) → k ≠ 30 → I 69 k = mI0 C 69 k) ∧
  (∀ j, ¬ (4000 + (mLo C - mDl C) ≤ j ∧ j < 4800) → I 71 j = mI0 C 71 j ∧ I 72 j = mI0 C 72 j) ∧ (∀ j, j ≠ 5 → I 75 j = mI0 C 75 j ∧ I 76 j = mI0 C 76 j) ∧ (∀ j, ¬ (300 ≤ j ∧ j < 360 ∧ (I 77 j = 0 ∨ I 77 j = 1)) → I 77 j = mI0 C 77 j) ∧ (∀ j, ¬ (100 ≤ j ∧ j < 120) → I 78 j = mI0 C 78 j) ∧ (∀ o k, ¬ (o = 69 ∧ k = 11) → L o k = mL0 C o k)
/-- the reference stands at a token -/
def MTk (C : MC) (i : Nat) (I : Nat → Nat → Int32) (L : Nat → Nat → Int64) : Prop :=
  i ≤ (mTd C).1 ∧ I 69 5 = nI (tP (mTd C) i) ∧ mT (tK (mTd C) i) (tV (mTd C) i) (I 69 6) (I 69 7) (I 69 8) (L 69 11) ∧ I 69 4 = nI (mPs C (i + 1))
def MPc (C : MC) (S : PT) (p : List Nat) (k : Nat) (bs : List (Nat × Nat × Nat)) (I : Nat → Nat → Int32) : Prop :=
  I 69 25 = nI p.length ∧ PL (I 79) p ∧ I 69 26 = nI bs.length ∧ BL (I 80) (I 81) (I 82) bs ∧ I 69 27 = nI (10 - k) ∧ I 69 28 = nI (cU S) ∧ I 69 29 = 5 ∧ I 69 30 = nI (cn S - mDl C) ∧ I 75 5 = nI (cS S) ∧ I 76 5 = nI (cM S) ∧
  (∀ j, mLo C ≤ j → j < cn S → I 71 (4000 + (j - mDl C)) = nI (cP S j).1 ∧ I 72 (4000 + (j - mDl C)) = (cP S j).2) ∧
  (mDl C = 0 → ∀ j, j < 20 → j < cM S → I 78 (100 + j) = nI (cA S j)) ∧ (∀ s, s < cS S → I 77 (300 + s) = p_b (cW S s)) ∧ (∀ j, j < 4 → I 83 j = cR S j) ∧
  cU S ≤ 150 ∧ cS S ≤ 60 ∧ cM S ≤ cU S ∧ mLo C ≤ cn S ∧ k ≤ 10 ∧ bs.length ≤ 10
def MP (C : MC) (S : PT) (p : List Nat) (k : Nat) (bs : List (Nat × Nat × Nat)) (I : Nat → Nat → Int32) (L : Nat → Nat → Int64) : Prop :=
  FRM C I L ∧ MTp I (mBt C) (mZ C) ∧ MTk C (ti S) I L ∧ MPc C S p k bs I
/-- a fault -/
def MF (C : MC) (e : Int32 × Nat) (I : Nat → Nat → Int32) (L : Nat → Nat → Int64) : Prop := ∃ I0, FRM C I0 L ∧ I = aw_u (aw_u I0 69 9 e.1) 69 10 (nI (tP (mTd C) e.2))
theorem mT_sign {K V kd nb sg ch : Int32} {wd : Int64} (h : mT K V kd nb sg wd) (hc : ch ∈ mks) : (kd = 4 ∧ sg = ch) ↔ K = ch := by
  obtain ⟨m0, m1, m2, m3, m4, m7⟩ := mks_ne hc
  have key : ∀ w, w < 12 → nI (w + 5) ≠ ch := by
    intro w hw e
    have : ∀ w, w < 12 → ¬ nI (w + 5) ∈ mks := by decide +kernel
    exact this w hw (e ▸ hc)
  rcases h with ⟨rfl, h⟩ | ⟨rfl, rfl⟩ | ⟨rfl, rfl, -⟩ | ⟨rfl, rfl, -⟩ | ⟨rfl, rfl, -⟩ | ⟨w, hw, rfl, rfl, -⟩ | ⟨hK, rfl, rfl⟩
  · refine ⟨fun x => ?_, fun x => absurd x.symm m0⟩
    rcases h with rfl | ⟨rfl, -⟩ <;> exact absurd x.1 (by decide)
  · exact ⟨fun x => absurd x.1 (by decide), fun x => absurd x.symm m1⟩
  · exact ⟨fun x => absurd x.1 (by decide), fun x => absurd x.symm m2⟩
  · exact ⟨fun x => absurd x.1 (by decide), fun x => absurd x.symm m3⟩
  · exact ⟨fun x => absurd x.1 (by decide), fun x => absurd x.symm m4⟩
  · exact ⟨fun x => absurd x.1 (by decide), fun x => absurd x (key w hw)⟩
  · exact ⟨fun x => x.2, fun x => ⟨rfl, x⟩⟩
theorem kyC_inj : ∀ w, w < 12 → ∀ v, v < 12 → kyC w = kyC v → w = v := by decide +kernel
theorem nmk : ∀ w, w < 12 → ¬ nI (w + 5) ∈ mks := by decide +kernel
theorem mT_key {K V kd nb sg : Int32} {wd : Int64} {w : Nat} (h : mT K V kd nb sg wd) (hw : w < 12) : (kd = 2 ∧ wd = lN (kyC w)) ↔ K = nI (w + 5) := by
  obtain ⟨b1, b2⟩ := kyC_big w hw
  have small : ∀ x, x < 5 → (nI x = nI (w + 5)) → False := fun x hx e => by rw [nI_eq (by omega) (by omega)] at e; omega
  rcases h with ⟨rfl, h⟩ | ⟨rfl, rfl⟩ | ⟨rfl, rfl, v, hv, -, rfl⟩ | ⟨rfl, rfl, v, hv, -, rfl⟩ | ⟨rfl, rfl, -⟩ | ⟨v, hv, rfl, rfl, rfl⟩ | ⟨hK, rfl, rfl⟩
  · refine ⟨fun x => ?_, fun x => (small 0 (by decide) x).elim⟩
    rcases h with rfl | ⟨rfl, m, rfl, hm, -, -, hn⟩
    · exact absurd x.1 (by decide)
    · exact absurd ((lN_eq hm b2).mp x.2) (hn w hw)
  · exact ⟨fun x => absurd x.1 (by decide), fun x => (small 1 (by decide) x).elim⟩
  · exact ⟨fun x => absurd ((lN_eq (by omega) b2).mp x.2) (by omega), fun x => (small 2 (by decide) x).elim⟩
  · exact ⟨fun x => absurd ((lN_eq (by omega) b2).mp x.2) (by omega), fun x => (small 3 (by decide) x).elim⟩
  · exact ⟨fun x => absurd x.1 (by decide), fun x => (small 4 (by decide) x).elim⟩
  · obtain ⟨b3, b4⟩ := kyC_big v hv
    refine ⟨fun x => ?_, fun x => ⟨rfl, ?_⟩⟩
    · rw [kyC_inj v hv w hw ((lN_eq b4 b2).mp x.2)]
    · rw [nI_eq (by omega) (by omega)] at x
      rw [show v = w by omega]
  · exact ⟨fun x => absurd x.1 (by decide), fun x => absurd (x ▸ hK) (nmk w hw)⟩
theorem cmp_lt {a b : Nat} (ha : a < 2 ^ 31) (hb : b < 2 ^ 31) : (lg_cmp (lN a) (lN b) < 0) = (a < b) := by
  unfold lg_cmp
  by_cases h1 : lN a > lN b
  · rw [if_pos h1]
    have : b < a := (lN_lt hb ha).mp h1
    exact propext ⟨fun x => absurd x (by decide), fun x => by omega⟩
  · rw [if_neg h1]
    have h1 : ¬ b < a := fun x => h1 ((lN_lt hb ha).mpr x)
    by_cases h2 : lN a = lN b
    · rw [if_pos h2]
      have := (lN_eq ha hb).mp h2
      exact propext ⟨fun x => absurd x (by decide), fun x => by omega⟩
    · rw [if_neg h2]
      have : a ≠ b := fun x => h2 (by rw [x])
      exact propext ⟨fun _ => by omega, fun _ => by decide⟩
theorem cmp_gt {a b : Nat} (ha : a < 2 ^ 31) (hb : b < 2 ^ 31) : (0 < lg_cmp (lN a) (lN b)) = (b < a) := by
  unfold lg_cmp
  by_cases h1 : lN a > lN b
  · rw [if_pos h1]
    exact propext ⟨fun _ => (lN_lt hb ha).mp h1, fun _ => by decide⟩
  · rw [if_neg h1]
    have h1 : ¬ b < a := fun x => h1 ((lN_lt hb ha).mpr x)
    by_cases h2 : lN a = lN b
    · rw [if_pos h2]
      exact propext ⟨fun x => absurd x (by decide), fun x => absurd x h1⟩
    · rw [if_neg h2]
      exact propext ⟨fun x => absurd x (by decide), fun x => absurd x h1⟩
theorem cmp_eq (x y : Int64) : (lg_cmp x y = 0) = (x = y) := by
  unfold lg_cmp
  by_cases h1 : x > y
  · rw [if_pos h1]
    exact propext ⟨fun g => absurd g (by decide), fun g => absurd h1 (by rw [g]; exact Int64.lt_irrefl)⟩
  · rw [if_neg h1]
    by_cases h2 : x = y
    · rw [if_pos h2]; exact propext ⟨fun _ => h2, fun _ => rfl⟩
    · rw [if_neg h2]; exact propext ⟨fun g => absurd g (by decide), fun g => absurd g h2⟩
/-- a word between two numbers: names, procs -/
theorem mT_rng {K V kd nb sg : Int32} {wd : Int64} (h : mT K V kd nb sg wd) : ((kd = 2 ∧ ¬ lg_cmp wd 1 < 0 ∧ ¬ 0 < lg_cmp wd 8) ↔ K = 2) ∧ ((kd = 2 ∧ ¬ lg_cmp wd 16 < 0 ∧ ¬ 0 < lg_cmp wd 19) ↔ K = 3) := by
  have w : ∀ m, m < 2 ^ 31 → ((¬ lg_cmp (lN m) 1 < 0 ∧ ¬ 0 < lg_cmp (lN m) 8) ↔ (1 ≤ m ∧ m ≤ 8)) ∧ ((¬ lg_cmp (lN m) 16 < 0 ∧ ¬ 0 < lg_cmp (lN m) 19) ↔ (16 ≤ m ∧ m ≤ 19)) := by
    intro m hm
    have a1 : (lg_cmp (lN m) 1 < 0) = (m < 1) := cmp_lt (b := 1) hm (by decide)
    have a2 : (0 < lg_cmp (lN m) 8) = (8 < m) := cmp_gt (b := 8) hm (by decide)
    have a3 : (lg_cmp (lN m) 16 < 0) = (m < 16) := cmp_lt (b := 16) hm (by decide)
    have a4 : (0 < lg_cmp (lN m) 19) = (19 < m) := cmp_gt (b := 19) hm (by decide)
    rw [a1, a2, a3, a4]
    omega
  rcases h with ⟨rfl, h⟩ | ⟨rfl, rfl⟩ | ⟨rfl, rfl, v, hv, -, rfl⟩ | ⟨rfl, rfl, v, hv, -, rfl⟩ | ⟨rfl, rfl, -⟩ | ⟨v, hv, rfl, rfl, rfl⟩ | ⟨hK, rfl, rfl⟩
  · rcases h with rfl | ⟨rfl, m, rfl, hm, n1, n2, -⟩
    · exact ⟨⟨fun x => absurd x.1 (by decide), fun x => absurd x (by decide)⟩, ⟨fun x => absurd x.1 (by decide), fun x => absurd x (by decide)⟩⟩
    · exact ⟨⟨fun x => absurd ((w m hm).1.mp x.2) n1, fun x => absurd x (by decide)⟩, ⟨fun x => absurd ((w m hm).2.mp x.2) n2, fun x => absurd x (by decide)⟩⟩
  · exact ⟨⟨fun x => absurd x.1 (by decide), fun x => absurd x (by decide)⟩, ⟨fun x => absurd x.1 (by decide), fun x => absurd x (by decide)⟩⟩
  · exact ⟨⟨fun _ => rfl, fun _ => ⟨rfl, (w _ (by omega)).1.mpr (by omega)⟩⟩, ⟨fun x => absurd ((w _ (by omega)).2.mp x.2) (by omega), fun x => absurd x (by decide)⟩⟩
  · exact ⟨⟨fun x => absurd ((w _ (by omega)).1.mp x.2) (by omega), fun x => absurd x (by decide)⟩, ⟨fun _ => rfl, fun _ => ⟨rfl, (w _ (by omega)).2.mpr (by omega)⟩⟩⟩
  · exact ⟨⟨fun x => absurd x.1 (by decide), fun x => absurd x (by decide)⟩, ⟨fun x => absurd x.1 (by decide), fun x => absurd x (by decide)⟩⟩
  · obtain ⟨b3, b4⟩ := kyC_big v hv
    have e2 : ¬ nI (v + 5) = 2 := fun e => by rw [show (2 : Int32) = nI 2 from rfl, nI_eq (by omega) (by omega)] at e; omega
    have e3 : ¬ nI (v + 5) = 3 := fun e => by rw [show (3 : Int32) = nI 3 from rfl, nI_eq (by omega) (by omega)] at e; omega
    exact ⟨⟨fun x => absurd ((w _ b4).1.mp x.2) (by omega), fun x => absurd x e2⟩, ⟨fun x => absurd ((w _ b4).2.mp x.2) (by omega), fun x => absurd x e3⟩⟩
  · obtain ⟨m0, m1, m2, m3, m4, m7⟩ := mks_ne hK
    exact ⟨⟨fun x => absurd x.1 (by decide), fun x => absurd x m2⟩, ⟨fun x => absurd x.1 (by decide), fun x => absurd x m3⟩⟩
theorem mT_num {K V kd nb sg : Int32} {wd : Int64} (h : mT K V kd nb sg wd) : (kd = 3 ↔ K = 4) ∧ (K = 4 → nb = V) ∧ (kd = 0 ↔ K = 1) ∧ (kd = 1 → K = 0) := by
  have e : ∀ v x, v < 12 → x < 5 → ¬ nI (v + 5) = nI x := fun v x hv hx e => by rw [nI_eq (by omega) (by omega)] at e; omega
  rcases h with ⟨rfl, h⟩ | ⟨rfl, rfl⟩ | ⟨rfl, rfl, v, hv, -, rfl⟩ | ⟨rfl, rfl, v, hv, -, rfl⟩ | ⟨rfl, rfl, rfl⟩ | ⟨v, hv, rfl, rfl, rfl⟩ | ⟨hK, rfl, rfl⟩
  · rcases h with rfl | ⟨rfl, -⟩
    · exact ⟨by decide, fun x => absurd x (by decide), by decide, by decide⟩
    · exact ⟨by decide, fun x => absurd x (by decide), by decide, by decide⟩
  · exact ⟨by decide, fun x => absurd x (by decide), by decide, by decide⟩
  · refine ⟨by decide, fun x => absurd x (by decide), by decide, by decide⟩
  · refine ⟨by decide, fun x => absurd x (by decide), by decide, by decide⟩
  · refine ⟨by decide, fun _ => rfl, by decide, by decide⟩
  · exact ⟨⟨fun x => absurd x (by decide), fun x => absurd x (e v 4 hv (by decide))⟩, fun x => absurd x (e v 4 hv (by decide)), ⟨fun x => absurd x (by decide), fun x => absurd x (e v 1 hv (by decide))⟩, fun x => absurd x (by decide)⟩
  · obtain ⟨m0, m1, m2, m3, m4, m7⟩ := mks_ne hK
    exact ⟨⟨fun x => absurd x (by decide), fun x => absurd x m4⟩, fun x => absurd x m4, ⟨fun x => absurd x (by decide), fun x => absurd x m1⟩, fun x => absurd x (by decide)⟩
def spI (a b c d e : Int32) : Int64 :=
  let v0 := (((27 : Int64) * (a.toInt64 - (96 : Int64))) + b.toInt64) - (96 : Int64)
  let v1 := if c ≤ 0 then v0 else (((27 : Int64) * v0) + c.toInt64) - (96 : Int64)
  let v2 := if d ≤ 0 then v1 else (((27 : Int64) * v1) + d.toInt64) - (96 : Int64)
  if e ≤ 0 then v2 else (((27 : Int64) * v2) + e.toInt64) - (96 : Int64)
section MPA
variable {X : aw_X} {d : Nat} {Q : Option Value → aw_H → Prop} {I : Nat → Nat → Int32} {L : Nat → Nat → Int64} {D : Nat → Nat} {C : MC} {S : PT} {p : List Nat} {k : Nat} {bs : List (Nat × Nat × Nat)}
theorem c_M_spelt {a b c d' e : Int32} {v : Int64} (hv : spI a b c d' e = v) (h : Q (some (.long v)) (aw_s I L D)) : aw_m X d y_M_spelt [.int a, .int b, .int c, .int d', .int e] (aw_s I L D) Q := by
  subst hv
  have k57 : ∀ v2, v2 = (if d' ≤ 0 then (if c ≤ 0 then (((27 : Int64) * (a.toInt64 - (96 : Int64))) + b.toInt64) - (96 : Int64) else (((27 : Int64) * ((((27 : Int64) * (a.toInt64 - (96 : Int64))) + b.toInt64) - (96 : Int64))) + c.toInt64) - (96 : Int64)) else (((27 : Int64) * (if c ≤ 0 then (((27 : Int64) * (a.toInt64 - (96 : Int64))) + b.toInt64) - (96 : Int64) else (((27 : Int64) * ((((27 : Int64) * (a.toInt64 - (96 : Int64))) + b.toInt64) - (96 : Int64))) + c.toInt64) - (96 : Int64))) + d'.toInt64) - (96 : Int64)) → aw_z X d y_M_spelt Q 57 [none, none, none, none, some (.int e), some (.long v2), none] [] (aw_s I L D) := by
    intro v2 e2
    refine b_M_spelt_57 (fun q => ?_) (fun q => ?_)
    · rw [e2]; unfold spI at h; dsimp only at h; rw [if_pos q] at h; exact h
    · rw [e2]; unfold spI at h; dsimp only at h; rw [if_neg q] at h; exact h
  refine aw_go rfl rfl (b_M_spelt_0 (fun q => b_M_spelt_38 (fun q2 => k57 _ ?_) (fun q2 => k57 _ ?_)) (fun q => b_M_spelt_38 (fun q2 => k57 _ ?_) (fun q2 => k57 _ ?_)))
  · rw [if_pos q2, if_pos q]
  · rw [if_neg q2, if_pos q]
  · rw [if_pos q2, if_neg q]
  · rw [if_neg q2, if_neg q]
theorem m_isSign {ch : Int32} (h : MP C S p k bs I L) (hc : ch ∈ mks) (h1 : tK (mTd C) (ti S) = ch → Q (some (.int 1)) (aw_s I L D)) (h0 : ¬ tK (mTd C) (ti S) = ch → Q (some (.int 0)) (aw_s I L D)) : aw_m X d y_M_isSign [.ref 69, .int ch] (aw_s I L D) Q := by
  have e := mT_sign h.2.2.1.2.2.1 hc
  exact aw_go rfl rfl (b_M_isSign_0 (fun q => h0 (fun x => q (e.mpr x).1)) (fun _ q => h0 (fun x => q (e.mpr x).2)) (fun q q2 => h1 (e.mp ⟨q, q2⟩)))
theorem m_isKey {w : Nat} (h : MP C S p k bs I L) (hw : w < 12) (h1 : tK (mTd C) (ti S) = nI (w + 5) → Q (some (.int 1)) (aw_s I L D)) (h0 : ¬ tK (mTd C) (ti S) = nI (w + 5) → Q (some (.int 0)) (aw_s I L D)) : aw_m X d y_M_isKey [.ref 69, .long (lN (kyC w))] (aw_s I L D) Q := by
  have e := mT_key h.2.2.1.2.2.1 hw
  have B0 := @b_M_isKey_0 X d Q I L D (lN (kyC w))
  rw [cmp_eq] at B0
  exact aw_go rfl rfl (B0 (fun q => h0 (fun x => q (e.mpr x).1)) (fun _ q => h0 (fun x => q (e.mpr x).2)) (fun q q2 => h1 (e.mp ⟨q, q2⟩)))
theorem m_isName (h : MP C S p k bs I L) (h1 : tK (mTd C) (ti S) = 2 → Q (some (.int 1)) (aw_s I L D)) (h0 : ¬ tK (mTd C) (ti S) = 2 → Q (some (.int 0)) (aw_s I L D)) : aw_m X d y_M_isName [.ref 69] (aw_s I L D) Q := by
  have e := (mT_rng h.2.2.1.2.2.1).1
  exact aw_go rfl rfl (b_M_isName_0 (fun q => h0 (fun x => q (e.mpr x).1)) (fun _ q => h0 (fun x => (e.mpr x).2.1 q)) (fun _ _ q => h0 (fun x => (e.mpr x).2.2 q)) (fun q q2 q3 => h1 (e.mp ⟨q, q2, q3⟩)))
theorem m_isProc (h : MP C S p k bs I L) (h1 : tK (mTd C) (ti S) = 3 → Q (some (.int 1)) (aw_s I L D)) (h0 : ¬ tK (mTd C) (ti S) = 3 → Q (some (.int 0)) (aw_s I L D)) : aw_m X d y_M_isProc [.ref 69] (aw_s I L D) Q := by
  have e := (mT_rng h.2.2.1.2.2.1).2
  exact aw_go rfl rfl (b_M_isProc_0 (fun q => h0 (fun x => q (e.mpr x).1)) (fun _ q => h0 (fun x => (e.mpr x).2.1 q)) (fun _ _ q => h0 (fun x => (e.mpr x).2.2 q)) (fun q q2 q3 => h1 (e.mp ⟨q, q2, q3⟩)))
theorem MP.num (h : MP C S p k bs I L) : (I 69 6 = 3 ↔ tK (mTd C) (ti S) = 4) ∧ (tK (mTd C) (ti S) = 4 → I 69 7 = tV (mTd C) (ti S)) ∧ (I 69 6 = 0 ↔ tK (mTd C) (ti S) = 1) ∧ (I 69 6 = 1 → tK (mTd C) (ti S) = 0) := mT_num h.2.2.1.2.2.1
/-- the letter of a name, the letter of a proc -/
theorem MP.let (h : MP C S p k bs I L) : (tK (mTd C) (ti S) = 2 → (L 69 11).toInt32 - 1 = tV (mTd C) (ti S)) ∧ (tK (mTd C) (ti S) = 3 → ∃ v, v < 4 ∧ tV (mTd C) (ti S) = nI v ∧ (L 69 11).toInt32 - 16 = nI v) := by
  have e0 : ∀ v x, v < 12 → x < 5 → ¬ nI (v + 5) = nI x := fun v x hv hx e => by rw [nI_eq (by omega) (by omega)] at e; omega
  have hm := h.2.2.1.2.2.1
  generalize tK (mTd C) (ti S) = K at hm ⊢
  generalize tV (mTd C) (ti S) = V at hm ⊢
  rcases hm with ⟨rfl, -⟩ | ⟨rfl, -⟩ | ⟨rfl, -, v, hv, rfl, e⟩ | ⟨rfl, -, v, hv, rfl, e⟩ | ⟨rfl, -, -⟩ | ⟨v, hv, rfl, -, -⟩ | ⟨hK, -, -⟩
  · exact ⟨fun x => absurd x (by decide), fun x => absurd x (by decide)⟩
  · exact ⟨fun x => absurd x (by decide), fun x => absurd x (by decide)⟩
  · exact ⟨fun _ => by rw [e, lN_i, nI_pred], fun x => absurd x (by decide)⟩
  · exact ⟨fun x => absurd x (by decide), fun _ => ⟨v, hv, rfl, by rw [e, lN_i, show (16 : Int32) = nI 16 from rfl, pk_sub (by omega)]; exact congrArg nI (by omega)⟩⟩
  · exact ⟨fun x => absurd x (by decide), fun x => absurd x (by decide)⟩
  · exact ⟨fun x => absurd x (e0 v 2 hv (by decide)), fun x => absurd x (e0 v 3 hv (by decide))⟩
  · obtain ⟨m0, m1, m2, m3, m4, m7⟩ := mks_ne hK
    exact ⟨fun x => absurd x m2, fun x => absurd x m3⟩
theorem FRM.u {o k : Nat} {v : Int32} (h : FRM C I L) (hk : (o = 69 ∧ ((4 ≤ k ∧ k ≤ 8) ∨ (25 ≤ k ∧ k ≤ 28) ∨ k = 30)) ∨ ((o = 71 ∨ o = 72) ∧ 4000 + (mLo C - mDl C) ≤ k ∧ k < 4800) ∨ ((o = 75 ∨ o = 76) ∧ k = 5) ∨ (o = 78 ∧ 100 ≤ k ∧ k < 120) ∨ o = 79 ∨ o = 80 ∨ o = 81 ∨ o = 82 ∨ o = 83) : FRM C (aw_u I o k v) L := by
  obtain ⟨h1, h2, h3, h4, h5, h6, h7⟩ := h
  refine ⟨fun x a b c d e f g i j l m n => by rw [au_o (by omega)]; exact h1 x a b c d e f g i j l m n, fun x a b c => by rw [au_ok (by omega)]; exact h2 x a b c, fun x a => ?_, fun x a => ?_, fun x a => by rw [au_ok (by omega)] at a ⊢; exact h5 x a, fun x a => by rw [au_ok (by omega)]; exact h6 x a, h7⟩
  · rw [au_ok (by omega), au_ok (by omega)]; exact h3 x a
  · rw [au_ok (by omega), au_ok (by omega)]; exact h4 x a
theorem FRM.u77 {k : Nat} {v : Int32} (h : FRM C I L) (hk : 300 ≤ k ∧ k < 360) (hv : v = 0 ∨ v = 1) : FRM C (aw_u I 77 k v) L := by
  obtain ⟨h1, h2, h3, h4, h5, h6, h7⟩ := h
  have f : ∀ o, o ≠ 77 → aw_u I 77 k v o = I o := fun o a => au_o a
  refine ⟨fun x a b c d e f g i j l m n => by rw [au_o f]; exact h1 x a b c d e f g i j l m n, fun x a b c => by rw [f 69 (by decide)]; exact h2 x a b c, fun x a => ?_, fun x a => ?_, fun x a => ?_, fun x a => by rw [f 78 (by decide)]; exact h6 x a, h7⟩
  · rw [f 71 (by decide), f 72 (by decide)]; exact h3 x a
  · rw [f 75 (by decide), f 76 (by decide)]; exact h4 x a
  · by_cases q : x = k
    · subst q
      exact absurd ⟨hk.1, hk.2, by rw [au_s]; exact hv⟩ a
    · rw [au_k q] at a ⊢; exact h5 x a
theorem m_bad {e : Int32} (h : MP C S p k bs I L) (he : tK (mTd C) (ti S) = 0 → e = 1) (hQ : ∀ I', MF C (e, ti S) I' L → Q (some (.int 0)) (aw_s I' L D)) : aw_m X d y_M_bad [.ref 69, .int e] (aw_s I L D) Q := by
  have fr := h.1
  have fin : ∀ v, v = e → Q (some (.int 0)) (aw_s (aw_u (aw_u I 69 9 v) 69 10 (I 69 5)) L D) := fun v hv =>
    hQ _ ⟨I, fr, by rw [hv, h.2.2.1.2.1]⟩
  exact aw_go rfl rfl (b_M_bad_0 (fun _ => fin e rfl) (fun q => fin 1 (he (h.num.2.2.2 q)).symm))
/-- going on -/
theorem m_go2 (hC : mOK C) (h : MP C S p k bs I L) (h0 : tK (mTd C) (ti S) ≠ 0) (h1 : tK (mTd C) (ti S) ≠ 1) (hQ : ∀ I' L', MP C (adv S) p k bs I' L' → (∀ o, o ≠ 69 → I' o = I o) → Q none (aw_s I' L' D)) : aw_m X (d + 1) y_M_go [.ref 69] (aw_s I L D) Q := by
  obtain ⟨fr, tp, ⟨t1, t2, t3, t4⟩, c1, c2, c3, c4, c5, c6, c7, c8, c9, c10, c11, c12, c13, c14, c15, c16, c17, c18, c19, c20⟩ := h
  have hlt : ti S < (mTd C).1 := by
    rcases Nat.lt_or_ge (ti S) (mTd C).1 with g | g
    · exact g
    · have e : ti S = (mTd C).1 := by omega
      rw [e] at h0 h1
      exact absurd hC.1.2.2.2.1 (fun h => h.elim h0 h1)
  refine c_M_go tp (hC.1.2.1 (ti S + 1) hlt) t4 (fun I' L' f e4 e5 e6 => hQ I' L' ⟨?_, tp.f f, ⟨hlt, e5, e6, e4⟩, ?_⟩ f.1)
  · obtain ⟨f1, f2, f3⟩ := f
    obtain ⟨g1, g2, g3, g4, g5, g6, g7⟩ := fr
    refine ⟨fun o a b c d e f g h i j k l => (f1 o a).trans (g1 o a b c d e f g h i j k l), fun k a b c => (f2 k (by omega) (by omega) (by omega) (by omega) (by omega)).trans (g2 k a b c), fun j a => ?_, fun j a => ?_, fun j a => ?_, fun j a => ?_, fun o k a => (f3 o k a).trans (g7 o k a)⟩
    · rw [f1 71 (by decide), f1 72 (by decide)]; exact g3 j a
    · rw [f1 75 (by decide), f1 76 (by decide)]; exact g4 j a
    · rw [f1 77 (by decide)] at a ⊢; exact g5 j a
    · rw [f1 78 (by decide)]; exact g6 j a
  · have f1 := f.1
    have f2 := f.2.1
    have g : ∀ k, 9 ≤ k → I' 69 k = I 69 k := fun k hk => f2 k (by omega) (by omega) (by omega) (by omega) (by omega)
    exact ⟨by rw [g 25 (by decide)]; exact c1, by rw [f1 79 (by decide)]; exact c2, by rw [g 26 (by decide)]; exact c3, by rw [f1 80 (by decide), f1 81 (by decide), f1 82 (by decide)]; exact c4, by rw [g 27 (by decide)]; exact c5, by rw [g 28 (by decide)]; exact c6, by rw [g 29 (by decide)]; exact c7, by rw [g 30 (by decide)]; exact c8, by rw [f1 75 (by decide)]; exact c9, by rw [f1 76 (by decide)]; exact c10, fun j a b => by rw [f1 71 (by decide), f1 72 (by decide)]; exact c11 j a b, fun a j b c => by rw [f1 78 (by decide)]; exact c12 a j b c, fun s a => by rw [f1 77 (by decide)]; exact c13 s a, fun j a => by rw [f1 83 (by decide)]; exact c14 j a, c15, c16, c17, c18, c19, c20⟩
/-- going on -/
theorem m_go (hC : mOK C) (h : MP C S p k bs I L) (h0 : tK (mTd C) (ti S) ≠ 0) (h1 : tK (mTd C) (ti S) ≠ 1) (hQ : ∀ I' L', MP C (adv S) p k bs I' L' → Q none (aw_s I' L' D)) : aw_m X (d + 1) y_M_go [.ref 69] (aw_s I L D) Q := m_go2 hC h h0 h1 (fun I' L' h' _ => hQ I' L' h')
/-- an order is written down -/
theorem m_emit2 {o : Nat} {a : Int32} (hC : mOK C) (h : MP C S p k bs I L) (hG : cn S ≤ ti S + mDl C + 1) (hQ : ∀ I', MP C (em o a S) p k bs I' L → (∀ x, x ≠ 69 → x ≠ 71 → x ≠ 72 → I' x = I x) → Q (some (.int (nI (cn S - mDl C)))) (aw_s I' L D)) : aw_m X d y_M_emit [.ref 69, .int (nI o), .int a] (aw_s I L D) Q := by
  have hcnt := hC.1.2.2.2.2
  have hlo := hC.2.1
  have hlo3 := hC.2.2
  obtain ⟨fr, tp, ⟨t1, t2, t3, t4⟩, c1, c2, c3, c4, c5, c6, c7, c8, c9, c10, c11, c12, c13, c14, c15, c16, c17, c18, c19, c20⟩ := h
  have B0 := @b_M_emit_0 X d Q I L D (nI o) a
  have e1 : (800 : Int32) * 5 + nI (cn S - mDl C) = nI (4000 + (cn S - mDl C)) := by rw [show (800 : Int32) * 5 = nI 4000 from rfl, nI_add]
  rw [c7, c8, e1, nI_clamp (show 4000 + (cn S - mDl C) < 2 ^ 31 by omega), nI_1, nI_pred] at B0
  refine aw_go rfl rfl (B0 (aw_in_nI (by omega) (by decide)) (aw_in_nI (by omega) (by decide)) (hQ _ ⟨((fr.u (by omega)).u (by omega)).u (by omega), ⟨?_, tp.2.1, fun j hj => ?_⟩, ⟨t1, ?_, ?_, ?_⟩, ?_⟩ (fun x q r s => by rw [au_o q, au_o s, au_o r])))
  · rw [au_k (by decide), au_o (by decide), au_o (by decide)]; exact tp.1
  · rw [au_o (by decide), au_o (by decide), au_o (by decide)]; exact tp.2.2 j hj
  · rw [au_k (by decide), au_o (by decide), au_o (by decide)]; exact t2
  · rw [au_k (by decide), au_o (by decide), au_o (by decide), au_k (by decide), au_o (by decide), au_o (by decide), au_k (by decide), au_o (by decide), au_o (by decide)]; exact t3
  · rw [au_k (by decide), au_o (by decide), au_o (by decide)]; exact t4
  · generalize eI : aw_u (aw_u (aw_u I 71 (4000 + (cn S - mDl C)) (nI o)) 72 (4000 + (cn S - mDl C)) a) 69 30 (nI (cn S - mDl C + 1)) = I'
    have f : ∀ x, x ≠ 69 → x ≠ 71 → x ≠ 72 → I' x = I x := fun x q r s => by rw [← eI, au_o q, au_o s, au_o r]
    have g : ∀ x, x ≠ 30 → I' 69 x = I 69 x := fun x q => by rw [← eI, au_k q, au_o (by decide), au_o (by decide)]
    refine ⟨by rw [g 25 (by decide)]; exact c1, by rw [f 79 (by decide) (by decide) (by decide)]; exact c2, by rw [g 26 (by decide)]; exact c3, by rw [f 80 (by decide) (by decide) (by decide), f 81 (by decide) (by decide) (by decide), f 82 (by decide) (by decide) (by decide)]; exact c4, by rw [g 27 (by decide)]; exact c5, by rw [g 28 (by decide)]; exact c6, by rw [g 29 (by decide)]; exact c7, ?_, by rw [f 75 (by decide) (by decide) (by decide)]; exact c9, by rw [f 76 (by decide) (by decide) (by decide)]; exact c10, fun j q r => ?_, fun q j r s => by rw [f 78 (by decide) (by decide) (by decide)]; exact c12 q j r s, fun s q => by rw [f 77 (by decide) (by decide) (by decide)]; exact c13 s q, fun j q => by rw [f 83 (by decide) (by decide) (by decide)]; exact c14 j q, c15, c16, c17, Nat.le_succ_of_le c18, c19, c20⟩
    · show I' 69 30 = nI (cn S + 1 - mDl C)
      rw [← eI, au_s, show cn S + 1 - mDl C = cn S - mDl C + 1 by omega]
    · have r : j < cn S + 1 := r
      show I' 71 (4000 + (j - mDl C)) = nI (va_up (cP S) (cn S) (o, a) j).1 ∧ I' 72 (4000 + (j - mDl C)) = (va_up (cP S) (cn S) (o, a) j).2
      by_cases hj : j = cn S
      · subst hj
        rw [up_s, ← eI]
        exact ⟨by rw [au_o (by decide), au_o (by decide), au_s], by rw [au_o (by decide), au_s]⟩
      · rw [up_n _ _ hj, ← eI]
        rw [au_o (by decide), au_o (by decide), au_k (by omega), au_o (by decide), au_k (by omega), au_o (by decide)]
        exact c11 j q (by omega)
theorem m_emit {o : Nat} {a : Int32} (hC : mOK C) (h : MP C S p k bs I L) (hG : cn S ≤ ti S + mDl C + 1) (hQ : ∀ I', MP C (em o a S) p k bs I' L → Q (some (.int (nI (cn S - mDl C)))) (aw_s I' L D)) : aw_m X d y_M_emit [.ref 69, .int (nI o), .int a] (aw_s I L D) Q := m_emit2 hC h hG (fun I' h' _ => hQ I' h')
theorem m_readSign {ch : Int32} (hC : mOK C) (h : MP C S p k bs I L) (hc : ch ∈ mks) (h1 : ∀ S', sgn (mTd C) ch S = .ok S' → ∀ I' L', MP C S' p k bs I' L' → Q (some (.int 1)) (aw_s I' L' D)) (h0 : ∀ e, sgn (mTd C) ch S = .error e → ∀ I', MF C e I' L → Q (some (.int 0)) (aw_s I' L D)) : aw_m X (d + 2) y_M_readSign [.ref 69, .int ch] (aw_s I L D) Q := by
  obtain ⟨m0, m1, m2, m3, m4, m7⟩ := mks_ne hc
  refine aw_go rfl rfl (b_M_readSign_0 (m_isSign h hc (fun q => b_M_readSign_5 (fun _ => m_go hC h (by rw [q]; exact m0) (by rw [q]; exact m1) (fun I' L' h' => b_M_readSign_18 (h1 (adv S) (by rw [sgn, if_pos q]) I' L' h'))) (fun x => absurd x (by decide))) (fun q => b_M_readSign_5 (fun x => absurd rfl x) (fun _ => m_bad h (fun _ => rfl) (fun I' h' => b_M_readSign_13 (Or.inl rfl) (h0 _ (by rw [sgn, if_neg q]) I' h'))))))
end MPA
