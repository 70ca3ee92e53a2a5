/-! PART 93: the reference's program -/
/-- the empty text -/
def E0 : PT := em 25 0 (seB PT0)
def T0 : TD := (0, fun _ => 1, fun _ => 0, fun _ => 0)
theorem E0_rd : rdP T0 PT0 = .ok E0 := by
  have e1 : prl T0 501 PT0 = .ok PT0 := by rw [prl]; exact if_neg (by decide)
  have e2 : stl T0 501 (seB PT0) = .ok (seB PT0) := by rw [stl]; exact if_pos rfl
  rw [rdP, e1, pb_ok, e2, pb_ok]; rfl
theorem E0_PG : PG E0 := rdP_PG (T := T0) ⟨⟨by decide, fun j h => absurd h (Nat.not_lt_zero _), Or.inr rfl, fun j _ => Nat.zero_le _, fun j _ h => absurd h (show ¬ (1 : Int32) = 2 by decide), fun j _ h => absurd h (show ¬ (1 : Int32) = 3 by decide), fun j _ h => absurd h (show ¬ (1 : Int32) = 7 by decide)⟩, fun j _ => rfl⟩ E0_rd (Nat.le_refl _) (Nat.zero_le _)
/-- one slot is as it was -/
def KSl (x : Nat) (I0 I : Nat → Nat → Int32) : Prop := (∀ j, j < 800 → I 71 (800 * x + j) = I0 71 (800 * x + j) ∧ I 72 (800 * x + j) = I0 72 (800 * x + j)) ∧ (I 73 x = I0 73 x ∧ I 74 x = I0 74 x ∧ I 75 x = I0 75 x ∧ I 76 x = I0 76 x) ∧ (∀ s, s < 60 → I 77 (60 * x + s) = I0 77 (60 * x + s)) ∧ ∀ j, j < 20 → I 78 (20 * x + j) = I0 78 (20 * x + j)
theorem KSl.tr {x : Nat} {I0 I1 I2 : Nat → Nat → Int32} (a : KSl x I0 I1) (b : KSl x I1 I2) : KSl x I0 I2 :=
  ⟨fun j hj => ⟨(b.1 j hj).1.trans (a.1 j hj).1, (b.1 j hj).2.trans (a.1 j hj).2⟩, ⟨b.2.1.1.trans a.2.1.1, b.2.1.2.1.trans a.2.1.2.1, b.2.1.2.2.1.trans a.2.1.2.2.1, b.2.1.2.2.2.trans a.2.1.2.2.2⟩, fun s hs => (b.2.2.1 s hs).trans (a.2.2.1 s hs), fun j hj => (b.2.2.2 j hj).trans (a.2.2.2 j hj)⟩
theorem KSl.same {x : Nat} {I0 I : Nat → Nat → Int32} (h : ∀ o, 71 ≤ o → o ≤ 78 → I o = I0 o) : KSl x I0 I :=
  ⟨fun j _ => by rw [h 71 (by decide) (by decide), h 72 (by decide) (by decide)]; exact ⟨rfl, rfl⟩, by rw [h 73 (by decide) (by decide), h 74 (by decide) (by decide), h 75 (by decide) (by decide), h 76 (by decide) (by decide)]; exact ⟨rfl, rfl, rfl, rfl⟩, fun s _ => by rw [h 77 (by decide) (by decide)], fun j _ => by rw [h 78 (by decide) (by decide)]⟩
theorem FRS.ks {b x : Nat} {I0 I : Nat → Nat → Int32} (h : FRS b I0 I) (hx : x ≠ b) : KSl x I0 I := by
  obtain ⟨-, f1, f2, f3, f4⟩ := h
  exact ⟨fun j hj => f1 _ (by omega), f2 x hx, fun s hs => f3 _ (by omega), fun j hj => f4 _ (by omega)⟩
theorem MCd.ks {S : PT} {k : Nat} {I I' : Nat → Nat → Int32} (h : MCd S k I) (f : KSl k I I') (hn : cn S ≤ 600) (hs : cS S ≤ 60) : MCd S k I' := by
  obtain ⟨h1, h2, h3, h4, h5, h6, h7⟩ := h
  obtain ⟨f1, ⟨e1, e2, e3, e4⟩, f3, f4⟩ := f
  refine ⟨by rw [e1]; exact h1, by rw [e2]; exact h2, by rw [e3]; exact h3, by rw [e4]; exact h4, fun j hj => ?_, fun s hs' => ?_, fun j hj => ?_⟩
  · rw [(f1 j (by omega)).1, (f1 j (by omega)).2]; exact h5 j hj
  · rw [f3 s (by omega)]; exact h6 s hs'
  · rw [f4 j (by omega)]; exact h7 j hj
/-- the reference's slots -/
def MSl (pg : Nat → PT) (I : Nat → Nat → Int32) : Prop := (I 69 32 = 1 ∧ ∀ k, k < 4 → MCd (pg k) k I) ∨ (I 69 32 = 0 ∧ ∀ k, k < 4 → pg k = E0 ∧ I 74 k = 0 ∧ I 75 k = 0 ∧ I 76 k = 0 ∧ I 72 (800 * k) = 0)
/-- what laying of empty texts leaves -/
def FRL (I0 I : Nat → Nat → Int32) : Prop := (∀ o, o ≠ 69 → o ≠ 71 → o ≠ 73 → I o = I0 o) ∧ (∀ x, x ≠ 32 → I 69 x = I0 69 x) ∧ (∀ x, 3200 ≤ x → I 71 x = I0 71 x) ∧ ∀ x, 4 ≤ x → I 73 x = I0 73 x
theorem FRL.ks {x : Nat} {I0 I : Nat → Nat → Int32} (h : FRL I0 I) (hx : 4 ≤ x) : KSl x I0 I := by
  obtain ⟨f0, f1, f2, f3⟩ := h
  exact ⟨fun j hj => ⟨f2 _ (by omega), by rw [f0 72 (by decide) (by decide) (by decide)]⟩, ⟨f3 x hx, by rw [f0 74 (by decide) (by decide) (by decide)], by rw [f0 75 (by decide) (by decide) (by decide)], by rw [f0 76 (by decide) (by decide) (by decide)]⟩, fun s hs => by rw [f0 77 (by decide) (by decide) (by decide)], fun j hj => by rw [f0 78 (by decide) (by decide) (by decide)]⟩
section MPGM
variable {X : aw_X} {d : Nat} {Q : Option Value → aw_H → Prop} {I : Nat → Nat → Int32} {L : Nat → Nat → Int64} {D : Nat → Nat}
theorem l_layEmpty {I0 : Nat → Nat → Int32} (hQ : ∀ I', FRL I0 I' → I' 69 32 = 1 → (∀ j, j < 4 → I' 71 (800 * j) = 25 ∧ I' 73 j = 1) → Q none (aw_s I' L D)) :
    ∀ (m k : Nat) (I : Nat → Nat → Int32), k + m = 4 → FRL I0 I → I 69 32 = 1 → (∀ j, j < k → I 71 (800 * j) = 25 ∧ I 73 j = 1) → aw_z X d y_M_layEmpty Q 15 [some (.ref 69), some (.int (nI k))] [] (aw_s I L D) := by
  intro m
  induction m with
  | zero =>
    intro k I e f h32 h
    have ek : k = 4 := by omega
    subst ek
    exact b_M_layEmpty_15 (fun _ => hQ I f h32 h) (fun q => absurd (by decide) q) (fun q => absurd (by decide) q) (fun q => absurd (by decide) q)
  | succ m ih =>
    intro k I e f h32 h
    have c1 : ((4 : Int32) ≤ nI k) = False := by
      have : ((4 : Int32) ≤ nI k) = (4 ≤ k) := nI_le' (a := 4) (by decide) (by omega)
      rw [this]; simp; omega
    have ix : (800 : Int32) * nI k = nI (800 * k) := by rw [show (800 : Int32) = nI 800 from rfl, pk_mul]
    have B0 := @b_M_layEmpty_15 X d Q I L D (nI k)
    rw [ix, nI_clamp (show 800 * k < 2 ^ 31 by omega), nI_clamp (show k < 2 ^ 31 by omega), nI_1] at B0
    simp only [c1, not_false_eq_true, true_implies, false_implies, implies_true] at B0
    refine B0 (aw_in_nI (by omega) (by decide)) (aw_in_nI (by omega) (by decide)) (ih (k + 1) _ (by omega) ?_ (by rw [au_o (by decide), au_o (by decide)]; exact h32) (fun j hj => ?_))
    · obtain ⟨f0, f1, f2, f3⟩ := f
      exact ⟨fun o a b c => by rw [au_o c, au_o b]; exact f0 o a b c, fun x hx => by rw [au_o (by decide), au_o (by decide)]; exact f1 x hx, fun x hx => by rw [au_o (by decide), au_k (by omega)]; exact f2 x hx, fun x hx => by rw [au_k (by omega), au_o (by decide)]; exact f3 x hx⟩
    · by_cases g : j = k
      · subst g
        exact ⟨by rw [au_o (by decide), au_s], au_s _ _ _ _⟩
      · rw [au_o (by decide), au_k (by omega), au_k g, au_o (by decide)]
        exact h j (by omega)
theorem c_M_layEmpty {pg : Nat → PT} (h : MSl pg I) (hQ : ∀ I', I' 69 32 = 1 → (∀ k, k < 4 → MCd (pg k) k I') → FRL I I' → Q none (aw_s I' L D)) : aw_m X d y_M_layEmpty [.ref 69] (aw_s I L D) Q := by
  rcases h with ⟨h1, h2⟩ | ⟨h1, h2⟩
  · exact aw_go rfl rfl (b_M_layEmpty_0 (fun q => absurd (h1.symm.trans q) (by decide)) (fun _ => hQ I h1 h2 ⟨fun _ _ _ _ => rfl, fun _ _ => rfl, fun _ _ => rfl, fun _ _ => rfl⟩))
  · refine aw_go rfl rfl (b_M_layEmpty_0 (fun _ => l_layEmpty (I0 := I) (fun I' f h32 hj => hQ I' h32 (fun k hk => ?_) f) 4 0 _ rfl ⟨fun o a _ _ => au_o a, fun x hx => au_k hx, fun x _ => by rw [au_o (by decide)], fun x _ => by rw [au_o (by decide)]⟩ (au_s _ _ _ _) (fun j h => absurd h (Nat.not_lt_zero j))) (fun q => absurd h1 q))
    obtain ⟨p0, p1, p2, p3, p4⟩ := h2 k hk
    rw [p0]
    refine ⟨(hj k hk).2, by rw [f.1 74 (by decide) (by decide) (by decide)]; exact p1, by rw [f.1 75 (by decide) (by decide) (by decide)]; exact p2, by rw [f.1 76 (by decide) (by decide) (by decide)]; exact p3, fun j hj1 => ?_, fun s hs => absurd hs (Nat.not_lt_zero s), fun j hj => absurd hj (by show ¬ j < min 0 20; omega)⟩
    have j0 : j = 0 := by
      have : cn E0 = 1 := rfl
      omega
    subst j0
    exact ⟨(hj k hk).1, by rw [f.1 72 (by decide) (by decide) (by decide)]; exact p4⟩
theorem c_M_isProgram {k : Nat} (hk : k < 4) (hQ : Q (some (.int 1)) (aw_s I L D)) : aw_m X d y_M_isProgram [.int (nI k)] (aw_s I L D) Q := by
  refine aw_go rfl rfl (b_M_isProgram_0 (fun q => absurd q (nI_pos (by omega))) (fun _ q => absurd q ?_) (fun _ _ => hQ))
  have : ((4 : Int32) ≤ nI k) = (4 ≤ k) := nI_le' (a := 4) (by decide) (by omega)
  rw [this]; omega
theorem c_M_isProgram0 {v : Int32} (hv : v < 0 ∨ (4 : Int32) ≤ v) (hQ : Q (some (.int 0)) (aw_s I L D)) : aw_m X d y_M_isProgram [.int v] (aw_s I L D) Q :=
  aw_go rfl rfl (b_M_isProgram_0 (fun _ => hQ) (fun _ _ => hQ) (fun a b => absurd hv (fun x => x.elim a b)))
/-- what a reading of the reference leaves -/
def FRQ (I0 I : Nat → Nat → Int32) (L0 L : Nat → Nat → Int64) : Prop := (∀ o, ¬ (69 ≤ o ∧ o ≤ 83) → I o = I0 o) ∧ (∀ x, 33 ≤ x ∨ x = 1 → I 69 x = I0 69 x) ∧ I 70 = I0 70 ∧ (∀ o k, ¬ (o = 69 ∧ k = 11) → L o k = L0 o k)
theorem FRM.ks {C : MC} {x : Nat} (h : FRM C I L) (h0 : mDl C = 0) (h0' : mLo C = 0) (hx : x ≠ 5) : KSl x (mI0 C) I := by
  obtain ⟨f1, f2, f3, f4, f5, f6, f7⟩ := h
  rw [h0, h0'] at f3
  exact ⟨fun j hj => f3 _ (by omega), ⟨by rw [f1 73 (by decide) (by decide) (by decide) (by decide) (by decide) (by decide) (by decide) (by decide) (by decide) (by decide) (by decide) (by decide)], by rw [f1 74 (by decide) (by decide) (by decide) (by decide) (by decide) (by decide) (by decide) (by decide) (by decide) (by decide) (by decide) (by decide)], (f4 x hx).1, (f4 x hx).2⟩, fun s hs => f5 _ (by omega), fun j hj => f6 _ (by omega)⟩
theorem JR.ks {x : Nat} {J0 J : Nat → Nat → Int32} (h : JR J0 J) (hx : x ≠ 5) : KSl x J0 J := by
  obtain ⟨f1, f2, f3⟩ := h
  exact ⟨fun j hj => by rw [f1 71 (by decide) (by decide), f1 72 (by decide) (by decide)]; exact ⟨rfl, rfl⟩, ⟨by rw [f1 73 (by decide) (by decide)], f3 x hx, by rw [f1 75 (by decide) (by decide)], by rw [f1 76 (by decide) (by decide)]⟩, fun s hs => by rw [f1 77 (by decide) (by decide)], fun j hj => by rw [f1 78 (by decide) (by decide)]⟩
theorem KSl.u {x o k : Nat} {v : Int32} {I0 I : Nat → Nat → Int32} (h : KSl x I0 I) (ho : ¬ (71 ≤ o ∧ o ≤ 78) ∨ (o = 73 ∧ k ≠ x) ∨ (o = 74 ∧ k ≠ x)) : KSl x I0 (aw_u I o k v) := by
  refine h.tr ⟨fun j hj => ⟨au_ok (by omega), au_ok (by omega)⟩, ⟨au_ok (by omega), au_ok (by omega), au_ok (by omega), au_ok (by omega)⟩, fun s hs => au_ok (by omega), fun j hj => au_ok (by omega)⟩
theorem c_M_program {bt : Nat → Int32} {z k : Nat} {T : TD} {ps : Nat → Nat} {pg : Nat → PT} (hk : k < 4) (hz : z ≤ 540) (h2 : I 69 2 = nI z) (hb : ∀ j, j < z → I 70 j = bt j) (hts : isToks bt z T.1 ps (tK T) (tV T) (tP T)) (hT : tFul T) (hsl : MSl pg I) (hbo : MBo I) (hpg : ∀ j, j < 4 → cn (pg j) ≤ 600 ∧ cS (pg j) ≤ 60)
    (hok : ∀ S I' L', rdP T PT0 = .ok S → I' 69 32 = 1 → (∀ j, j < 4 → MCd (if j = k then S else pg j) j I') → MBo I' → FRQ I I' L L' → KSl 4 I I' → KSl 6 I I' → I' 69 0 = 0 → I' 69 2 = 0 → I' 69 9 = 0 → Q (some (.int (nI (cS S)))) (aw_s I' L' D))
    (her : ∀ e I' L', rdP T PT0 = .error e → I' 69 32 = 1 → (∀ j, j < 4 → MCd (pg j) j I') → MBo I' → FRQ I I' L L' → KSl 4 I I' → KSl 6 I I' → I' 69 0 = 0 → I' 69 2 = 0 → I' 69 9 = e.1 → Q (some (.int (-1 - nI (tP T e.2)))) (aw_s I' L' D)) :
    aw_m X (d + 11) y_M_program [.ref 69, .int (nI k)] (aw_s I L D) Q := by
  refine aw_go rfl rfl (b_M_program_0 (aw_go rfl rfl (b_M_take_0 (b_M_program_10 ?_))))
  generalize eI : aw_u (aw_u (aw_u I 69 0 0) 69 2 0) 69 3 (aw_u I 69 0 0 69 2) = I1
  have o1 : ∀ o, o ≠ 69 → I1 o = I o := fun o a => by rw [← eI, au_o a, au_o a, au_o a]
  have x1 : ∀ x, x ≠ 0 → x ≠ 2 → x ≠ 3 → I1 69 x = I 69 x := fun x a b c => by rw [← eI, au_k c, au_k b, au_k a]
  have z0 : I1 69 0 = 0 := by rw [← eI, au_k (by decide), au_k (by decide), au_s]
  have z2 : I1 69 2 = 0 := by rw [← eI, au_k (by decide), au_s]
  have z3 : I1 69 3 = nI z := by rw [← eI, au_s, au_k (by decide)]; exact h2
  have s1 : MSl pg I1 := by
    rcases hsl with ⟨a, b⟩ | ⟨a, b⟩
    · exact Or.inl ⟨by rw [x1 32 (by decide) (by decide) (by decide)]; exact a, fun j hj => (b j hj).ks (KSl.same (fun o h _ => o1 o (by omega))) (hpg j hj).1 (hpg j hj).2⟩
    · refine Or.inr ⟨by rw [x1 32 (by decide) (by decide) (by decide)]; exact a, fun j hj => ?_⟩
      rw [o1 74 (by decide), o1 75 (by decide), o1 76 (by decide), o1 72 (by decide)]; exact b j hj
  refine c_M_isProgram hk (b_M_program_17 (fun _ => c_M_layEmpty s1 (fun I2 l2 p2 f2 => b_M_program_28 ?_)) (fun q => absurd q (by decide)))
  have t2 : MTp I2 bt z := ⟨by rw [f2.2.1 3 (by decide)]; exact z3, hz, fun j hj => by rw [f2.1 70 (by decide) (by decide) (by decide), o1 70 (by decide)]; exact hb j hj⟩
  have k2 : ∀ x, 4 ≤ x → KSl x I I2 := fun x hx => (KSl.same (fun o h _ => o1 o (by omega))).tr (f2.ks hx)
  have b2 : MBo I2 := fun j hj => by rw [f2.1 77 (by decide) (by decide) (by decide), o1 77 (by decide)]; exact hbo j hj
  -- ahead of the reading
  have C0 : ∀ J I3 L3, JR (aw_u (aw_u (aw_u I2 69 29 5) 69 9 0) 74 5 0) J → FRM (T, bt, z, ps, 0, 0, J, L) I3 L3 → I3 69 32 = 1 ∧ (∀ x, x ≠ 5 → KSl x I2 I3) ∧ MBo I3 ∧ FRQ I I3 L L3 ∧ I3 69 0 = 0 ∧ I3 69 2 = 0 ∧ I3 69 9 = 0 := by
    intro J I3 L3 hJ fr
    have e69 : ∀ x, x ≠ 29 → x ≠ 9 → x ≠ 31 → J 69 x = I2 69 x := fun x a b c => by rw [hJ.2.1 x c, au_o (by decide), au_k b, au_k a]
    have e9 : J 69 9 = 0 := by rw [hJ.2.1 9 (by decide), au_o (by decide), au_s]
    have eo : ∀ o, o ≠ 69 → o ≠ 74 → J o = I2 o := fun o a b => by rw [hJ.1 o a b, au_o b, au_o a, au_o a]
    obtain ⟨g1, g2, g3, g4, g5, g6, g7⟩ := id fr
    have g2 : ∀ x, ¬ (4 ≤ x ∧ x ≤ 8) → ¬ (25 ≤ x ∧ x ≤ 28) → x ≠ 30 → I3 69 x = J 69 x := g2
    have g1 : ∀ o, o ≠ 69 → o ≠ 71 → o ≠ 72 → o ≠ 75 → o ≠ 76 → o ≠ 77 → o ≠ 78 → o ≠ 79 → o ≠ 80 → o ≠ 81 → o ≠ 82 → o ≠ 83 → I3 o = J o := g1
    have g5 : ∀ j, ¬ (300 ≤ j ∧ j < 360 ∧ (I3 77 j = 0 ∨ I3 77 j = 1)) → I3 77 j = J 77 j := g5
    refine ⟨by rw [g2 32 (by omega) (by omega) (by decide), e69 32 (by decide) (by decide) (by decide)]; exact l2, fun x hx => ?_, fun j hj => ?_, ⟨fun o ho => ?_, fun x hx => ?_, ?_, fun o k hh => g7 o k hh⟩, by rw [g2 0 (by omega) (by omega) (by decide), e69 0 (by decide) (by decide) (by decide), f2.2.1 0 (by decide)]; exact z0, by rw [g2 2 (by omega) (by omega) (by decide), e69 2 (by decide) (by decide) (by decide), f2.2.1 2 (by decide)]; exact z2, by rw [g2 9 (by omega) (by omega) (by decide)]; exact e9⟩
    · have a := fr.ks (x := x) rfl rfl hx
      have b := (KSl.u (KSl.u (KSl.u (x := x) (I0 := I2) (KSl.same (fun _ _ _ => rfl)) (o := 69) (k := 29) (v := 5) (by omega)) (o := 69) (k := 9) (v := 0) (by omega)) (o := 74) (k := 5) (v := 0) (by omega)).tr (JR.ks hJ hx)
      exact b.tr a
    · by_cases q : 300 ≤ j ∧ j < 360 ∧ (I3 77 j = 0 ∨ I3 77 j = 1)
      · exact q.2.2
      · rw [g5 j q, eo 77 (by decide) (by decide)]; exact b2 j hj
    · rw [g1 o (by omega) (by omega) (by omega) (by omega) (by omega) (by omega) (by omega) (by omega) (by omega) (by omega) (by omega) (by omega), eo o (by omega) (by omega), f2.1 o (by omega) (by omega) (by omega)]
      exact o1 o (by omega)
    · rw [g2 x (by omega) (by omega) (by omega), hJ.2.1 x (by omega), au_o (by decide), au_k (by omega), au_k (by omega), f2.2.1 x (by omega), x1 x (by omega) (by omega) (by omega)]
    · rw [g1 70 (by decide) (by decide) (by decide) (by decide) (by decide) (by decide) (by decide) (by decide) (by decide) (by decide) (by decide) (by decide), eo 70 (by decide) (by decide), f2.1 70 (by decide) (by decide) (by decide)]
      exact o1 70 (by decide)
  refine m_readProgram t2 hts (fun J S I3 L3 hR hJ hM h74 => ?_) (fun J e hR hJ I4 L4 hF => ?_)
  · obtain ⟨c1, c2, c3, c4, c5, c6, c7⟩ := C0 J I3 L3 hJ hM.1
    obtain ⟨fr, -, ⟨u1, -⟩, -, -, -, -, -, -, -, -, m75, m76, mP, mA, mW, -, -, mS60, -⟩ := hM
    have hcn : cn S ≤ 600 := by
      have := cn_rdP hT hR
      have : T.1 ≤ 500 := hT.1.1
      have u1 : ti S ≤ T.1 := u1
      omega
    have e74 : I3 74 5 = nI (cB S) := by
      rw [fr.1 74 (by decide) (by decide) (by decide) (by decide) (by decide) (by decide) (by decide) (by decide) (by decide) (by decide) (by decide) (by decide)]; exact h74
    have m5 : MCd S 5 (aw_u I3 73 5 (nI (cn S))) := by
      refine ⟨au_s _ _ _ _, by rw [au_o (by decide)]; exact e74, by rw [au_o (by decide)]; exact m75, by rw [au_o (by decide)]; exact m76, fun j hj => ?_, fun s hs => ?_, fun j hj => ?_⟩
      · rw [au_o (by decide), au_o (by decide)]; exact mP j (Nat.zero_le _) hj
      · rw [au_o (by decide)]; exact mW s hs
      · rw [au_o (by decide)]; exact mA rfl j (by omega) (by omega)
    have mb : MBo (aw_u I3 73 5 (nI (cn S))) := fun j hj => by rw [au_o (by decide)]; exact c3 j hj
    have v5 : (5 : Int32) = nI 5 := rfl
    refine b_M_program_32 (fun _ => ?_) (fun q => absurd q (by decide))
    rw [v5]
    refine c_M_copy (a := 5) (b := k) (by decide) (by omega) (by omega) m5 hcn mS60 mb (fun I5 m6 f6 b6 => ?_)
    have B0 := @b_M_program_48 X (d + 10) Q I5 L3 D (nI k)
    rw [nI_clamp (show k < 2 ^ 31 by omega), m6.2.2.1] at B0
    refine B0 (aw_in_nI (by omega) (by decide)) ?_
    have i69 : I5 69 = I3 69 := by rw [f6.1 69 (by omega), au_o (by decide)]
    have kx : ∀ x, x ≠ 5 → x ≠ k → KSl x I2 I5 := fun x h5 hx => ((c2 x h5).u (o := 73) (k := 5) (v := nI (cn S)) (by omega)).tr (f6.ks hx)
    refine hok S I5 L3 hR (by rw [i69]; exact c1) (fun j hj => ?_) b6 ⟨fun o ho => ?_, fun x hx => by rw [i69]; exact c4.2.1 x hx, ?_, c4.2.2.2⟩ ((k2 4 (by decide)).tr (kx 4 (by decide) (by omega))) ((k2 6 (by decide)).tr (kx 6 (by decide) (by omega))) (by rw [i69]; exact c5) (by rw [i69]; exact c6) (by rw [i69]; exact c7)
    · by_cases g : j = k
      · subst g; rw [if_pos rfl]; exact m6
      · rw [if_neg g]; exact (p2 j hj).ks (kx j (by omega) g) (hpg j hj).1 (hpg j hj).2
    · rw [f6.1 o (by omega), au_o (by omega)]; exact c4.1 o ho
    · rw [f6.1 70 (by omega), au_o (by decide)]; exact c4.2.2.1
  · obtain ⟨I3, fr, rfl⟩ := hF
    obtain ⟨c1, c2, c3, c4, c5, c6, c7⟩ := C0 J I3 L4 hJ fr
    refine b_M_program_32 (fun q => absurd rfl q) (fun _ => ?_)
    rw [au_s]
    have u : ∀ x, x ≠ 9 → x ≠ 10 → aw_u (aw_u I3 69 9 e.1) 69 10 (nI (tP T e.2)) 69 x = I3 69 x := fun x a b => by rw [au_k b, au_k a]
    have kx : ∀ x, x ≠ 5 → KSl x I2 (aw_u (aw_u I3 69 9 e.1) 69 10 (nI (tP T e.2))) := fun x hx => ((c2 x hx).u (by omega)).u (by omega)
    refine her e _ L4 hR (by rw [u 32 (by decide) (by decide)]; exact c1) (fun j hj => (p2 j hj).ks (kx j (by omega)) (hpg j hj).1 (hpg j hj).2) (fun j hj => by rw [au_o (by decide), au_o (by decide)]; exact c3 j hj) ⟨fun o ho => by rw [au_o (by omega), au_o (by omega)]; exact c4.1 o ho, fun x hx => by rw [u x (by omega) (by omega)]; exact c4.2.1 x hx, by rw [au_o (by decide), au_o (by decide)]; exact c4.2.2.1, c4.2.2.2⟩ ((k2 4 (by decide)).tr (kx 4 (by decide))) ((k2 6 (by decide)).tr (kx 6 (by decide))) (by rw [u 0 (by decide) (by decide)]; exact c5) (by rw [u 2 (by decide) (by decide)]; exact c6) (by rw [au_k (by decide), au_s])
end MPGM
