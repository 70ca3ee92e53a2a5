/-! PART j2: the law on one row -/
/-- what the law's own array tells of a run -/
def AtP (f : Nat → Int32) (E : PE) : Prop := f 16 = eE E ∧ f 17 = eS E ∧ f 18 = nI (eD E).length ∧ f 19 = nI (eB E) ∧ f 20 = nI (dsN (eD E))
theorem row_at {f : Nat → Int32} {E : PE} {R : Int32 × Int32 × LSt} (hp : PEis E R.1 R.2.1 R.2.2) (ha : AtE f R) : AtP f E := by
  obtain ⟨e, sp, nm, cl, bg, ds⟩ := R
  obtain ⟨pc, stk, cs, sp0, ak, ys, tr, rfl⟩ := hp
  obtain ⟨b1, b2, a0, a1, a2, a3, a4, a8, a18, a19, a20⟩ := ha
  exact ⟨b1, b2, a18, a19, a20⟩
theorem row_eq {f g : Nat → Int32} {E : PE} {R : Int32 × Int32 × LSt} (hp : PEis E R.1 R.2.1 R.2.2) (ha : AtE f R) (hg : gotP g E) : (∀ j, j < 4 → g j = f j) ∧ (∀ j, j < 8 → g (8 + j) = f (8 + j)) ∧ g 7 = f 4 ∧ g 4 = R.2.2.1 4 ∧ g 16 = f 17 := by
  obtain ⟨e, sp, nm, cl, bg, ds⟩ := R
  obtain ⟨pc, stk, cs, sp0, ak, ys, tr, rfl⟩ := hp
  obtain ⟨b1, b2, a0, a1, a2, a3, a4, a8, a18, a19, a20⟩ := ha
  obtain ⟨g1, g2⟩ := hg
  refine ⟨fun j hj => ?_, fun j hj => (g1 j hj).2.trans (a8 j hj).symm, (g1 7 (by decide)).1.trans a4.symm, (g1 4 (by decide)).1, g2.trans b2.symm⟩
  have hj4 : j = 0 ∨ j = 1 ∨ j = 2 ∨ j = 3 := by omega
  rcases hj4 with rfl | rfl | rfl | rfl
  · exact (g1 0 (by decide)).1.trans a0.symm
  · exact (g1 1 (by decide)).1.trans a1.symm
  · exact (g1 2 (by decide)).1.trans a2.symm
  · exact (g1 3 (by decide)).1.trans a3.symm
/-- what holds of the law's text and its runs -/
def LWp (S : PT) (B F : Nat) (l : List (Nat × Nat)) (E : Nat → PE) : Prop := (2 ≤ B ∧ B ≤ 4) ∧ (1 ≤ F ∧ F ≤ 16) ∧ l.length ≤ 5 ∧ (∀ q, q ∈ l → q.1 < 8) ∧ (∀ r, RT1 S B 2 0 F r (-1) (E r)) ∧ ∀ r, PEis (E r) (lwR (mk B) F l 0 (lw0 B r)).1 (lwR (mk B) F l 0 (lw0 B r)).2.1 (lwR (mk B) F l 0 (lw0 B r)).2.2
/-- what holds of the heap while the law checks -/
def LH (S : PT) (B F : Nat) (l : List (Nat × Nat)) (E : Nat → PE) (n : Nat) (wl wc : Nat → Nat) (D : Nat → Nat) (I : Nat → Nat → Int32) (L : Nat → Nat → Int64) : Prop := D 7 = 2 ∧ WD S B 2 0 F E n wl wc I L ∧ KV I 0 l ∧ KIn S (D 1) B 2 0 I L
section LAWR
variable {S : PT} {B F n : Nat} {l : List (Nat × Nat)} {E : Nat → PE} {wl wc : Nat → Nat} {D : Nat → Nat} {I I' : Nat → Nat → Int32} {L L' : Nat → Nat → Int64}
theorem LH.fr (h : LH S B F l E n wl wc D I L) (hI : ∀ o, 11 ≤ o → o ≤ 21 → I' o = I o) (hL : ∀ o, 11 ≤ o → o ≤ 21 → L' o = L o) (h7 : ∀ o, 70 ≤ o → o ≤ 71 → I' o = I o) (hc : ∀ o, 30 ≤ o → o ≤ 59 → I' o = I o) (hl : ∀ o, 30 ≤ o → o ≤ 59 → L' o = L o) (h1 : I' 1 = I 1) : LH S B F l E n wl wc D I' L' := by
  obtain ⟨a, b, c, p, q, k, e, s1, s2, s3⟩ := h
  obtain ⟨b1, b2⟩ := codes_bd q
  refine ⟨a, b.fr hI hL, fun j hj => ?_, p, q, k.fr (fun o x y => hc o (by omega) (by omega)) (by rw [hl _ (by omega) (by omega)]), e, by rw [h1]; exact s1, by rw [h1]; exact s2, by rw [h1]; exact s3⟩
  rw [h7 70 (by decide) (by decide), h7 71 (by decide) (by decide)]
  exact c j hj
theorem LH.t {o0 : Nat} (ho : 72 ≤ o0) (h : LH S B F l E n wl wc D I L) (hf : ∀ o, o ≠ o0 → I' o = I o) : LH S B F l E n wl wc D I' L := h.fr (fun o _ _ => hf o (by omega)) (fun _ _ _ => rfl) (fun o _ _ => hf o (by omega)) (fun o _ _ => hf o (by omega)) (fun _ _ _ => rfl) (hf 1 (by omega))
theorem LH.r (h : LH S B F l E n wl wc D I L) (hI : ∀ o x, ¬ (4 ≤ o ∧ o ≤ 10) → o ≠ 68 → ¬ (o = 0 ∧ x = 17) → I' o x = I o x) (hL : ∀ o, o ≠ 4 → o ≠ 9 → L' o = L o) : LH S B F l E n wl wc D I' L' :=
  have g : ∀ o, ¬ (4 ≤ o ∧ o ≤ 10) → o ≠ 68 → o ≠ 0 → I' o = I o := fun o a b c => funext fun x => hI o x a b (fun q => c q.1)
  h.fr (fun o _ _ => g o (by omega) (by omega) (by omega)) (fun o _ _ => hL o (by omega) (by omega)) (fun o _ _ => g o (by omega) (by omega) (by omega)) (fun o _ _ => g o (by omega) (by omega) (by omega)) (fun o _ _ => hL o (by omega) (by omega)) (g 1 (by omega) (by omega) (by omega))
theorem LWp.rows (h : LWp S B F l E) : 2 ^ (B * (2 + 0)) ≤ 256 := Nat.pow_le_pow_right (n := 2) (j := 8) (by decide) (by have := h.1; omega)
end LAWR
/-- the law's locals behind its walk -/
abbrev lwL (B F p n R : Nat) (a15 a16 a17 a18 a19 : Option Value) : aw_L := [none, some (.ref 0), none, none, some (.int (nI B)), some (.int (nI F)), some (.ref 70), some (.ref 71), some (.int (nI p)), none, none, some (.int (nI n)), some (.int (nI R)), some (.ref 72), some (.ref 73), a15, a16, a17, a18, a19]
abbrev lI (v : Int32) : Option Value := some (.int v)
section LAWG
variable {X : aw_X} {d mc ms kc ks : Nat} {Q : Option Value → aw_H → Prop} {D : Nat → Nat} {I : Nat → Nat → Int32} {L : Nat → Nat → Int64} {B F p n R : Nat} {a15 a16 : Int32}
theorem l_got4 (hm : kc ≤ mc) (hs : ks ≤ ms) (hD : D 7 = 2) (h17 : I 0 17 = 1) (hg : ∀ j, j < 4 → I 68 j = I 72 j) (hk : aw_Z X (d + 2) mc ms y_Law_law Q kc ks 329 (lwL B F p n R (lI a15) (lI a16) (lI 0) none none) [] (aw_s I L D)) : ∀ (m k : Nat), k + m = 4 → aw_Z X (d + 2) mc ms y_Law_law Q kc ks 298 (lwL B F p n R (lI a15) (lI a16) (lI (nI k)) none none) [] (aw_s I L D)
  | 0, k, e => by
    subst e
    exact b_Law_law_298 (m2 := 0) (s2 := 0) hm hs (fun _ => hk) (fun x => absurd (by decide) x)
  | m + 1, k, e => by
    have n4 : ¬ (4 : Int32) ≤ nI k := by rw [show (4 : Int32) = nI 4 from rfl, nI_leI (by decide) (by omega)]; omega
    have kc' : (nI k).toNatClampNeg = k := nI_clamp (by omega)
    refine b_Law_law_298 (m2 := 0) (s2 := 0) hm hs (fun x => absurd x n4) (fun _ => c_AW_got (by omega) h17 ?_)
    refine b_Law_law_310 (m2 := 0) (s2 := 0) hD hm hs (aw_in_nI (by omega) (by decide)) (fun _ => ?_) (fun x => absurd (by rw [kc']; exact hg k (by omega)) x)
    rw [nI_1]
    exact l_got4 hm hs hD h17 hg hk m (k + 1) (by omega)
theorem l_got8 (hm : kc ≤ mc) (hs : ks ≤ ms) (hD : D 7 = 2) (h17 : I 0 17 = 1) (hg : ∀ j, j < 8 → I 68 (8 + j) = I 72 (8 + j)) (h7 : I 68 7 = I 72 4) (h4 : I 68 4 = 0) (hk : aw_Z X (d + 2) mc ms y_Law_law Q kc ks 382 (lwL B F p n R (lI a15) (lI a16) none none none) [.int 0] (aw_s I L D)) : ∀ (m k : Nat), k + m = 8 → aw_Z X (d + 2) mc ms y_Law_law Q kc ks 329 (lwL B F p n R (lI a15) (lI a16) (lI (nI k)) none none) [] (aw_s I L D)
  | 0, k, e => by
    subst e
    refine b_Law_law_329 (m2 := 0) (s2 := 0) hm hs (fun _ => c_AW_got (j := 7) (by decide) h17 ?_) (fun x => absurd (by decide) x)
    refine b_Law_law_370 (m2 := 0) (s2 := 0) hD hm hs (fun x => absurd h7 x) (fun _ => c_AW_got (j := 4) (by decide) h17 ?_)
    rw [h4]; exact hk
  | m + 1, k, e => by
    have n8 : ¬ (8 : Int32) ≤ nI k := by rw [show (8 : Int32) = nI 8 from rfl, nI_leI (by decide) (by omega)]; omega
    have e8 : (8 : Int32) + nI k = nI (8 + k) := by rw [show (8 : Int32) = nI 8 from rfl, nI_add]
    have kc' : (nI (8 + k)).toNatClampNeg = 8 + k := nI_clamp (by omega)
    refine b_Law_law_329 (m2 := 0) (s2 := 0) hm hs (fun x => absurd x n8) (fun _ => ?_)
    rw [e8]
    refine c_AW_got (by omega) h17 ?_
    refine b_Law_law_345 (m2 := 0) (s2 := 0) hD hm hs (by rw [e8]; exact aw_in_nI (by omega) (by decide)) (fun _ => ?_) (fun x => absurd (by rw [e8, kc']; exact hg k (by omega)) x)
    rw [nI_1]
    exact l_got8 hm hs hD h17 hg h7 h4 hk m (k + 1) (by omega)
end LAWG
section LAWA
variable {X : aw_X} {d mc ms kc ks : Nat} {Q : Option Value → aw_H → Prop} {D : Nat → Nat} {I : Nat → Nat → Int32} {L : Nat → Nat → Int64} {S : PT} {B F n r : Nat} {l : List (Nat × Nat)} {E : Nat → PE} {wl wc : Nat → Nat} {a15 : Int32}
/-- both run the row: they end alike -/
theorem l_rowA (hm : kc ≤ mc) (hs : ks ≤ ms) (hP : LWp S B F l E) (hH : LH S B F l E n wl wc D I L) (hr : r < 2 ^ (B * (2 + 0))) (hk : ∀ I' L', LH S B F l E n wl wc D I' L' → AtP (I' 72) (E r) → aw_Z X (d + 8) mc ms y_Law_law Q kc ks 382 (lwL B F l.length n (2 ^ (B * (2 + 0))) (lI a15) (lI (nI r)) none none none) [.int 0] (aw_s I' L' D)) :
    aw_Z X (d + 8) mc ms y_Law_law Q kc ks 238 (lwL B F l.length n (2 ^ (B * (2 + 0))) (lI a15) (lI (nI r)) none none none) [] (aw_s I L D) := by
  have hR := hP.rows
  obtain ⟨hB, hF, h5, h8, hE, hRun⟩ := hP
  have nr : ¬ nI (2 ^ (B * (2 + 0))) ≤ nI r := by rw [nI_leI (by omega) (by omega)]; omega
  refine b_Law_law_238 (m2 := 0) (s2 := 0) hm hs (fun x => absurd x nr) (fun x => absurd x nr) (fun _ => c_Law_run (o0 := 72) List.mem_cons_self hH.1 ⟨hB.1, by omega⟩ (by omega) h5 h8 hH.2.2.1 (by omega) (fun I1 f1 at1 => ?_))
  have hH1 := hH.t (Nat.le_refl 72) f1
  refine b_Law_law_262 (m2 := 0) (s2 := 0) hm hs (c_AW_run1 (k := 1) (by decide) hH1.2.2.2 (by omega) (by omega) hr (hE r) (fun I2 L2 g1 g2 g3 g4 => ?_))
  have hH2 := hH1.r g1 g2
  have e72 : I2 72 = I1 72 := funext fun x => g1 72 x (by omega) (by omega) (by omega)
  rw [← e72] at at1
  have hAt := row_at (hRun r) at1
  obtain ⟨q4, q8, q7, qe, q16⟩ := row_eq (hRun r) at1 g4
  have z4 : I2 68 4 = 0 := by
    rw [qe, lwR_4 l 0 (lw0 B r) h8]
    rfl
  refine b_Law_law_271 (m2 := 0) (s2 := 0) hH.1 hm hs (fun x => absurd hAt.1.symm x) (fun _ => c_AW_got (j := 16) (by decide) g3 ?_)
  refine b_Law_law_285 (m2 := 0) (s2 := 0) hH.1 hm hs (fun _ => ?_) (fun x => absurd q16 x)
  exact l_got4 hm hs hH.1 g3 q4 (l_got8 hm hs hH.1 g3 q8 q7 z4 (hk I2 L2 hH2 hAt) 8 0 rfl) 4 0 rfl
end LAWA
