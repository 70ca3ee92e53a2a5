/-! PART ak: the reference merges, and sorts rows by their ways -/
section MMRG
variable {X : aw_X} {d : Nat} {Q : Option Value → aw_H → Prop} {I : Nat → Nat → Int32} {L : Nat → Nat → Int64} {D : Nat → Nat}
/-- all rows are noted -/
def MA (E : Nat → PE) (R : Nat) (I : Nat → Nat → Int32) (L : Nat → Nat → Int64) : Prop := ∀ q, q < R → MR1 (E q) q I L
theorem MA.fr {E : Nat → PE} {R : Nat} {I I' : Nat → Nat → Int32} (h : MA E R I L) (hI : ∀ o, 93 ≤ o → o ≤ 96 → I' o = I o) : MA E R I' L := fun q hq => by
  obtain ⟨a, b, c, e, f⟩ := h q hq
  exact ⟨a, by rw [hI 93 (by decide) (by decide)]; exact b, by rw [hI 94 (by decide) (by decide)]; exact c, by rw [hI 95 (by decide) (by decide)]; exact e, by rw [hI 96 (by decide) (by decide)]; exact f⟩
theorem c_M_cmpK {B F cs R x y : Nat} {E : Nat → PE} (hF : F ≤ 40) (hE : WE B F cs E) (hR : R ≤ 4096) (hM : MA E R I L) (hx : x < R) (hy : y < R) (hQ : ∀ v : Int32, (v = 0 ↔ kK E x = kK E y) → (0 < v ↔ kK E y < kK E x) → Q (some (.int v)) (aw_s I L D)) : aw_m X d y_M_compare [.ref 69, .int (nI x), .int (nI y)] (aw_s I L D) Q := by
  refine c_M_compare hF (by omega) (by omega) (hE.1 x) (hE.1 y) (hM x hx) (hM y hy) (fun v h0 h2 => hQ v (h0.trans ?_) (h2.trans ?_))
  · show _ ↔ keyN (E x) = keyN (E y)
    rcases hE.ord hF x y with ⟨a, b⟩ | ⟨a, b⟩ | ⟨a, b⟩ <;> rw [a] <;> omega
  · show _ ↔ keyN (E y) < keyN (E x)
    rcases hE.ord hF x y with ⟨a, b⟩ | ⟨a, b⟩ | ⟨a, b⟩ <;> rw [a] <;> omega
theorem l_M_merge {B F cs R a w : Nat} {E : Nat → PE} {f : Nat → Nat} (hF : F ≤ 40) (hE : WE B F cs E) (hR : R ≤ 4096) (ha : a + (w + w) ≤ R) (hl : SG (kK E) f a w) (hr : SG (kK E) f (a + w) w) {I0 : Nat → Nat → Int32} (hM : MA E R I0 L) (h102 : ∀ x, x < R → I0 102 x = nI (f x))
    (hQ : ∀ I' g, (∀ o, o ≠ 103 → I' o = I0 o) → (∀ x, x < a → I' 103 x = I0 103 x) → (∀ i, i < w + w → I' 103 (a + i) = nI (g (a + i))) → SG (kK E) g a (w + w) → Q none (aw_s I' L D)) :
    ∀ (m p q : Nat) (g : Nat → Nat) (J : Nat → Nat → Int32), p ≤ w → q ≤ w → (w - p) + (w - q) = m → (∀ o, o ≠ 103 → J o = I0 o) → (∀ x, x < a → J 103 x = I0 103 x) → (∀ i, i < p + q → J 103 (a + i) = nI (g (a + i))) → MG (kK E) f g a w p q →
      aw_z X (d + 1) y_M_merge Q 11 [some (.ref 69), some (.int (nI a)), some (.int (nI w)), some (.int (nI R)), some (.int (nI (a + p))), some (.int (nI (a + w + q))), some (.int (nI (a + (p + q)))), none] [] (aw_s J L D) := by
  have e1 : nI a + 2 * nI w = nI (a + (w + w)) := by rw [show (2 : Int32) = nI 2 from rfl, pk_mul, nI_add]; exact congrArg nI (by omega)
  have e2 : nI a + nI w = nI (a + w) := nI_add _ _
  intro m
  induction m with
  | zero =>
    intro p q g J hp hq e hf hx hg h
    have ep : p = w := by omega
    have eq : q = w := by omega
    subst ep
    subst eq
    refine b_M_merge_11 (fun _ => hQ J g hf hx hg (h.done hl hr)) (fun z => ?_) (fun z => ?_) (fun z => ?_) (fun z => ?_) (fun z => ?_) (fun z => ?_) <;> exact absurd (by rw [e1, nI_leI (by omega) (by omega)]; omega) z
  | succ m ih =>
    intro p q g J hp hq e hf hx hg h
    have vt := aw_in_nI (show a + (p + q) < 4096 by omega) (show 4096 < 2 ^ 31 by decide)
    have tc : (nI (a + (p + q))).toNatClampNeg = a + (p + q) := nI_clamp (by omega)
    have n1 : ¬ nI a + 2 * nI w ≤ nI (a + (p + q)) := by rw [e1, nI_leI (by omega) (by omega)]; omega
    have n2 : ¬ nI R ≤ nI (a + (p + q)) := by rw [nI_leI (by omega) (by omega)]; omega
    -- the left one is taken
    have left : p < w → (q < w → ltK (kK E) (f (a + p)) (f (a + w + q))) → aw_z X (d + 1) y_M_merge Q 66 [some (.ref 69), some (.int (nI a)), some (.int (nI w)), some (.int (nI R)), some (.int (nI (a + p))), some (.int (nI (a + w + q))), some (.int (nI (a + (p + q)))), none] [] (aw_s J L D) := fun hpw hc => by
      have vp := aw_in_nI (show a + p < 4096 by omega) (show 4096 < 2 ^ 31 by decide)
      refine b_M_merge_66 (b_M_merge_71 (fun z => absurd z (by decide)) (fun _ => b_M_merge_95 vp vt (fun z => absurd z (by decide)) (fun _ => ?_)))
      rw [tc, nI_clamp (show a + p < 2 ^ 31 by omega), nI_1, nI_1, hf 102 (by decide), h102 (a + p) (by omega), show a + (p + q) + 1 = a + (p + 1 + q) by omega, show a + p + 1 = a + (p + 1) by omega]
      refine ih (p + 1) q (va_up g (a + (p + q)) (f (a + p))) _ (by omega) hq (by omega) (fun o z => by rw [au_o z]; exact hf o z) (fun x z => by rw [au_k (by omega)]; exact hx x z) (fun i hi => ?_) (h.stepL hl hr hpw hc)
      by_cases c : i = p + q
      · subst c; rw [au_s, up_s]
      · rw [au_k (by omega), up_n _ _ (by omega)]; exact hg i (by omega)
    have right : q < w → (p < w → ltK (kK E) (f (a + w + q)) (f (a + p))) → aw_z X (d + 1) y_M_merge Q 70 [some (.ref 69), some (.int (nI a)), some (.int (nI w)), some (.int (nI R)), some (.int (nI (a + p))), some (.int (nI (a + w + q))), some (.int (nI (a + (p + q)))), none] [] (aw_s J L D) := fun hqw hc => by
      have vq := aw_in_nI (show a + w + q < 4096 by omega) (show 4096 < 2 ^ 31 by decide)
      refine b_M_merge_70 (b_M_merge_71 (fun _ => b_M_merge_95 vq vt (fun _ => ?_) (fun z => absurd rfl z)) (fun z => absurd rfl z))
      rw [tc, nI_clamp (show a + w + q < 2 ^ 31 by omega), nI_1, nI_1, hf 102 (by decide), h102 (a + w + q) (by omega), show a + (p + q) + 1 = a + (p + (q + 1)) by omega, show a + w + q + 1 = a + w + (q + 1) by omega]
      refine ih p (q + 1) (va_up g (a + (p + q)) (f (a + w + q))) _ hp (by omega) (by omega) (fun o z => by rw [au_o z]; exact hf o z) (fun x z => by rw [au_k (by omega)]; exact hx x z) (fun i hi => ?_) (h.stepR hl hr hqw hc)
      by_cases c : i = p + q
      · subst c; rw [au_s, up_s]
      · rw [au_k (by omega), up_n _ _ (by omega)]; exact hg i (by omega)
    have c1 : nI a + nI w ≤ nI (a + p) ↔ w ≤ p := by rw [e2, nI_leI (by omega) (by omega)]; omega
    have c2 : nI a + 2 * nI w ≤ nI (a + w + q) ↔ w ≤ q := by rw [e1, nI_leI (by omega) (by omega)]; omega
    refine b_M_merge_11 (fun z => absurd z n1) (fun _ z => absurd z n2) (fun _ _ z => ?_) (fun _ _ y z => ?_) (fun _ _ y z => ?_) (fun _ _ y z => ?_) (fun _ _ y z => ?_)
    · have z := c1.mp z
      exact right (by omega) (fun t => by omega)
    · have y : p < w := Nat.lt_of_not_le (fun t => y (c1.mpr t))
      have z := c2.mp z
      exact left (by omega) (fun t => by omega)
    · exact aw_in_nI (show a + p < 4096 by have y : p < w := Nat.lt_of_not_le (fun t => y (c1.mpr t)); omega) (by decide)
    · exact aw_in_nI (show a + w + q < 4096 by have z : q < w := Nat.lt_of_not_le (fun t => z (c2.mpr t)); omega) (by decide)
    · have y : p < w := Nat.lt_of_not_le (fun t => y (c1.mpr t))
      have z : q < w := Nat.lt_of_not_le (fun t => z (c2.mpr t))
      rw [nI_clamp (show a + p < 2 ^ 31 by omega), nI_clamp (show a + w + q < 2 ^ 31 by omega), hf 102 (by decide), h102 (a + p) (by omega), h102 (a + w + q) (by omega)]
      have x1 := hl.1 p y
      have x2 := hr.1 q z
      refine c_M_cmpK (d := d) hF hE hR (hM.fr (fun o _ _ => hf o (by omega))) (show f (a + p) < R by omega) (show f (a + w + q) < R by omega) (fun v v0 v2 => b_M_merge_63 (fun t => right z (fun _ => Or.inl (v2.mp t))) (fun t => left y (fun _ => ?_)))
      have t : ¬ kK E (f (a + w + q)) < kK E (f (a + p)) := fun s => t (v2.mpr s)
      unfold ltK
      omega
theorem c_M_merge {B F cs R a w : Nat} {E : Nat → PE} {f : Nat → Nat} (hF : F ≤ 40) (hE : WE B F cs E) (hR : R ≤ 4096) (ha : a + (w + w) ≤ R) (hl : SG (kK E) f a w) (hr : SG (kK E) f (a + w) w) (hM : MA E R I L) (h102 : ∀ x, x < R → I 102 x = nI (f x))
    (hQ : ∀ I' g, (∀ o, o ≠ 103 → I' o = I o) → (∀ x, x < a → I' 103 x = I 103 x) → (∀ i, i < w + w → I' 103 (a + i) = nI (g (a + i))) → SG (kK E) g a (w + w) → Q none (aw_s I' L D)) :
    aw_m X (d + 1) y_M_merge [.ref 69, .int (nI a), .int (nI w), .int (nI R)] (aw_s I L D) Q := by
  refine aw_go rfl rfl (b_M_merge_0 ?_)
  rw [nI_add]
  exact l_M_merge (d := d) hF hE hR ha hl hr hM h102 hQ _ 0 0 (fun _ => 0) I (Nat.zero_le _) (Nat.zero_le _) rfl (fun _ _ => rfl) (fun _ _ => rfl) (fun i h => by omega) MG.z
end MMRG
