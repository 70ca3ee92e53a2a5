/-! PART al: the reference orders rows, and counts ways -/
section MORD
variable {X : aw_X} {d : Nat} {Q : Option Value → aw_H → Prop} {I : Nat → Nat → Int32} {L : Nat → Nat → Int64} {D : Nat → Nat}
theorem l_M_copyb {R w : Nat} {g : Nat → Nat} (hR : R ≤ 4096) {I0 : Nat → Nat → Int32} (h103 : ∀ x, x < R → I0 103 x = nI (g x))
    (hk : ∀ I', (∀ o, o ≠ 102 → I' o = I0 o) → (∀ x, x < R → I' 102 x = nI (g x)) → aw_z X (d + 2) y_M_order Q 27 [some (.ref 69), some (.int (nI R)), some (.int (nI (w + w))), none] [] (aw_s I' L D)) :
    ∀ (m k : Nat) (J : Nat → Nat → Int32), k + m = R → (∀ o, o ≠ 102 → J o = I0 o) → (∀ x, x < k → J 102 x = nI (g x)) → aw_z X (d + 2) y_M_order Q 57 [some (.ref 69), some (.int (nI R)), some (.int (nI w)), some (.int (nI k))] [] (aw_s J L D) := by
  intro m
  induction m with
  | zero =>
    intro k J e hf h
    have ek : k = R := by omega
    subst ek
    refine b_M_order_57 (fun _ => ?_) (fun q => absurd (by rw [nI_leI (by omega) (by omega)]; omega) q) (fun q => absurd (by rw [nI_leI (by omega) (by omega)]; omega) q) (fun q => absurd (by rw [nI_leI (by omega) (by omega)]; omega) q)
    rw [show nI w * 2 = nI (w + w) by rw [show (2 : Int32) = nI 2 from rfl, pk_mul]; exact congrArg nI (by omega)]
    exact hk J hf h
  | succ m ih =>
    intro k J e hf h
    have c : ¬ nI R ≤ nI k := by rw [nI_leI (by omega) (by omega)]; omega
    have v := aw_in_nI (show k < 4096 by omega) (show 4096 < 2 ^ 31 by decide)
    refine b_M_order_57 (fun q => absurd q c) (fun _ => v) (fun _ => v) (fun _ => ?_)
    rw [nI_clamp (show k < 2 ^ 31 by omega), hf 103 (by decide), h103 k (by omega), nI_1]
    refine ih (k + 1) _ (by omega) (fun o p => by rw [au_o p]; exact hf o p) (fun x hx => ?_)
    by_cases q : x = k
    · subst q; rw [au_s]
    · rw [au_k q]; exact h x (by omega)
theorem l_M_blocks {B F cs R w nb : Nat} {E : Nat → PE} {f : Nat → Nat} (hF : F ≤ 40) (hE : WE B F cs E) (hR : R ≤ 4096) (hw : 0 < w) (hnb : nb * (w + w) = R) {I0 : Nat → Nat → Int32} (hM : MA E R I0 L) (h102 : ∀ x, x < R → I0 102 x = nI (f x)) (hs : ∀ c, c < nb → SG (kK E) f (c * (w + w)) w ∧ SG (kK E) f (c * (w + w) + w) w)
    (hk : ∀ I' g, (∀ o, o ≠ 102 → o ≠ 103 → I' o = I0 o) → (∀ x, x < R → I' 102 x = nI (g x)) → (∀ c, c < nb → SG (kK E) g (c * (w + w)) (w + w)) → aw_z X (d + 2) y_M_order Q 27 [some (.ref 69), some (.int (nI R)), some (.int (nI (w + w))), none] [] (aw_s I' L D)) :
    ∀ (m c : Nat) (g : Nat → Nat) (J : Nat → Nat → Int32), c + m = nb → (∀ o, o ≠ 103 → J o = I0 o) → (∀ x, x < c * (w + w) → J 103 x = nI (g x)) → (∀ c', c' < c → SG (kK E) g (c' * (w + w)) (w + w)) →
      aw_z X (d + 2) y_M_order Q 34 [some (.ref 69), some (.int (nI R)), some (.int (nI w)), some (.int (nI (c * (w + w))))] [] (aw_s J L D) := by
  intro m
  induction m with
  | zero =>
    intro c g J e hf h hg
    have ec : c = nb := by omega
    subst ec
    rw [hnb] at h ⊢
    refine b_M_order_34 (fun _ => ?_) (fun q => absurd (by rw [nI_leI (by omega) (by omega)]; omega) q)
    exact l_M_copyb (d := d) (g := g) hR (I0 := J) h (fun I' a b => hk I' g (fun o p q => (a o p).trans (hf o q)) b hg) R 0 J (Nat.zero_add _) (fun _ _ => rfl) (fun x hx => absurd hx (Nat.not_lt_zero x))
  | succ m ih =>
    intro c g J e hf h hg
    have le : (c + 1) * (w + w) ≤ nb * (w + w) := Nat.mul_le_mul_right _ (by omega)
    have ec : (c + 1) * (w + w) = c * (w + w) + (w + w) := Nat.succ_mul _ _
    have hc : c * (w + w) + (w + w) ≤ R := by rw [← ec, ← hnb]; exact le
    have mono : ∀ c', c' < c → c' * (w + w) + (w + w) ≤ c * (w + w) := fun c' hc' => by
      rw [← Nat.succ_mul]; exact Nat.mul_le_mul_right _ hc'
    obtain ⟨s1, s2⟩ := hs c (by omega)
    generalize hga : c * (w + w) = a at *
    have n : ¬ nI R ≤ nI a := by rw [nI_leI (by omega) (by omega)]; omega
    refine b_M_order_34 (fun q => absurd q n) (fun _ => c_M_merge (d := d) hF hE hR hc s1 s2 (hM.fr (fun o p q => hf o (by omega))) (fun x hx => by rw [hf 102 (by decide)]; exact h102 x hx) (fun I' gm a1 a2 a3 a4 => b_M_order_46 ?_))
    rw [show nI a + 2 * nI w = nI (a + (w + w)) by rw [show (2 : Int32) = nI 2 from rfl, pk_mul, nI_add]; exact congrArg nI (by omega), ← ec]
    refine ih (c + 1) (fun x => if x < a then g x else gm x) I' (by omega) (fun o p => (a1 o p).trans (hf o p)) (fun x hx => ?_) (fun c' hc' => ?_)
    · rw [ec] at hx
      show _ = nI (if x < a then g x else gm x)
      by_cases q : x < a
      · rw [if_pos q, a2 x q]; exact h x q
      · rw [if_neg q]
        have := a3 (x - a) (by omega)
        rw [show a + (x - a) = x by omega] at this
        exact this
    · by_cases q : c' = c
      · subst q
        have ea : c' * (w + w) = a := hga
        rw [ea]
        exact a4.c (fun i hi => by show (if a + i < a then _ else _) = _; rw [if_neg (by omega)])
      · have := mono c' (by omega)
        exact (hg c' (by omega)).c (fun i hi => by show (if c' * (w + w) + i < a then _ else _) = _; rw [if_pos (by omega)])
theorem l_M_sort {B F cs R : Nat} {E : Nat → PE} (hF : F ≤ 40) (hE : WE B F cs E) (hR : R ≤ 4096) {I0 : Nat → Nat → Int32} (hM : MA E R I0 L)
    (hk : ∀ I' f, (∀ o, o ≠ 69 → o ≠ 102 → o ≠ 103 → I' o = I0 o) → (∀ k, k ≠ 64 → I' 69 k = I0 69 k) → I' 69 64 = 0 → (∀ x, x < R → I' 102 x = nI (f x)) → SG (kK E) f 0 R → aw_z X (d + 2) y_M_order Q 94 [some (.ref 69), some (.int (nI R)), some (.int (nI 0)), none] [] (aw_s I' L D)) :
    ∀ (t w : Nat) (f : Nat → Nat) (J : Nat → Nat → Int32), 0 < w → 2 ^ t * w = R → (∀ o, o ≠ 102 → o ≠ 103 → J o = I0 o) → (∀ x, x < R → J 102 x = nI (f x)) → (∀ c, c < 2 ^ t → SG (kK E) f (c * w) w) →
      aw_z X (d + 2) y_M_order Q 27 [some (.ref 69), some (.int (nI R)), some (.int (nI w)), none] [] (aw_s J L D) := by
  intro t
  induction t with
  | zero =>
    intro w f J hw e hf h hs
    have ew : w = R := by rw [Nat.pow_zero, Nat.one_mul] at e; exact e
    subst ew
    refine b_M_order_27 (fun _ => ?_) (fun q => absurd (by rw [nI_leI (by omega) (by omega)]; omega) q)
    have s := hs 0 (by decide)
    rw [Nat.zero_mul] at s
    exact hk _ f (fun o p q r => by rw [au_o p]; exact hf o q r) (fun k p => by rw [au_k p, hf 69 (by decide) (by decide)]) (au_s _ _ _ _) (fun x hx => by rw [au_o (by decide)]; exact h x hx) s
  | succ t ih =>
    intro w f J hw e hf h hs
    have e2 : 2 ^ t * (w + w) = R := by
      rw [← e, Nat.pow_succ, Nat.mul_assoc, Nat.two_mul]
    have p0 := Nat.two_pow_pos t
    have le : 1 * (w + w) ≤ 2 ^ t * (w + w) := Nat.mul_le_mul_right _ p0
    rw [e2, Nat.one_mul] at le
    have n : ¬ nI R ≤ nI w := by rw [nI_leI (by omega) (by omega)]; omega
    have dbl : ∀ c, c * (w + w) = (c + c) * w := fun c => by rw [Nat.mul_add, ← Nat.add_mul]
    refine b_M_order_27 (fun q => absurd q n) (fun _ => ?_)
    have lb := l_M_blocks (d := d) (Q := Q) (X := X) (D := D) (f := f) hF hE hR hw e2 (I0 := J) (hM.fr (fun o p q => hf o (by omega) (by omega))) h (fun c hc => ⟨by rw [dbl]; exact hs _ (by rw [Nat.pow_succ]; omega), by rw [dbl, ← Nat.succ_mul]; exact hs _ (by rw [Nat.pow_succ]; omega)⟩)
      (fun I' g a b s => ih (w + w) g I' (by omega) e2 (fun o p q => (a o p q).trans (hf o p q)) b s) (2 ^ t) 0 (fun _ => 0) J (Nat.zero_add _) (fun _ _ => rfl) (fun x hx => by rw [Nat.zero_mul] at hx; exact absurd hx (Nat.not_lt_zero x)) (fun c hc => absurd hc (Nat.not_lt_zero c))
    rw [Nat.zero_mul] at lb
    exact lb
/-- the reference's ways -/
def MWy (n : Nat) (wl wc : Nat → Nat) (I : Nat → Nat → Int32) : Prop := I 69 64 = nI n ∧ ∀ j, j < n → I 98 j = nI (wl j) ∧ I 99 j = nI (wc j)
theorem l_M_ways {B F cs R : Nat} {E : Nat → PE} {f : Nat → Nat} (hF : F ≤ 40) (hE : WE B F cs E) (hR : R ≤ 4096) {I0 : Nat → Nat → Int32} (hM : MA E R I0 L) (h102 : ∀ x, x < R → I0 102 x = nI (f x)) (hs : SG (kK E) f 0 R)
    (hQ : ∀ I' n wl wc wi, WO (kK E) f R n wl wc wi → MWy n wl wc I' → (∀ x, x < R → I' 97 (f x) = nI (wi (f x))) → (∀ o, o ≠ 69 → o ≠ 97 → o ≠ 98 → o ≠ 99 → I' o = I0 o) → (∀ k, k ≠ 64 → I' 69 k = I0 69 k) → Q none (aw_s I' L D)) :
    ∀ (m i n : Nat) (wl wc wi : Nat → Nat) (J : Nat → Nat → Int32), i + m = R → n ≤ i → WO (kK E) f i n wl wc wi → MWy n wl wc J → (∀ x, x < i → J 97 (f x) = nI (wi (f x))) → (∀ o, o ≠ 69 → o ≠ 97 → o ≠ 98 → o ≠ 99 → J o = I0 o) → (∀ k, k ≠ 64 → J 69 k = I0 69 k) →
      aw_z X (d + 2) y_M_order Q 94 [some (.ref 69), some (.int (nI R)), some (.int (nI i)), none] [] (aw_s J L D) := by
  have fl : ∀ x, x < R → f x < R := fun x hx => by have := (hs.1 x hx).2; rw [Nat.zero_add, Nat.zero_add] at this; exact this
  intro m
  induction m with
  | zero =>
    intro i n wl wc wi J e hn h hw h97 hf h69
    have ei : i = R := by omega
    subst ei
    have le : nI i ≤ nI i := by rw [nI_leI (by omega) (by omega)]; exact Nat.le_refl _
    exact b_M_order_94 (fun _ => hQ J n wl wc wi h hw h97 hf h69) (fun q => absurd le q) (fun q => absurd le q) (fun q => absurd le q) (fun q => absurd le q)
  | succ m ih =>
    intro i n wl wc wi J e hn h hw h97 hf h69
    have c : ¬ nI R ≤ nI i := by rw [nI_leI (by omega) (by omega)]; omega
    have vi := aw_in_nI (show i < 4096 by omega) (show 4096 < 2 ^ 31 by decide)
    have ic : (nI i).toNatClampNeg = i := nI_clamp (by omega)
    have i0 : nI i = 0 ↔ i = 0 := nI_eq (b := 0) (by omega) (by decide)
    have e102 : ∀ (J' : Nat → Nat → Int32), J' 102 = J 102 → J' 102 (nI i).toNatClampNeg = nI (f i) := fun J' z => by rw [ic, z, hf 102 (by decide) (by decide) (by decide) (by decide)]; exact h102 i (by omega)
    have fi := fl i (by omega)
    -- one more in the last way
    have k159 : ∀ (J' : Nat → Nat → Int32) (n' : Nat) (wl' wc' : Nat → Nat), 0 < n' → n' ≤ i + 1 → J' 69 64 = nI n' → J' 99 (n' - 1) = nI (wc' (n' - 1)) → (∀ j, j < n' → J' 98 j = nI (wl' j)) → (∀ j, j < n' → j ≠ n' - 1 → J' 99 j = nI (wc' j)) → J' 97 = J 97 → (∀ o, o ≠ 69 → o ≠ 97 → o ≠ 98 → o ≠ 99 → J' o = I0 o) → (∀ k, k ≠ 64 → J' 69 k = I0 69 k) → WO (kK E) f (i + 1) n' wl' (va_up wc' (n' - 1) (wc' (n' - 1) + 1)) (va_up wi (f i) (n' - 1)) →
        aw_z X (d + 2) y_M_order Q 159 [some (.ref 69), some (.int (nI R)), some (.int (nI i)), none] [] (aw_s J' L D) := fun J' n' wl' wc' p0 p1 q1 q2 q3 q4 q5 q6 q7 q8 => by
      have es : J' 69 64 - 1 = nI (n' - 1) := by rw [q1, show (1 : Int32) = nI 1 from rfl, pk_sub (by omega)]
      have vn := aw_in_nI (show n' - 1 < 4096 by omega) (show 4096 < 2 ^ 31 by decide)
      have z102 : J' 102 = J 102 := (q6 102 (by decide) (by decide) (by decide) (by decide)).trans (hf 102 (by decide) (by decide) (by decide) (by decide)).symm
      refine b_M_order_159 vi (by rw [e102 J' z102]; exact aw_in_nI (show f i < 4096 by omega) (by decide)) (by rw [es]; exact vn) (by rw [es]; exact vn) ?_
      rw [e102 J' z102, es, nI_clamp (show f i < 2 ^ 31 by omega), nI_clamp (show n' - 1 < 2 ^ 31 by omega), q2, nI_1, nI_1]
      refine ih (i + 1) n' wl' _ _ _ (by omega) p1 q8 ⟨by rw [au_o (by decide), au_o (by decide)]; exact q1, fun j hj => ⟨by rw [au_o (by decide), au_o (by decide)]; exact q3 j hj, ?_⟩⟩ (fun x hx => ?_) (fun o a b c d => by rw [au_o d, au_o b]; exact q6 o a b c d) (fun k hk => by rw [au_o (by decide), au_o (by decide)]; exact q7 k hk)
      · by_cases g : j = n' - 1
        · subst g; rw [au_s, up_s]
        · rw [au_k g, au_o (by decide), up_n _ _ g]; exact q4 j hj g
      · rw [au_o (by decide)]
        by_cases g : x = i
        · subst g; rw [au_s, up_s]
        · have ne : f x ≠ f i := fun z => g (hs.inj (by omega) (by omega) z)
          rw [au_k ne, up_n _ _ ne, q5]; exact h97 x (by omega)
    -- a way that was not there
    have k124 : (i = 0 ∨ kK E (f (i - 1)) ≠ kK E (f i)) → aw_z X (d + 2) y_M_order Q 124 [some (.ref 69), some (.int (nI R)), some (.int (nI i)), none] [] (aw_s J L D) := fun hne => by
      have vn := aw_in_nI (show n < 4096 by omega) (show 4096 < 2 ^ 31 by decide)
      refine b_M_order_124 vi (by rw [hw.1]; exact vn) (by rw [hw.1]; exact vn) ?_
      rw [e102 J rfl, hw.1, nI_clamp (show n < 2 ^ 31 by omega), nI_1]
      have wn := h.new hs (by omega) hne (fun z => by omega)
      have wc1 : va_up (va_up wc n 0) n (va_up wc n 0 n + 1) = va_up wc n 1 := by
        funext j
        by_cases g : j = n
        · subst g; rw [up_s, up_s, up_s]
        · rw [up_n _ _ g, up_n _ _ g, up_n _ _ g]
      refine k159 _ (n + 1) (va_up wl n (f i)) (va_up wc n 0) (by omega) (by omega) (au_s _ _ _ _) ?_ (fun j hj => ?_) (fun j hj hj2 => ?_) ?_ (fun o a b c d => by rw [au_o a, au_o d, au_o c]; exact hf o a b c d) (fun k hk => by rw [au_k hk, au_o (by decide), au_o (by decide)]; exact h69 k hk) (by rw [show n + 1 - 1 = n by omega, wc1]; exact wn)
      · rw [show n + 1 - 1 = n by omega, au_o (by decide), au_s, up_s]; rfl
      · rw [au_o (by decide), au_o (by decide)]
        by_cases g : j = n
        · subst g; rw [au_s, up_s]
        · rw [au_k g, up_n _ _ g]; exact (hw.2 j (by omega)).1
      · rw [au_o (by decide), au_k (by omega), up_n _ _ (show j ≠ n by omega), au_o (by decide)]; exact (hw.2 j (by omega)).2
      · rw [au_o (by decide), au_o (by decide), au_o (by decide)]
    by_cases g0 : i = 0
    · exact b_M_order_94 (fun q => absurd q c) (fun _ _ => k124 (Or.inl g0)) (fun _ q => absurd (i0.mpr g0) q) (fun _ q => absurd (i0.mpr g0) q) (fun _ q => absurd (i0.mpr g0) q)
    · have e1 : nI i - 1 = nI (i - 1) := by rw [show (1 : Int32) = nI 1 from rfl, pk_sub (by omega)]
      refine b_M_order_94 (fun q => absurd q c) (fun _ q => absurd (i0.mp q) g0) (fun _ _ => by rw [e1]; exact aw_in_nI (show i - 1 < 4096 by omega) (by decide)) (fun _ _ => vi) (fun _ _ => ?_)
      rw [e1, nI_clamp (show i - 1 < 2 ^ 31 by omega), e102 J rfl, hf 102 (by decide) (by decide) (by decide) (by decide), h102 (i - 1) (by omega)]
      refine c_M_cmpK (d := d + 1) hF hE hR (hM.fr (fun o p q => hf o (by omega) (by omega) (by omega) (by omega))) (fl _ (by omega)) fi (fun v v0 v2 => b_M_order_121 (fun q => ?_) (fun q => k124 (Or.inr (fun z => q (v0.mpr z)))))
      have ek := v0.mp q
      have wo := h.old hs (by omega) (by omega) ek
      have n0 := (h.1 (by omega)).1
      exact k159 J n wl wc n0 (by omega) hw.1 (hw.2 _ (by omega)).2 (fun j hj => (hw.2 j hj).1) (fun j hj _ => (hw.2 j hj).2) rfl hf h69 wo
theorem c_M_order {B F cs B' T O : Nat} {E : Nat → PE} (hF : F ≤ 40) (hE : WE B F cs E) (hk : SZok B' T O) (sz : SZ I B' T O) (hM : MA E (2 ^ (B' * (T + O))) I L)
    (hQ : ∀ I' n wl wc (wi : Nat → Nat), WY (kK E) (2 ^ (B' * (T + O))) n wl wc → MWy n wl wc I' → (∀ q, q < 2 ^ (B' * (T + O)) → I' 97 q = nI (wi q) ∧ wi q < n ∧ kK E (wl (wi q)) = kK E q) → (∀ o, o ≠ 69 → ¬ (97 ≤ o ∧ o ≤ 99) → o ≠ 102 → o ≠ 103 → I' o = I o) → (∀ k, k ≠ 64 → I' 69 k = I 69 k) → Q none (aw_s I' L D)) : aw_m X (d + 2) y_M_order [.ref 69] (aw_s I L D) Q := by
  have hR : 2 ^ (B' * (T + O)) ≤ 4096 := by have := rows_lt hk; omega
  have e1 : 2 ^ (B' * (T + O)) * 1 = 2 ^ (B' * (T + O)) := Nat.mul_one _
  refine aw_go rfl rfl (b_M_order_0 (c_M_rows hk sz (b_M_order_4 ?_)))
  generalize B' * (T + O) = t at *
  generalize hRe : 2 ^ t = R at *
  have fill : ∀ (m k : Nat) (J : Nat → Nat → Int32), k + m = R → (∀ o, o ≠ 102 → J o = I o) → (∀ x, x < k → J 102 x = nI x) → aw_z X (d + 2) y_M_order Q 7 [some (.ref 69), some (.int (nI R)), some (.int (nI k)), none] [] (aw_s J L D) := by
    intro m
    induction m with
    | zero =>
      intro k J e hf h
      have ek : k = R := by omega
      subst ek
      refine b_M_order_7 (fun _ => ?_) (fun q => absurd (by rw [nI_leI (by omega) (by omega)]; omega) q) (fun q => absurd (by rw [nI_leI (by omega) (by omega)]; omega) q)
      refine l_M_sort (d := d) hF hE hR (I0 := I) hM (fun I2 f a1 a2 a3 a4 a5 => ?_) t 1 (fun x => x) J (by decide) (by rw [hRe]; exact e1) (fun o p _ => hf o p) h (fun c _ => by rw [Nat.mul_one]; exact SG.one rfl)
      refine l_M_ways (d := d) (f := f) hF hE hR (I0 := I2) (hM.fr (fun o p q => a1 o (by omega) (by omega) (by omega))) a4 a5 (fun I3 n wl wc wi b1 b2 b3 b4 b5 => ?_) _ 0 0 (fun _ => 0) (fun _ => 0) (fun _ => 0) I2 (Nat.zero_add _) (Nat.le_refl _) WO.z ⟨a3, fun j hj => absurd hj (Nat.not_lt_zero j)⟩ (fun x hx => absurd hx (Nat.not_lt_zero x)) (fun _ _ _ _ _ => rfl) (fun _ _ => rfl)
      obtain ⟨wy, wq⟩ := b1.wy a5
      refine hQ I3 n wl wc wi wy b2 (fun q hq => ⟨?_, wq q hq⟩) (fun o p1 p2 p3 p4 => ?_) (fun k hk => (b5 k hk).trans (a2 k hk))
      · obtain ⟨x, p, ex⟩ := a5.mem (Nat.zero_le _) (show q < 0 + _ by omega)
        rw [Nat.zero_add] at ex
        have := b3 x p
        rw [ex] at this
        exact this
      · rw [b4 o p1 (by omega) (by omega) (by omega), a1 o p1 p3 p4]
    | succ m ih =>
      intro k J e hf h
      have c : ¬ nI R ≤ nI k := by rw [nI_leI (by omega) (by omega)]; omega
      refine b_M_order_7 (fun q => absurd q c) (fun _ => aw_in_nI (by omega) (by decide)) (fun _ => ?_)
      rw [nI_clamp (show k < 2 ^ 31 by omega), nI_1]
      refine ih (k + 1) _ (by omega) (fun o p => by rw [au_o p]; exact hf o p) (fun x hx => ?_)
      by_cases q : x = k
      · subst q; rw [au_s]
      · rw [au_k q]; exact h x (by omega)
  exact fill R 0 I (Nat.zero_add _) (fun _ _ => rfl) (fun x hx => absurd hx (Nat.not_lt_zero x))
end MORD
