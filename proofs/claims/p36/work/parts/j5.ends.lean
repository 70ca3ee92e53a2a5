/-! PART j5: the law's end: least rows, what isn't there -/
theorem fstR_no {f : Nat → Bool} (h : ∀ r, f r = false) : ∀ m r, fstR f m r = -1
  | 0, _ => rfl
  | m + 1, r => by
    show (if f r = true then nI r else fstR f m (r + 1)) = -1
    rw [h r, if_neg Bool.false_ne_true]
    exact fstR_no h m (r + 1)
/-- the law's locals at its end -/
abbrev lwM (F R : Nat) (a11 a16 a17 a18 a19 : Option Value) : aw_L := [none, some (.ref 0), none, none, none, some (.int (nI F)), none, none, none, none, none, a11, some (.int (nI R)), none, none, none, a16, a17, a18, a19]
section LAWF
variable {X : aw_X} {d mc ms kc ks : Nat} {Q : Option Value → aw_H → Prop} {D : Nat → Nat} {I : Nat → Nat → Int32} {L : Nat → Nat → Int64} {S : PT} {B F n e : Nat} {l : List (Nat × Nat)} {E : Nat → PE} {wl wc : Nat → Nat} {a16 : Int32}
/-- the least row of an end, from behind -/
theorem l_least (hm : kc ≤ mc) (hs : ks ≤ ms) (hP : LWp S B F l E) (hH : LH S B F l E n wl wc D I L) (hk : aw_Z X (d + 8) mc ms y_Law_law Q kc ks 932 (lwM F (2 ^ (B * (2 + 0))) (lI (nI n)) (lI a16) (lI (nI (e + 1))) none none) [] (aw_s I L D)) :
    ∀ (m : Nat) (v18 v19 : Int32), m ≤ 2 ^ (B * (2 + 0)) → v18 = fstR (fun r => decide (eE (E r) = nI e)) (2 ^ (B * (2 + 0)) - m) m → v19 = nI m - 1 → aw_Z X (d + 8) mc ms y_Law_law Q kc ks 948 (lwM F (2 ^ (B * (2 + 0))) (lI (nI n)) (lI a16) (lI (nI e)) (lI v18) (lI v19)) [] (aw_s I L D)
  | 0, v18, v19, hm0, h18, h19 => by
    subst h18
    subst h19
    refine b_Law_law_948 (m2 := 0) (s2 := 0) hm hs (fun _ => c_AW_least hH.2.1 ?_) (fun x => absurd (by decide) x)
    refine b_Law_law_986 (m2 := 0) (s2 := 0) hm hs (fun _ => ?_) (fun x => absurd rfl x)
    rw [nI_1]; exact hk
  | m + 1, v18, v19, hm0, h18, h19 => by
    have hR := hP.rows
    have hy := hH.wy
    have e19 : v19 = nI m := by rw [h19, show (1 : Int32) = nI 1 from rfl, pk_sub (by omega)]; rfl
    subst e19
    have hr : m < 2 ^ (B * (2 + 0)) := by omega
    obtain ⟨i, hi, ek, -⟩ := hy.2.2.1 m hr
    obtain ⟨qE, -⟩ := hH.all hP ek
    have n0 : ¬ nI m < 0 := nI_pos (by omega)
    have next : nI m + (-1) = nI m - 1 := by rw [Int32.sub_eq_add_neg]
    have es : fstR (fun r => decide (eE (E r) = nI e)) (2 ^ (B * (2 + 0)) - m) m = if decide (eE (E m) = nI e) = true then nI m else fstR (fun r => decide (eE (E r) = nI e)) (2 ^ (B * (2 + 0)) - (m + 1)) (m + 1) := by
      rw [show 2 ^ (B * (2 + 0)) - m = (2 ^ (B * (2 + 0)) - (m + 1)) + 1 by omega]
      rfl
    refine b_Law_law_948 (m2 := 0) (s2 := 0) hm hs (fun x => absurd x n0) (fun _ => c_AW_along1 hH.2.1 hr hi ek ?_)
    refine b_Law_law_960 (m2 := 0) (s2 := 0) hm hs (c_Law_way1 (k := 0) hH.2.1 hi (by decide) ?_)
    refine b_Law_law_964 (m2 := 0) (s2 := 0) hm hs (fun x => ?_) (fun x => ?_)
    · have x : ¬ eE (E m) = nI e := fun q => x (qE.trans q)
      refine l_least hm hs hP hH hk m _ _ (by omega) ?_ next
      rw [es, if_neg (by rw [decide_eq_true_iff]; exact x)]
      exact h18
    · have x : eE (E m) = nI e := qE.symm.trans x
      refine l_least hm hs hP hH hk m _ _ (by omega) ?_ next
      rw [es, if_pos (by rw [decide_eq_true_iff]; exact x)]
theorem l_end (hm : kc + 2 ≤ mc) (hs : ks + 12 ≤ ms) (hl : X.1.stackTraces = false) (hP : LWp S B F l E) (hH : LH S B F l E n wl wc D I L) (hQ : Q (some (.int 1)) (aw_s I L D)) :
    ∀ (m e : Nat), e + m = 6 → aw_Z X (d + 8) mc ms y_Law_law Q kc ks 932 (lwM F (2 ^ (B * (2 + 0))) (lI (nI n)) (lI (nI (2 ^ (B * (2 + 0))))) (lI (nI e)) none none) [] (aw_s I L D)
  | 0, e, h => by
    subst h
    have hR := hP.rows
    have hy := hH.wy
    have hle := hy.le
    have rp := Nat.two_pow_pos (B * (2 + 0))
    obtain ⟨i, hi, -, -⟩ := hy.2.2.1 0 rp
    have l6 : fstR (fun r => decide (eE (E r) = 6)) (2 ^ (B * (2 + 0))) 0 = -1 := fstR_no (fun r => by
      have := (hH.2.1.2.2.1.1 r).e
      rw [decide_eq_false_iff_not, this.2, show (6 : Int32) = nI 6 from rfl, nI_eq (by omega) (by decide)]
      omega) _ _
    refine b_Law_law_932 (m2 := 1) (s2 := 6) (by omega) (by omega) (fun _ x => absurd rfl x) (fun _ _ => c_Law_way0 hl hH.2.1 (Or.inl (Or.inr (Int32.le_refl _))) ?_) (fun x => absurd (by decide) x)
    refine b_Law_law_1013 (m2 := 1) (s2 := 6) (by omega) (by omega) (fun x => absurd rfl x) (fun _ => c_Law_way0 hl hH.2.1 (Or.inr ⟨⟨0, by omega, rfl⟩, Or.inr (by decide)⟩) ?_)
    refine b_Law_law_1025 (m2 := 0) (s2 := 0) (by omega) (by omega) (fun x => absurd rfl x) (fun _ => c_AW_along0 hH.2.1 (Or.inr (Int32.le_refl _)) ?_)
    refine b_Law_law_1036 (m2 := 0) (s2 := 0) (by omega) (by omega) (fun x => absurd rfl x) (fun _ => c_AW_along0 hH.2.1 (Or.inl (by decide)) ?_)
    refine b_Law_law_1045 (m2 := 0) (s2 := 0) (by omega) (by omega) (fun x => absurd rfl x) (fun _ => c_AW_least hH.2.1 ?_)
    rw [l6]
    refine b_Law_law_1056 (m2 := 0) (s2 := 0) (by omega) (by omega) (fun x => absurd rfl x) (fun _ => c_AW_walk0 (Or.inl (Or.inr (by decide))) ?_)
    refine b_Law_law_1066 (m2 := 0) (s2 := 0) (by omega) (by omega) (fun x => absurd rfl x) (fun _ => c_AW_walk0 (Or.inr ⟨⟨0, by decide, rfl⟩, Or.inr (by decide)⟩) ?_)
    refine b_Law_law_1077 (m2 := 0) (s2 := 0) (by omega) (by omega) (fun x => absurd rfl x) (fun _ => c_AW_walk0 (Or.inr ⟨⟨0, by decide, rfl⟩, Or.inl (by decide)⟩) ?_)
    refine b_Law_law_1087 (m2 := 0) (s2 := 0) (by omega) (by omega) (fun x => absurd rfl x) (fun _ => c_AW_run0 (k := 1) (by decide) hH.2.2.2 (Int32.le_refl _) (nI_pos (by omega)) ?_)
    exact b_Law_law_1100 (m2 := 0) (s2 := 0) (by omega) (by omega) (fun x => absurd rfl x) (fun _ => hQ)
  | m + 1, e, h => by
    have n6 : ¬ (6 : Int32) ≤ nI e := by rw [show (6 : Int32) = nI 6 from rfl, nI_leI (by decide) (by omega)]; omega
    refine b_Law_law_932 (m2 := 0) (s2 := 0) (by omega) (by omega) (fun x => absurd x n6) (fun x => absurd x n6) (fun _ => ?_)
    exact l_least (by omega) (by omega) hP hH (l_end hm hs hl hP hH hQ m (e + 1) (by omega)) (2 ^ (B * (2 + 0))) (-1) _ (Nat.le_refl _) (by rw [Nat.sub_self]; rfl) rfl
/-- from the made arrays on -/
theorem l_checks (hm : kc + 2 ≤ mc) (hs : ks + 12 ≤ ms) (hl : X.1.stackTraces = false) (hP : LWp S B F l E) (hH : LH S B F l E n wl wc D I L) (hQ : ∀ I L, Q (some (.int 1)) (aw_s I L D)) :
    aw_Z X (d + 8) mc ms y_Law_law Q kc ks 232 [none, some (.ref 0), none, none, some (.int (nI B)), some (.int (nI F)), some (.ref 70), some (.ref 71), some (.int (nI l.length)), none, none, some (.int (nI n)), some (.int (nI (2 ^ (B * (2 + 0))))), some (.ref 72), some (.ref 73), none, none, none, none, none] [] (aw_s I L D) := by
  refine b_Law_law_232 (m2 := 0) (s2 := 0) (by omega) (by omega) ?_
  have h0 := l_rows (X := X) (d := d) (mc := mc) (ms := ms) (kc := kc) (ks := ks) (Q := Q) (n := n) (wl := wl) (wc := wc) (D := D) (by omega) (by omega) hP (fun I1 L1 h1 => ?_) (2 ^ (B * (2 + 0))) 0 I L (Nat.zero_add _) hH
  · rw [cntL_0] at h0
    exact h0
  · refine l_ways (by omega) (by omega) hP (fun I2 L2 a h2 ea => ?_) n 0 I1 L1 (Nat.zero_add _) h1
    rw [ea, sum_rows h2.wy]
    exact l_end hm hs hl hP h2 (hQ I2 L2) 6 0 rfl
end LAWF
