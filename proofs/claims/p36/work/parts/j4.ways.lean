/-! PART j4: the law over the ways: each behind the one ahead of it -/
theorem cmp_dif : ∀ (b a : List Bool) (k : Nat), k < b.length → k < a.length → (∀ j, j < k → b.getD j false = a.getD j false) → b.getD k false ≠ a.getD k false → cmpL b a ≠ 1 ∧ (cmpL b a = 0 → b.getD k false = true)
  | [], _, k, h, _, _, _ => absurd h (Nat.not_lt_zero k)
  | _ :: _, [], k, _, h, _, _ => absurd h (Nat.not_lt_zero k)
  | x :: b, y :: a, 0, _, _, _, hne => by
    have hne : ¬ x = y := hne
    have e : cmpL (x :: b) (y :: a) = if x = y then cmpL b a else if x = true then 0 else 2 := rfl
    rw [e, if_neg hne]
    cases x
    · exact ⟨by decide, fun q => absurd q (by decide)⟩
    · exact ⟨by decide, fun _ => rfl⟩
  | x :: b, y :: a, k + 1, hb, ha, hp, hne => by
    have h0 : x = y := hp 0 (Nat.succ_pos k)
    have e : cmpL (x :: b) (y :: a) = if x = y then cmpL b a else if x = true then 0 else 2 := rfl
    rw [e, if_pos h0]
    exact cmp_dif b a k (Nat.lt_of_succ_lt_succ hb) (Nat.lt_of_succ_lt_succ ha) (fun j hj => hp (j + 1) (Nat.succ_lt_succ hj)) hne
theorem cmp_end : ∀ (b a : List Bool), (∀ j, j < b.length → j < a.length → b.getD j false = a.getD j false) → (b.length = a.length → b = a) ∧ (a.length < b.length → cmpL b a = 2)
  | [], [], _ => ⟨fun _ => rfl, fun h => absurd h (Nat.lt_irrefl _)⟩
  | [], y :: a, _ => ⟨fun h => (by cases h), fun h => absurd h (Nat.not_lt_zero _)⟩
  | x :: b, [], _ => ⟨fun h => (by cases h), fun _ => rfl⟩
  | x :: b, y :: a, hp => by
    have h0 : x = y := hp 0 (Nat.succ_pos _) (Nat.succ_pos _)
    have e : cmpL (x :: b) (y :: a) = if x = y then cmpL b a else if x = true then 0 else 2 := rfl
    obtain ⟨i1, i2⟩ := cmp_end b a (fun j h1 h2 => hp (j + 1) (Nat.succ_lt_succ h1) (Nat.succ_lt_succ h2))
    rw [e, if_pos h0]
    exact ⟨fun h => by rw [h0, i1 (Nat.succ.inj h)], fun h => i2 (Nat.lt_of_succ_lt_succ h)⟩
/-- what the law compares behind the decisions -/
def AH (Ea Eb : PE) : Prop := ((eD Ea).length ≠ (eD Eb).length → (eD Eb).length < (eD Ea).length) ∧ ((eD Ea).length = (eD Eb).length → (eB Ea ≠ eB Eb → eB Eb < eB Ea) ∧ (eB Ea = eB Eb → (nHlt Ea ≠ nHlt Eb → nHlt Ea = 1) ∧ (nHlt Ea = nHlt Eb → eN Eb < eN Ea)))
theorem ah_of {Ea Eb : PE} (c0 : cmpE Eb Ea = 0) (hp : ∀ j, j < (eD Eb).length → j < (eD Ea).length → (eD Eb).getD j false = (eD Ea).getD j false) : AH Ea Eb := by
  obtain ⟨i1, i2⟩ := cmp_end _ _ hp
  unfold cmpE at c0
  have na := nH_le Ea
  have nb := nH_le Eb
  refine ⟨fun h => ?_, fun h => ?_⟩
  · rcases Nat.lt_or_ge (eD Ea).length (eD Eb).length with q | q
    · rw [i2 q] at c0
      rw [if_pos (by decide)] at c0
      exact absurd c0 (by decide)
    · omega
  · have e := i1 h.symm
    have c1 : cmpL (eD Eb) (eD Ea) = 1 := by
      rw [e]
      generalize eD Ea = x
      induction x with
      | nil => rfl
      | cons b x ih =>
        have e : cmpL (b :: x) (b :: x) = if b = b then cmpL x x else if b = true then 0 else 2 := rfl
        rw [e, if_pos rfl, ih]
    rw [c1, if_neg (by decide)] at c0
    refine ⟨fun g => ?_, fun g => ?_⟩
    · rw [if_pos (fun q => g q.symm)] at c0
      by_cases q : eB Eb < eB Ea
      · exact q
      · rw [if_neg q] at c0; exact absurd c0 (by decide)
    · rw [if_neg (fun q => q g.symm)] at c0
      refine ⟨fun p => ?_, fun p => ?_⟩
      · rw [if_pos (fun q => p q.symm)] at c0
        by_cases q : nHlt Eb = 1
        · rw [if_pos q] at c0; exact absurd c0 (by decide)
        · omega
      · rw [if_neg (fun q => q p.symm)] at c0
        by_cases q : eN Eb < eN Ea
        · exact q
        · rw [if_neg q] at c0
          split at c0 <;> exact absurd c0 (by decide)
theorem hlt_lt {E : PE} {B F cs : Nat} (h : EF B F cs E) : (0 ≤ eS E → nHlt E = 0) ∧ (¬ 0 ≤ eS E → nHlt E = 1) := by
  obtain ⟨-, s, -⟩ := h
  unfold nHlt
  rcases s with s | ⟨j, hj, s⟩
  · rw [s]; exact ⟨fun x => absurd x (by decide), fun _ => if_pos rfl⟩
  · refine ⟨fun _ => if_neg (by rw [s]; exact nI_ne1 (by omega)), fun x => absurd ?_ x⟩
    rw [s, show (0 : Int32) = nI 0 from rfl, nI_leI (by decide) (by omega)]
    exact Nat.zero_le _
section LAWD
variable {X : aw_X} {d mc ms kc ks : Nat} {Q : Option Value → aw_H → Prop} {D : Nat → Nat} {I : Nat → Nat → Int32} {L : Nat → Nat → Int64} {B F p n R cs : Nat} {Ea Eb : PE} {a16 a17 : Int32}
theorem l_777 {a18 : Option Value} (hm : kc ≤ mc) (hs : ks ≤ ms) (hD : D 7 = 2) (fa : EF B F cs Ea) (fb : EF B F cs Eb) (hF : F ≤ 40) (hA : AtP (I 72) Ea) (hB : AtP (I 73) Eb) (ha : AH Ea Eb) (hk : aw_Z X (d + 8) mc ms y_Law_law Q kc ks 916 (lwL B F p n R none (lI a16) (lI a17) none (lI 1)) [] (aw_s I L D)) : aw_Z X (d + 8) mc ms y_Law_law Q kc ks 777 (lwL B F p n R none (lI a16) (lI a17) none none) [] (aw_s I L D) := by
  obtain ⟨A1, A2, A3, A4, -⟩ := hA
  obtain ⟨B1, B2, B3, B4, -⟩ := hB
  have ea := fa.e
  have eb := fb.e
  have na := hlt_lt fa
  have nb := hlt_lt fb
  have la : (eD Ea).length ≤ F := fa.2.2.2.1
  have lb : (eD Eb).length ≤ F := fb.2.2.2.1
  have ga : eB Ea ≤ 1001 := fa.2.2.1
  have gb : eB Eb ≤ 1001 := fb.2.2.1
  have E18 : (I 72 18 = I 73 18) = ((eD Ea).length = (eD Eb).length) := by rw [A3, B3]; exact propext (nI_eq (by omega) (by omega))
  have L18 : (I 72 18 ≤ I 73 18) = ((eD Ea).length ≤ (eD Eb).length) := by rw [A3, B3]; exact propext (nI_leI (by omega) (by omega))
  have E19 : (I 72 19 = I 73 19) = (eB Ea = eB Eb) := by rw [A4, B4]; exact propext (nI_eq (by omega) (by omega))
  have L19 : (I 72 19 ≤ I 73 19) = (eB Ea ≤ eB Eb) := by rw [A4, B4]; exact propext (nI_leI (by omega) (by omega))
  have L16 : (I 72 16 ≤ I 73 16) = (eN Ea ≤ eN Eb) := by rw [A1, B1, ea.2, eb.2]; exact propext (nI_leI (by omega) (by omega))
  refine b_Law_law_777 (m2 := 0) (s2 := 0) hD hm hs (fun q1 q2 q3 => ?_) (fun q1 q2 q3 => ?_) (fun q1 q2 q3 => ?_) (fun _ _ _ => hk) (fun q1 q2 => ?_) (fun _ _ => hk)
  · rw [E18] at q1
    rw [E19] at q2
    rw [A2] at q3
    have h2 := (ha.2 q1).2 q2
    refine b_Law_law_862 (m2 := 0) (s2 := 0) hD hm hs (fun p => ?_) (fun p => ?_)
    · rw [B2] at p
      refine b_Law_law_875 (m2 := 0) (s2 := 0) hD hm hs (fun _ y => ?_) (fun _ _ => hk) (fun x => absurd rfl x) (fun x => absurd rfl x)
      rw [L16] at y
      have := h2.2 ((na.1 q3).trans (nb.1 p).symm)
      omega
    · rw [B2] at p
      have := h2.1 (by rw [na.1 q3, nb.2 p]; decide)
      rw [na.1 q3] at this
      exact absurd this (by decide)
  · rw [E18] at q1
    rw [E19] at q2
    have q3' := q3
    rw [A2] at q3
    have h2 := (ha.2 q1).2 q2
    refine b_Law_law_862 (m2 := 0) (s2 := 0) hD hm hs (fun p => ?_) (fun p => ?_)
    · exact b_Law_law_875 (m2 := 0) (s2 := 0) hD hm hs (fun x => absurd x (by decide)) (fun x => absurd x (by decide)) (fun _ x => absurd x q3') (fun _ _ => hk)
    · rw [B2] at p
      refine b_Law_law_875 (m2 := 0) (s2 := 0) hD hm hs (fun _ y => ?_) (fun _ _ => hk) (fun x => absurd rfl x) (fun x => absurd rfl x)
      rw [L16] at y
      have := h2.2 ((na.2 q3).trans (nb.2 p).symm)
      omega
  · rw [E18] at q1
    rw [E19] at q2
    rw [L19] at q3
    have := (ha.2 q1).1 q2
    omega
  · rw [E18] at q1
    rw [L18] at q2
    have := ha.1 q1
    omega
theorem l_684 (hm : kc ≤ mc) (hs : ks ≤ ms) (hD : D 7 = 2) (fa : EF B F cs Ea) (fb : EF B F cs Eb) (hF : F ≤ 30) (hA : AtP (I 72) Ea) (hB : AtP (I 73) Eb) (c0 : cmpE Eb Ea = 0) (hk : aw_Z X (d + 8) mc ms y_Law_law Q kc ks 916 (lwL B F p n R none (lI a16) (lI a17) none (lI 1)) [] (aw_s I L D)) :
    ∀ (m k : Nat), k + m = (eD Ea).length → k ≤ (eD Eb).length → (∀ j, j < k → (eD Eb).getD j false = (eD Ea).getD j false) → aw_Z X (d + 8) mc ms y_Law_law Q kc ks 684 (lwL B F p n R none (lI a16) (lI a17) (lI (nI k)) none) [] (aw_s I L D) := by
  have la : (eD Ea).length ≤ F := fa.2.2.2.1
  have lb : (eD Eb).length ≤ F := fb.2.2.2.1
  have kend : (∀ j, j < (eD Eb).length → j < (eD Ea).length → (eD Eb).getD j false = (eD Ea).getD j false) → aw_Z X (d + 8) mc ms y_Law_law Q kc ks 777 (lwL B F p n R none (lI a16) (lI a17) none none) [] (aw_s I L D) := fun hp => l_777 (a18 := none) hm hs hD fa fb (by omega) hA hB (ah_of c0 hp) hk
  intro m
  induction m with
  | zero =>
    intro k e hkb hp
    have le : I 72 18 ≤ nI k := by rw [hA.2.2.1, nI_leI (by omega) (by omega)]; omega
    exact b_Law_law_684 (m2 := 0) (s2 := 0) hD hm hs (fun _ => b_Law_law_733 (m2 := 0) (s2 := 0) hD hm hs (fun _ => kend (fun j _ h2 => hp j (by omega))) (fun x => absurd le x) (fun x => absurd le x) (fun x => absurd le x)) (fun x => absurd le x) (fun x => absurd le x) (fun x => absurd le x)
  | succ m ih =>
    intro k e hkb hp
    have nle : ¬ I 72 18 ≤ nI k := by rw [hA.2.2.1, nI_leI (by omega) (by omega)]; omega
    have ba : ((I 72 20) >>> (nI k &&& 31)) &&& (1 : Int32) = if (eD Ea).getD k false = true then 1 else 0 := by rw [hA.2.2.2.2, ds_bit (by omega) (by omega)]
    refine b_Law_law_684 (m2 := 0) (s2 := 0) hD hm hs (fun x => absurd x nle) (fun _ x => ?_) (fun _ x y => ?_) (fun _ x y => ?_)
    · have x' := x
      rw [hB.2.2.1, nI_leI (by omega) (by omega)] at x'
      exact b_Law_law_733 (m2 := 0) (s2 := 0) hD hm hs (fun z => absurd z nle) (fun _ _ => kend (fun j h1 _ => hp j (by omega))) (fun _ z => absurd x z) (fun _ z => absurd x z)
    · have x' := x
      rw [hB.2.2.1, nI_leI (by omega) (by omega)] at x'
      have bb : ((I 73 20) >>> (nI k &&& 31)) &&& (1 : Int32) = if (eD Eb).getD k false = true then 1 else 0 := by rw [hB.2.2.2.2, ds_bit (by omega) (by omega)]
      rw [ba, bb] at y
      have hne : (eD Eb).getD k false ≠ (eD Ea).getD k false := fun q => y (by rw [q])
      obtain ⟨d1, d2⟩ := cmp_dif _ _ k (by omega) (by omega) hp hne
      have c1 := c0
      unfold cmpE at c1
      rw [if_pos d1] at c1
      have tt := d2 c1
      refine b_Law_law_733 (m2 := 0) (s2 := 0) hD hm hs (fun z => absurd z nle) (fun _ z => absurd z x) (fun _ _ z => absurd (by rw [bb, tt]; rfl) z) (fun _ _ _ => b_Law_law_772 (m2 := 0) (s2 := 0) hm hs hk)
    · have x' := x
      rw [hB.2.2.1, nI_leI (by omega) (by omega)] at x'
      have bb : ((I 73 20) >>> (nI k &&& 31)) &&& (1 : Int32) = if (eD Eb).getD k false = true then 1 else 0 := by rw [hB.2.2.2.2, ds_bit (by omega) (by omega)]
      rw [ba, bb] at y
      have eq : (eD Eb).getD k false = (eD Ea).getD k false := by
        revert y
        cases (eD Ea).getD k false <;> cases (eD Eb).getD k false <;> intro y
        · rfl
        · exact absurd y (by decide)
        · exact absurd y (by decide)
        · rfl
      rw [nI_1]
      refine ih (k + 1) (by omega) (by omega) (fun j hj => ?_)
      by_cases q : j = k
      · rw [q]; exact eq
      · exact hp j (by omega)
end LAWD
section LAWE
variable {X : aw_X} {d mc ms kc ks : Nat} {Q : Option Value → aw_H → Prop} {D : Nat → Nat} {S : PT} {B F n : Nat} {l : List (Nat × Nat)} {E : Nat → PE} {wl wc : Nat → Nat}
theorem LWp.run (hP : LWp S B F l E) {I : Nat → Nat → Int32} {L : Nat → Nat → Int64} {o0 r : Nat} (hH : LH S B F l E n wl wc D I L) (ho : o0 ∈ aw_ta72) (hr : r < 4096) (hQ : ∀ I', (∀ o, o ≠ o0 → I' o = I o) → LH S B F l E n wl wc D I' L → AtP (I' o0) (E r) → Q none (aw_s I' L D)) : aw_m X (d + 1) y_Law_run [.ref o0, .ref 70, .ref 71, .int (nI l.length), .int (nI B), .int (nI r), .int (nI F)] (aw_s I L D) Q := by
  obtain ⟨hB, hF, h5, h8, hE, hRun⟩ := hP
  have o72 : 72 ≤ o0 := by
    have : o0 = 72 ∨ o0 = 73 := by simpa [aw_ta72] using ho
    omega
  exact c_Law_run ho hH.1 ⟨hB.1, by omega⟩ (by omega) h5 h8 hH.2.2.1 hr (fun I1 f1 at1 => hQ I1 f1 (hH.t o72 f1) (row_at (hRun r) at1))
theorem l_ways (hm : kc ≤ mc) (hs : ks ≤ ms) (hP : LWp S B F l E) (hk : ∀ I' L' a, LH S B F l E n wl wc D I' L' → a = sumW wc n → aw_Z X (d + 8) mc ms y_Law_law Q kc ks 932 [none, some (.ref 0), none, none, none, some (.int (nI F)), none, none, none, none, none, some (.int (nI n)), some (.int (nI (2 ^ (B * (2 + 0))))), none, none, none, some (.int (nI a)), some (.int 0), none, none] [] (aw_s I' L' D)) :
    ∀ (m w : Nat) (I : Nat → Nat → Int32) (L : Nat → Nat → Int64), w + m = n → LH S B F l E n wl wc D I L → aw_Z X (d + 8) mc ms y_Law_law Q kc ks 608 (lwL B F l.length n (2 ^ (B * (2 + 0))) none (lI (nI (sumW wc w))) (lI (nI w)) none none) [] (aw_s I L D)
  | 0, w, I, L, e, hH => by
    have hR := hP.rows
    have hle := hH.wy.le
    have le : nI n ≤ nI w := by rw [nI_leI (by omega) (by omega)]; omega
    exact b_Law_law_608 (m2 := 0) (s2 := 0) hm hs (fun _ => hk I L _ hH (by rw [show w = n by omega])) (fun x => absurd le x)
  | m + 1, w, I, L, e, hH => by
    have hR := hP.rows
    have hy := hH.wy
    have hle := hy.le
    have hF := hP.2.1
    have hw : w < n := by omega
    have lw := hy.1 w hw
    have nle : ¬ nI n ≤ nI w := by rw [nI_leI (by omega) (by omega)]; omega
    refine b_Law_law_608 (m2 := 0) (s2 := 0) hm hs (fun x => absurd x nle) (fun _ => c_Law_way1 (k := 3) hH.2.1 hw (by decide) ?_)
    refine b_Law_law_624 (m2 := 0) (s2 := 0) hm hs (c_Law_way1 (k := 4) hH.2.1 hw (by decide) ?_)
    have es : nI (sumW wc w) + wyV E wl wc w 3 = nI (sumW wc (w + 1)) := nI_add _ _
    refine b_Law_law_644 (m2 := 0) (s2 := 0) hm hs (hP.run (o0 := 72) (r := wl w) hH List.mem_cons_self (by omega) (fun I1 f1 hH1 a1 => ?_))
    rw [es]
    refine b_Law_law_649 (m2 := 0) (s2 := 0) hm hs (fun ne => ?_) (fun _ => by
      rw [nI_1]; exact l_ways hm hs hP hk m (w + 1) I1 L (by omega) hH1)
    have w0 : 0 < w := Nat.pos_of_ne_zero (fun q => ne (by rw [q]; rfl))
    have ew : nI w - 1 = nI (w - 1) := by rw [show (1 : Int32) = nI 1 from rfl, pk_sub (by omega)]
    rw [ew]
    have lw' := hy.1 (w - 1) (by omega)
    refine c_Law_way1 (k := 4) hH1.2.1 (show w - 1 < n by omega) (by decide) ?_
    refine b_Law_law_676 (m2 := 0) (s2 := 0) hm hs (hP.run (o0 := 73) (r := wl (w - 1)) hH1 (List.mem_cons_of_mem _ List.mem_cons_self) (by omega) (fun I2 f2 hH2 a2 => ?_))
    have a1' : AtP (I2 72) (E (wl w)) := by rw [f2 72 (by decide)]; exact a1
    have hord := hH.2.1.2.2.1.ord hH.2.1.2.1 (wl (w - 1)) (wl w)
    have hk1 : keyN (E (wl (w - 1))) < keyN (E (wl w)) := hy.2.1 (w - 1) w (by omega) hw
    have c0 : cmpE (E (wl (w - 1))) (E (wl w)) = 0 := by
      rcases hord with h | h | h
      · exact h.1
      · omega
      · omega
    refine b_Law_law_681 (m2 := 0) (s2 := 0) hm hs (l_684 hm hs hH.1 (hH.2.1.2.2.1.1 _) (hH.2.1.2.2.1.1 _) (by omega) a1' a2 c0 ?_ (eD (E (wl w))).length 0 (Nat.zero_add _) (Nat.zero_le _) (fun j hj => absurd hj (Nat.not_lt_zero j)))
    refine b_Law_law_916 (m2 := 0) (s2 := 0) hm hs (fun _ => ?_) (fun x => absurd x (by decide))
    rw [nI_1]
    exact l_ways hm hs hP hk m (w + 1) I2 L (by omega) hH2
end LAWE
