/-! PART j3: the law over all rows -/
theorem LH.wy {S : PT} {B F n : Nat} {l : List (Nat × Nat)} {E : Nat → PE} {wl wc : Nat → Nat} {D : Nat → Nat} {I : Nat → Nat → Int32} {L : Nat → Nat → Int64} (h : LH S B F l E n wl wc D I L) : WY (kK E) (2 ^ (B * (2 + 0))) n wl wc := h.2.1.2.2.2.2.2.2.2.1
theorem LH.all {S : PT} {B F n a b : Nat} {l : List (Nat × Nat)} {E : Nat → PE} {wl wc : Nat → Nat} {D : Nat → Nat} {I : Nat → Nat → Int32} {L : Nat → Nat → Int64} (hP : LWp S B F l E) (h : LH S B F l E n wl wc D I L) (hk : kK E a = kK E b) : eE (E a) = eE (E b) ∧ eS (E a) = eS (E b) ∧ eD (E a) = eD (E b) ∧ eB (E a) = eB (E b) := key_all h.2.1.2.1 h.2.1.2.2.1 hP.2.2.2.2.1 hk
theorem LH.len {S : PT} {B F n r : Nat} {l : List (Nat × Nat)} {E : Nat → PE} {wl wc : Nat → Nat} {D : Nat → Nat} {I : Nat → Nat → Int32} {L : Nat → Nat → Int64} (h : LH S B F l E n wl wc D I L) : (eD (E r)).length ≤ F := (h.2.1.2.2.1.1 r).2.2.2.1
section LAWC
variable {X : aw_X} {d mc ms kc ks : Nat} {Q : Option Value → aw_H → Prop} {D : Nat → Nat} {I : Nat → Nat → Int32} {L : Nat → Nat → Int64} {S : PT} {B F n r : Nat} {l : List (Nat × Nat)} {E : Nat → PE} {wl wc : Nat → Nat} {a15 : Int32}
/-- the decisions of the row's way -/
theorem l_went {i : Nat} (hm : kc ≤ mc) (hs : ks ≤ ms) (hP : LWp S B F l E) (hH : LH S B F l E n wl wc D I L) (hA : AtP (I 72) (E r)) (hi : i < n) (hd : eD (E (wl i)) = eD (E r)) (hk : aw_Z X (d + 8) mc ms y_Law_law Q kc ks 533 (lwL B F l.length n (2 ^ (B * (2 + 0))) (lI a15) (lI (nI r)) (lI (nI i)) none none) [.int (-1)] (aw_s I L D)) :
    ∀ (m k : Nat), k + m = (eD (E r)).length → aw_Z X (d + 8) mc ms y_Law_law Q kc ks 472 (lwL B F l.length n (2 ^ (B * (2 + 0))) (lI a15) (lI (nI r)) (lI (nI i)) (lI (nI k)) none) [] (aw_s I L D)
  | 0, k, e => by
    have hF := hP.2.1
    have hl : (eD (E r)).length ≤ F := hH.len
    refine b_Law_law_472 (m2 := 0) (s2 := 0) hH.1 hm hs (fun _ => ?_) (fun x => absurd (by rw [hA.2.2.1, nI_leI (by omega) (by omega)]; omega) x)
    refine c_AW_went0 hH.2.1 hi (Or.inr (by rw [hA.2.2.1, hd]; exact Int32.le_refl _)) ?_
    refine b_Law_law_522 (m2 := 0) (s2 := 0) hm hs (fun x => absurd rfl x) (fun _ => c_AW_went0 hH.2.1 hi (Or.inl (by decide)) hk)
  | m + 1, k, e => by
    have hF := hP.2.1
    have hl : (eD (E r)).length ≤ F := hH.len
    have nk : ¬ I 72 18 ≤ nI k := by rw [hA.2.2.1, nI_leI (by omega) (by omega)]; omega
    refine b_Law_law_472 (m2 := 0) (s2 := 0) hH.1 hm hs (fun x => absurd x nk) (fun _ => c_AW_went1 hH.2.1 hi (by rw [hd]; omega) ?_)
    refine b_Law_law_490 (m2 := 0) (s2 := 0) hH.1 hm hs (fun _ => ?_) (fun x => absurd (by rw [hA.2.2.2.2, ds_bit (by omega) (by omega), hd]) x)
    rw [nI_1]
    exact l_went hm hs hP hH hA hi hd hk m (k + 1) (by omega)
theorem l_row (hm : kc ≤ mc) (hs : ks ≤ ms) (hP : LWp S B F l E) (hH : LH S B F l E n wl wc D I L) (hr : r < 2 ^ (B * (2 + 0))) (hk : ∀ I' L', LH S B F l E n wl wc D I' L' → aw_Z X (d + 8) mc ms y_Law_law Q kc ks 238 (lwL B F l.length n (2 ^ (B * (2 + 0))) (lI (nI (cntL wl (r + 1) n))) (lI (nI (r + 1))) none none none) [] (aw_s I' L' D)) :
    aw_Z X (d + 8) mc ms y_Law_law Q kc ks 238 (lwL B F l.length n (2 ^ (B * (2 + 0))) (lI (nI (cntL wl r n))) (lI (nI r)) none none none) [] (aw_s I L D) := by
  have hR := hP.rows
  refine l_rowA hm hs hP hH hr (fun I1 L1 hH1 hA => ?_)
  have hF := hP.2.1
  have hy := hH1.wy
  have hle := hy.le
  obtain ⟨i, hi, ek, el⟩ := hy.2.2.1 r hr
  obtain ⟨qE, qS, qD, qB⟩ := hH1.all hP ek
  have hW := hH1.2.1
  have p1 : ¬ nI i < 0 := nI_pos (by omega)
  have p2 : ¬ nI n ≤ nI i := by rw [nI_leI (by omega) (by omega)]; omega
  refine b_Law_law_382 (m2 := 0) (s2 := 0) hm hs (fun _ => c_AW_along1 hW hr hi ek ?_) (fun x => absurd rfl x)
  refine b_Law_law_393 (m2 := 0) (s2 := 0) hm hs (fun x => absurd x p1) (fun _ x => absurd x p2) (fun _ _ => c_Law_way1 (k := 0) hW hi (by decide) ?_)
  refine b_Law_law_414 (m2 := 0) (s2 := 0) hH1.1 hm hs (fun x => absurd (qE.trans hA.1.symm) x) (fun _ => c_Law_way1 (k := 1) hW hi (by decide) ?_)
  refine b_Law_law_429 (m2 := 0) (s2 := 0) hH1.1 hm hs (fun x => absurd (qS.trans hA.2.1.symm) x) (fun _ => c_Law_way1 (k := 2) hW hi (by decide) ?_)
  refine b_Law_law_444 (m2 := 0) (s2 := 0) hH1.1 hm hs (fun x => absurd ((congrArg (fun x => nI (List.length x)) qD).trans hA.2.2.1.symm) x) (fun _ => c_Law_way1 (k := 5) hW hi (by decide) ?_)
  refine b_Law_law_459 (m2 := 0) (s2 := 0) hH1.1 hm hs (fun _ => ?_) (fun x => absurd ((congrArg nI qB).trans hA.2.2.2.1.symm) x)
  refine l_went hm hs hP hH1 hA hi qD ?_ (eD (E r)).length 0 (Nat.zero_add _)
  refine b_Law_law_533 (m2 := 0) (s2 := 0) hm hs (fun _ => c_Law_way1 (k := 4) hW hi (by decide) ?_) (fun x => absurd rfl x)
  have inj : ∀ a b, a < n → b < n → wl a = wl b → a = b := fun a b ha hb e => hy.inj ha hb (by rw [e])
  refine b_Law_law_546 (m2 := 0) (s2 := 0) hm hs (fun ne => c_Law_way1 (k := 4) hW hi (by decide) ?_) (fun eq => ?_)
  · have ne : wl i ≠ r := fun q => ne (congrArg nI q)
    have nl : ¬ nI r < nI (wl i) := by rw [nI_ltI (by omega) (by omega)]; omega
    refine b_Law_law_564 (m2 := 0) (s2 := 0) hm hs (fun x => absurd x nl) (fun _ => c_Law_way1 (k := 4) hW hi (by decide) ?_)
    refine b_Law_law_577 (m2 := 0) (s2 := 0) hm hs (c_AW_along1 hW (by omega) hi rfl ?_)
    refine b_Law_law_580 (m2 := 0) (s2 := 0) hm hs (fun _ => ?_) (fun x => absurd rfl x)
    rw [nI_1, ← cntL_no n (fun j hj q => ne (by
      have : j = i := hy.inj hj hi (by rw [q]; exact ek.symm)
      rw [← this]; exact q))]
    exact hk I1 L1 hH1
  · have eq : wl i = r := (nI_eq (by omega) (by omega)).mp eq
    rw [nI_1, nI_1, ← cntL_yes n i hi eq inj]
    exact hk I1 L1 hH1
theorem l_rows (hm : kc ≤ mc) (hs : ks ≤ ms) (hP : LWp S B F l E) (hk : ∀ I' L', LH S B F l E n wl wc D I' L' → aw_Z X (d + 8) mc ms y_Law_law Q kc ks 608 (lwL B F l.length n (2 ^ (B * (2 + 0))) none (lI 0) (lI 0) none none) [] (aw_s I' L' D)) :
    ∀ (m r : Nat) (I : Nat → Nat → Int32) (L : Nat → Nat → Int64), r + m = 2 ^ (B * (2 + 0)) → LH S B F l E n wl wc D I L → aw_Z X (d + 8) mc ms y_Law_law Q kc ks 238 (lwL B F l.length n (2 ^ (B * (2 + 0))) (lI (nI (cntL wl r n))) (lI (nI r)) none none none) [] (aw_s I L D)
  | 0, r, I, L, e, hH => by
    have hR := hP.rows
    have le : nI (2 ^ (B * (2 + 0))) ≤ nI r := by rw [nI_leI (by omega) (by omega)]; omega
    have ec : nI (cntL wl r n) = nI n := by rw [cntL_all n (fun i hi => by have := hH.wy.1 i hi; omega)]
    exact b_Law_law_238 (m2 := 0) (s2 := 0) hm hs (fun _ _ => hk I L hH) (fun _ x => absurd ec x) (fun x => absurd le x)
  | m + 1, r, I, L, e, hH => l_row hm hs hP hH (by omega) (fun I' L' h => l_rows hm hs hP hk m (r + 1) I' L' (by omega) h)
end LAWC
