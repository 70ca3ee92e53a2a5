/-! PART h6: the law's own run, whole -/
section LRW
variable {X : aw_X} {d : Nat} {Q : Option Value → aw_H → Prop} {I : Nat → Nat → Int32} {L : Nat → Nat → Int64} {D : Nat → Nat} {o0 B F m p np n s bg : Nat} {nm cl : Nat → Int32} {ds : List Bool}
/-- what is kept where a piece doesn't end the run -/
theorem lwW_LB (h6 : B ≤ 6) : ∀ (f : Nat) (nm cl : Nat → Int32) (bg : Nat) (ds : List Bool) (st' : LSt) (x : Int32), LB B F (m + 1) (nm, cl, bg, ds) → lwW (mk B) F x s f (nm, cl, bg, ds) = .inl st' → LB B F (m + 1) st' := by
  intro f
  induction f with
  | zero => intro nm cl bg ds st' x _ h; cases h
  | succ f ih =>
    intro nm cl bg ds st' x hb h
    obtain ⟨b1, b2, b3, b4⟩ := hb
    have h : (if ds.length = F then Sum.inr (5, nI s, (nm, cl, bg, ds)) else if nm 2 < x then lwW (mk B) F x s f (va_up (va_up nm 2 ((nm 2 + 1) &&& mk B)) 3 ((nm 3 + nm 0) &&& mk B), cl, bg + 3, ds ++ [true]) else .inl (nm, cl, bg, ds ++ [false])) = .inl st' := h
    by_cases q : ds.length = F
    · rw [if_pos q] at h; cases h
    · rw [if_neg q] at h
      by_cases r : nm 2 < x
      · rw [if_pos r] at h
        exact ih _ cl (bg + 3) (ds ++ [true]) st' x ⟨rg_up (rg_up b1 (mk_rg h6 _)) (mk_rg h6 _), b2, by rw [len_s]; omega, by rw [len_s]; omega⟩ h
      · rw [if_neg r] at h
        cases h
        exact ⟨b1, b2, by rw [len_s]; omega, by rw [len_s]; omega⟩
theorem lwP_LB {k : Nat} {st' : LSt} (hk : k < 8) (h6 : B ≤ 6) (hb : LB B F m (nm, cl, bg, ds)) (h : lwP (mk B) F k n s (nm, cl, bg, ds) = .inl st') : LB B F (m + 1) st' := by
  obtain ⟨b1, b2, b3, b4⟩ := hb
  have keep : ∀ c : Prop, ∀ [Decidable c], ∀ e : Int32 × Int32 × LSt, (if c then Sum.inr e else Sum.inl (nm, cl, bg + 1, ds)) = .inl st' → LB B F (m + 1) st' := fun c _ e h => by
    split at h
    · cases h
    · cases h; exact ⟨b1, b2, by omega, b4⟩
  rcases (show k = 0 ∨ k = 1 ∨ k = 2 ∨ k = 3 ∨ k = 4 ∨ k = 5 ∨ k = 6 ∨ k = 7 by omega) with e | e | e | e | e | e | e | e <;> subst e
  · cases h; exact ⟨rg_up b1 (mk_rg h6 _), b2, by omega, b4⟩
  · have h : (if ds.length = F then Sum.inr (5, nI s, (nm, cl, bg + 1, ds)) else if nm 0 < nI n &&& mk B then .inl (va_up nm 2 ((nm 2 + 1) &&& mk B), cl, bg + 2, ds ++ [true]) else .inl (va_up nm 2 ((nm 2 * 2) &&& mk B), cl, bg + 2, ds ++ [false]) : Sum LSt (Int32 × Int32 × LSt)) = Sum.inl st' := h
    by_cases q : ds.length = F
    · rw [if_pos q] at h; cases h
    · rw [if_neg q] at h
      by_cases r : nm 0 < nI n &&& mk B
      · rw [if_pos r] at h; cases h
        exact ⟨rg_up b1 (mk_rg h6 _), b2, by rw [len_s]; omega, by rw [len_s]; omega⟩
      · rw [if_neg r] at h; cases h
        exact ⟨rg_up b1 (mk_rg h6 _), b2, by rw [len_s]; omega, by rw [len_s]; omega⟩
  · exact lwW_LB h6 (F + 1) nm cl (bg + 1) ds st' _ ⟨b1, b2, by omega, b4⟩ h
  · exact keep _ _ h
  · exact keep _ _ h
  · have h : (if nm 1 = 0 then Sum.inr (2, nI s, (nm, cl, bg + 1, ds)) else .inl (va_up nm 3 (nm 0 / nm 1), cl, bg + 1, ds) : Sum LSt (Int32 × Int32 × LSt)) = Sum.inl st' := h
    by_cases q : nm 1 = 0
    · rw [if_pos q] at h; cases h
    · rw [if_neg q] at h; cases h
      exact ⟨rg_up b1 (rg_div h6 (b1 0 (by decide)) (b1 1 (by decide)) q).2, b2, by omega, b4⟩
  · have h : (if 7 < (nm 1 + (nI n &&& mk B)) &&& mk B then Sum.inr (3, nI s, (nm, cl, bg + 1, ds)) else .inl (nm, va_up cl ((nm 1 + (nI n &&& mk B)) &&& mk B).toNatClampNeg (nm 0), bg + 1, ds) : Sum LSt (Int32 × Int32 × LSt)) = Sum.inl st' := h
    by_cases q : 7 < (nm 1 + (nI n &&& mk B)) &&& mk B
    · rw [if_pos q] at h; cases h
    · rw [if_neg q] at h; cases h
      exact ⟨b1, rg_up b2 (b1 0 (by decide)), by omega, b4⟩
  · have h : (if 7 < nI n &&& mk B then Sum.inr (3, nI s, (nm, cl, bg + 1, ds)) else .inl (va_up nm 7 ((cl (nI n &&& mk B).toNatClampNeg + nm 3) &&& mk B), cl, bg + 1, ds) : Sum LSt (Int32 × Int32 × LSt)) = Sum.inl st' := h
    by_cases q : 7 < nI n &&& mk B
    · rw [if_pos q] at h; cases h
    · rw [if_neg q] at h; cases h
      exact ⟨rg_up b1 (mk_rg h6 _), b2, by omega, b4⟩
/-- the run has ended -/
theorem lr_end {I0 : Nat → Nat → Int32} {R : Int32 × Int32 × LSt} {v8 : Int32} (ho : o0 ∈ aw_ta72) (hD : D 7 = 2) (hfr : ∀ o, o ≠ o0 → I o = I0 o) (hA : AtE (I o0) R) (he : 0 ≤ R.1) (hQ : ∀ I', (∀ o, o ≠ o0 → I' o = I0 o) → AtE (I' o0) R → Q none (aw_s I' L D)) {v3 v6 v7 v9 : Int32} :
    aw_z X (d + 1) y_Law_run Q 59 [some (.ref o0), some (.ref 70), some (.ref 71), some (.int v3), none, none, some (.int v6), some (.int v7), some (.int v8), some (.int v9), none, none, none] [] (aw_s I L D) := by
  have h16 : 0 ≤ I o0 16 := by rw [hA.1]; exact he
  have fin : aw_z X (d + 1) y_Law_run Q 496 [some (.ref o0), none, none, none, none, none, none, none, none, none, none, none, none] [] (aw_s I L D) := b_Law_run_496 ho hD (fun _ => b_Law_run_509 (hQ I hfr hA)) (fun q => absurd h16 q)
  exact b_Law_run_59 ho hD (fun _ => fin) (fun _ _ => fin) (fun _ q => absurd h16 q) (fun _ q => absurd h16 q) (fun _ q => absurd h16 q) (fun _ q => absurd h16 q) (fun _ q => absurd h16 q) (fun _ q => absurd h16 q) (fun _ q => absurd h16 q) (fun _ q => absurd h16 q) (fun _ q => absurd h16 q) (fun _ q => absurd h16 q) (fun _ q => absurd h16 q) (fun _ q => absurd h16 q) (fun _ q => absurd h16 q) (fun _ q => absurd h16 q) (fun _ q => absurd h16 q) (fun _ q => absurd h16 q) (fun _ q => absurd h16 q) (fun _ q => absurd h16 q) (fun _ q => absurd h16 q) (fun _ q => absurd h16 q)
theorem lr_piece {k : Nat} (hk8 : k < 8) (ho : o0 ∈ aw_ta72) (hD : D 7 = 2) (hB : 2 ≤ B ∧ B ≤ 6) (hF : F ≤ 30) (hp : p < np) (hnp : np ≤ 5) (hs : s ≤ 100) (hK : I 70 p = nI k) (hV : I 71 p = nI n) (h16 : I o0 16 = -1) (hA : AtS (I o0) (nm, cl, bg, ds)) (hb : LB B F m (nm, cl, bg, ds))
    (hin : ∀ st', lwP (mk B) F k n s (nm, cl, bg, ds) = .inl st' → ∀ I', (∀ o, o ≠ o0 → I' o = I o) → AtS (I' o0) st' → I' o0 16 = -1 → aw_z X (d + 1) y_Law_run Q 59 [some (.ref o0), some (.ref 70), some (.ref 71), some (.int (nI np)), none, none, some (.int (nI F)), some (.int (mk B)), some (.int (nI (s + pcN k))), some (.int (nI (p + 1))), none, none, none] [] (aw_s I' L D))
    (hen : ∀ en sp st', lwP (mk B) F k n s (nm, cl, bg, ds) = .inr (en, sp, st') → 0 ≤ en → ∀ I' v8, (∀ o, o ≠ o0 → I' o = I o) → AtE (I' o0) (en, sp, st') → aw_z X (d + 1) y_Law_run Q 59 [some (.ref o0), some (.ref 70), some (.ref 71), some (.int (nI np)), none, none, some (.int (nI F)), some (.int (mk B)), some (.int v8), some (.int (nI (p + 1))), none, none, none] [] (aw_s I' L D)) :
    aw_z X (d + 1) y_Law_run Q 59 [some (.ref o0), some (.ref 70), some (.ref 71), some (.int (nI np)), none, none, some (.int (nI F)), some (.int (mk B)), some (.int (nI s)), some (.int (nI p)), none, none, none] [] (aw_s I L D) := by
  rcases (show k = 0 ∨ k = 1 ∨ k = 2 ∨ k = 3 ∨ k = 4 ∨ k = 5 ∨ k = 6 ∨ k = 7 by omega) with e | e | e | e | e | e | e | e <;> subst e
  · exact lr_0 ho hD hB hF hp hnp hs hK hV h16 hA hb hin hen
  · exact lr_1 ho hD hB hF hp hnp hs hK hV h16 hA hb hin hen
  · exact lr_2 ho hD hB hF hp hnp hs hK hV h16 hA hb hin hen
  · exact lr_3 ho hD hB hF hp hnp hs hK hV h16 hA hb hin hen
  · exact lr_4 ho hD hB hF hp hnp hs hK hV h16 hA hb hin hen
  · exact lr_5 ho hD hB hF hp hnp hs hK hV h16 hA hb hin hen
  · exact lr_6 ho hD hB hF hp hnp hs hK hV h16 hA hb hin hen
  · exact lr_7 ho hD hB hF hp hnp hs hK hV h16 hA hb hin hen
/-- the pieces lie in two rows -/
def KV (I : Nat → Nat → Int32) (p : Nat) (l : List (Nat × Nat)) : Prop := ∀ j, j < l.length → I 70 (p + j) = nI (l.getD j (0, 0)).1 ∧ I 71 (p + j) = nI (l.getD j (0, 0)).2
theorem lr_list (ho : o0 ∈ aw_ta72) (hD : D 7 = 2) (hB : 2 ≤ B ∧ B ≤ 6) (hF : F ≤ 30) (hnp : np ≤ 5) {I0 : Nat → Nat → Int32} : ∀ (l : List (Nat × Nat)) (p s m : Nat) (nm cl : Nat → Int32) (bg : Nat) (ds : List Bool) (I : Nat → Nat → Int32), p + l.length = np → (∀ q, q ∈ l → q.1 < 8) → s + 3 * l.length ≤ 100 → KV I0 p l → (∀ o, o ≠ o0 → I o = I0 o) → I o0 16 = -1 → AtS (I o0) (nm, cl, bg, ds) → LB B F m (nm, cl, bg, ds) →
    (∀ I', (∀ o, o ≠ o0 → I' o = I0 o) → AtE (I' o0) (lwR (mk B) F l s (nm, cl, bg, ds)) → Q none (aw_s I' L D)) →
    aw_z X (d + 1) y_Law_run Q 59 [some (.ref o0), some (.ref 70), some (.ref 71), some (.int (nI np)), none, none, some (.int (nI F)), some (.int (mk B)), some (.int (nI s)), some (.int (nI p)), none, none, none] [] (aw_s I L D)
  | [], p, s, m, nm, cl, bg, ds, I, hp, hk, hs, hKV, hfr, h16, hA, hb, hQ => by
    have hp : p = np := hp
    have c : nI np ≤ nI p := by rw [hp]; exact nI_le (Nat.le_refl _) (by omega)
    have n16 : ¬ 0 ≤ I o0 16 := by rw [h16]; decide
    exact b_Law_run_59 ho hD (fun _ => b_Law_run_496 ho hD (fun q => absurd q n16) (fun _ => l_ends (en := 0) (sp := -1) ho hD hfr hA (fun I' f g => b_Law_run_509 (hQ I' f g)))) (fun q => absurd c q) (fun q => absurd c q) (fun q => absurd c q) (fun q => absurd c q) (fun q => absurd c q) (fun q => absurd c q) (fun q => absurd c q) (fun q => absurd c q) (fun q => absurd c q) (fun q => absurd c q) (fun q => absurd c q) (fun q => absurd c q) (fun q => absurd c q) (fun q => absurd c q) (fun q => absurd c q) (fun q => absurd c q) (fun q => absurd c q) (fun q => absurd c q) (fun q => absurd c q) (fun q => absurd c q) (fun q => absurd c q)
  | x :: l, p, s, m, nm, cl, bg, ds, I, hp, hk, hs, hKV, hfr, h16, hA, hb, hQ => by
    have hp : p + (l.length + 1) = np := hp
    have hs : s + 3 * (l.length + 1) ≤ 100 := hs
    obtain ⟨o70, o71⟩ := at_ne ho
    have k0 := hKV 0 (Nat.succ_pos _)
    have hx := hk x List.mem_cons_self
    have n3 := pcN_le x.1
    refine lr_piece (k := x.1) (n := x.2) hx ho hD hB hF (by omega) hnp (by omega) (by rw [hfr 70 o70]; exact k0.1) (by rw [hfr 71 o71]; exact k0.2) h16 hA hb (fun st' e I' f g h => ?_) (fun en sp st' e h0 I' v8 f g => ?_)
    · obtain ⟨nm', cl', bg', ds'⟩ := st'
      refine lr_list ho hD hB hF hnp l (p + 1) (s + pcN x.1) (m + 1) nm' cl' bg' ds' I' (by omega) (fun q hq => hk q (List.mem_cons_of_mem _ hq)) (by omega) (fun j hj => ?_) (fun o q => (f o q).trans (hfr o q)) h g (lwP_LB hx hB.2 hb e) (fun I2 f2 g2 => hQ I2 f2 ?_)
      · have := hKV (j + 1) (Nat.succ_lt_succ hj)
        rw [show p + (j + 1) = p + 1 + j by omega] at this
        exact this
      · show AtE (I2 o0) (match lwP (mk B) F x.1 x.2 s (nm, cl, bg, ds) with | .inl st' => lwR (mk B) F l (s + pcN x.1) st' | .inr e => e)
        rw [e]; exact g2
    · refine lr_end ho hD (fun o q => (f o q).trans (hfr o q)) g h0 (fun I2 f2 g2 => hQ I2 f2 ?_)
      show AtE (I2 o0) (match lwP (mk B) F x.1 x.2 s (nm, cl, bg, ds) with | .inl st' => lwR (mk B) F l (s + pcN x.1) st' | .inr e => e)
      rw [e]; exact g2
theorem l_zero {I0 : Nat → Nat → Int32} {v3 v4 v5 v6 v7 : Int32} (ho : o0 ∈ aw_ta72) (hD : D 7 = 2) (hQ : ∀ I', (∀ o, o ≠ o0 → I' o = I0 o) → (∀ j, j < 24 → I' o0 j = 0) → aw_z X (d + 1) y_Law_run Q 59 [some (.ref o0), some (.ref 70), some (.ref 71), some (.int v3), none, none, some (.int v6), some (.int v7), some (.int 0), some (.int 0), none, none, none] [] (aw_s (aw_u (aw_u (aw_u I' o0 0 (v5 &&& v7)) o0 1 ((v5 >>> (v4 &&& 31)) &&& v7)) o0 16 (-1)) L D)) :
    ∀ (m k : Nat) (I : Nat → Nat → Int32), k + m = 24 → (∀ o, o ≠ o0 → I o = I0 o) → (∀ j, j < k → I o0 j = 0) → aw_z X (d + 1) y_Law_run Q 11 [some (.ref o0), some (.ref 70), some (.ref 71), some (.int v3), some (.int v4), some (.int v5), some (.int v6), some (.int v7), some (.int (nI k)), none, none, none, none] [] (aw_s I L D) := by
  intro m
  induction m with
  | zero =>
    intro k I e hf h0
    have : k = 24 := by omega
    subst this
    have c : (24 : Int32) ≤ nI 24 := by decide
    exact b_Law_run_11 ho hD (fun _ => hQ I hf h0) (fun q => absurd c q) (fun q => absurd c q)
  | succ m ih =>
    intro k I e hf h0
    have c : ¬ (24 : Int32) ≤ nI k := by rw [show (24 : Int32) = nI 24 from rfl, nI_leI (by decide) (by omega)]; omega
    refine b_Law_run_11 ho hD (fun q => absurd q c) (fun _ => aw_in_nI (by omega) (by decide)) (fun _ => ?_)
    rw [nI_1, nI_clamp (by omega)]
    refine ih (k + 1) _ (by omega) (fun o q => by rw [au_o q]; exact hf o q) (fun j hj => ?_)
    by_cases q : j = k
    · subst q; rw [au_s]
    · rw [au_k q]; exact h0 j (by omega)
theorem c_Law_run {l : List (Nat × Nat)} {r : Nat} (ho : o0 ∈ aw_ta72) (hD : D 7 = 2) (hB : 2 ≤ B ∧ B ≤ 6) (hF : F ≤ 30) (h5 : l.length ≤ 5) (hk : ∀ q, q ∈ l → q.1 < 8) (hKV : KV I 0 l) (hr : r < 4096)
    (hQ : ∀ I', (∀ o, o ≠ o0 → I' o = I o) → AtE (I' o0) (lwR (mk B) F l 0 (lw0 B r)) → Q none (aw_s I' L D)) :
    aw_m X (d + 1) y_Law_run [.ref o0, .ref 70, .ref 71, .int (nI l.length), .int (nI B), .int (nI r), .int (nI F)] (aw_s I L D) Q := by
  obtain ⟨o70, o71⟩ := at_ne ho
  refine aw_go rfl rfl (b_Law_run_0 ho ?_)
  rw [mk_eq hB.1 hB.2]
  refine l_zero (I0 := I) ho hD (fun I1 f1 z1 => ?_) 24 0 I rfl (fun _ _ => rfl) (fun j hj => absurd hj (Nat.not_lt_zero j))
  have fr : ∀ o, o ≠ o0 → (aw_u (aw_u (aw_u I1 o0 0 (nI r &&& mk B)) o0 1 ((nI r >>> (nI B &&& 31)) &&& mk B)) o0 16 (-1)) o = I o := fun o q => by rw [au_o q, au_o q, au_o q]; exact f1 o q
  have e0 : nI r &&& mk B = rowNm B 2 (nI r) 0 := by
    show _ = (if 0 < 2 then (nI r >>> ((nI (B * 0)) &&& 31)) &&& mk B else 0)
    rw [if_pos (by decide), Nat.mul_zero, sar_nI (s := 0) (by decide) hr, Nat.pow_zero, Nat.div_one]
  have e1 : (nI r >>> (nI B &&& 31)) &&& mk B = rowNm B 2 (nI r) 1 := by
    show _ = (if 1 < 2 then (nI r >>> ((nI (B * 1)) &&& 31)) &&& mk B else 0)
    rw [if_pos (by decide), Nat.mul_one]
  refine lr_list (I0 := I) (m := 0) ho hD hB hF h5 l 0 0 (rowNm B 2 (nI r)) (fun _ => 0) 0 [] _ (Nat.zero_add _) hk (by omega) hKV fr (by rw [au_s]) ?_ ⟨fun k _ => rowNm_rg hB.2 k, fun _ _ => rg_0 B, Nat.zero_le _, Nat.zero_le _⟩ hQ
  rw [aw_u_same, aw_u_same, aw_u_same]
  exact ⟨by rw [ap_n (by decide), ap_n (by decide), ap_s]; exact e0, by rw [ap_n (by decide), ap_s]; exact e1, by rw [ap_n (by decide), ap_n (by decide), ap_n (by decide)]; exact z1 2 (by decide), by rw [ap_n (by decide), ap_n (by decide), ap_n (by decide)]; exact z1 3 (by decide), by rw [ap_n (by decide), ap_n (by decide), ap_n (by decide)]; exact z1 4 (by decide), fun j hj => by rw [ap_n (by omega), ap_n (by omega), ap_n (by omega)]; exact z1 (8 + j) (by omega), by rw [ap_n (by decide), ap_n (by decide), ap_n (by decide)]; exact z1 18 (by decide), by rw [ap_n (by decide), ap_n (by decide), ap_n (by decide)]; exact z1 19 (by decide), by rw [ap_n (by decide), ap_n (by decide), ap_n (by decide)]; exact z1 20 (by decide)⟩
end LRW
