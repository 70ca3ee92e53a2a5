/-! PART ae: the class notes what a row's trace tells; rounds -/
theorem stJ_c {f : Nat → Int32} {s a k : Nat} {nm : Nat → Int32} {x : Nat} : stJ f s nm a (k + 1) x = va_up (stJ f s nm a k) (64 * s + 8 * a + (a + 1 + k)) (stJ f s nm a k (64 * s + 8 * a + (a + 1 + k)) ||| relI (nm a) (nm (a + 1 + k))) x := rfl
/-- an entry of the trace is read again -/
theorem wdS_n {s : Nat} {nm : Nat → Int32} {v : Nat → Nat} (hs : s < 60) (h : ∀ k, k < 8 → v k < 64 ∧ nm k = nI (v k)) : wdS s nm = lN (pkN v 8 0 * 64 + s) := by
  unfold wdS
  have e6 : lN (pkN v 8 0) <<< ((6 : Int32).toInt64 &&& 63) = lN (pkN v 8 0 * 2 ^ 6) := ln_shl (s := 6) (by decide)
  rw [show (0 : Int64) = lN 0 from rfl, wdN_n h 8 0 (Nat.le_refl _), e6, i64_n (by omega), ln_or, or_add (s := 6) (by show s < 64; omega)]
theorem rg_v {B : Nat} {nm : Nat → Int32} (hB : B ≤ 6) (h : ∀ k, k < 8 → rg B (nm k)) : ∃ v : Nat → Nat, ∀ k, k < 8 → v k < 64 ∧ nm k = nI (v k) := by
  refine ⟨fun k => (nm k).toBitVec.toNat, fun k hk => ?_⟩
  obtain ⟨j, h1, -, h2⟩ := rg_nat hB (h k hk)
  show (nm k).toBitVec.toNat < 64 ∧ nm k = nI (nm k).toBitVec.toNat
  rw [h2, pk_tn (by omega)]
  exact ⟨h1, rfl⟩
section KTRC
variable {X : aw_X} {d : Nat} {Q : Option Value → aw_H → Prop} {I : Nat → Nat → Int32} {L : Nat → Nat → Int64} {D : Nat → Nat}
theorem c_AW_relationOf {x y : Nat} (hx : x < 64) (hy : y < 64) (hQ : Q (some (.int (relI (nI x) (nI y)))) (aw_s I L D)) : aw_m X d y_AW_relationOf [.long (lN x), .long (lN y)] (aw_s I L D) Q := by
  have B0 := @b_AW_relationOf_0 X d Q I L D (lN x) (lN y)
  rw [cmp_ge (by omega) (by omega), cmp_eqN (by omega) (by omega)] at B0
  have c1 : nI x < nI y ↔ x < y := nI_ltI (by omega) (by omega)
  have c2 : nI x = nI y ↔ x = y := nI_eq (by omega) (by omega)
  unfold relI at hQ
  refine aw_go rfl rfl (B0 (fun q1 q2 => ?_) (fun q1 q2 => ?_) (fun q => ?_))
  · rw [if_neg (fun z => by have := c1.mp z; omega), if_neg (fun z => q2 (c2.mp z))] at hQ; exact hQ
  · rw [if_neg (fun z => by have := c1.mp z; omega), if_pos (c2.mpr q2)] at hQ; exact hQ
  · rw [if_pos (c1.mpr (by omega))] at hQ; exact hQ
theorem l_Wk_rel {s a p : Nat} {nm : Nat → Int32} {v : Nat → Nat} (hs : s < 60) (ha : a < 8) (hv : ∀ k, k < 8 → v k < 64 ∧ nm k = nI (v k)) (hp : p = pkN v 8 0) {f : Nat → Int32}
    (hK : ∀ I', (∀ o, o ≠ 19 → I' o = I o) → I' 19 = stJ f s nm a (7 - a) → aw_z X (d + 2) y_Wk_noteNames Q 3 [some (.ref 11), some (.int (nI s)), some (.long (lN p)), none, some (.int (nI (a + 1))), none, none, none, none] [] (aw_s I' L D)) :
    ∀ (m k : Nat) (I1 : Nat → Nat → Int32), a + 1 + k + m = 8 → (∀ o, o ≠ 19 → I1 o = I o) → I1 19 = stJ f s nm a k →
      aw_z X (d + 2) y_Wk_noteNames Q 68 [some (.ref 11), some (.int (nI s)), some (.long (lN p)), none, some (.int (nI a)), some (.long (lN (v a))), none, some (.int (nI (s * 8 + a))), some (.int (nI (a + 1 + k)))] [] (aw_s I1 L D) := by
  obtain ⟨p48, pd⟩ := pk_dg (fun k hk => (hv k hk).1)
  intro m
  induction m with
  | zero =>
    intro k I1 e hf h19
    have c8 : (8 : Int32) ≤ nI (a + 1 + k) := by rw [show (8 : Int32) = nI 8 from rfl, nI_leI (by decide) (by omega)]; omega
    refine b_Wk_noteNames_68 (fun _ => ?_) (fun q => absurd c8 q)
    rw [nI_1]
    exact hK I1 hf (by rw [h19, show 7 - a = k by omega])
  | succ m ih =>
    intro k I1 e hf h19
    have c8 : ¬ (8 : Int32) ≤ nI (a + 1 + k) := by rw [show (8 : Int32) = nI 8 from rfl, nI_leI (by decide) (by omega)]; omega
    obtain ⟨w1, w2⟩ := hv (a + 1 + k) (by omega)
    obtain ⟨u1, u2⟩ := hv a ha
    have ei : nI (s * 8 + a) * 8 + nI (a + 1 + k) = nI (64 * s + 8 * a + (a + 1 + k)) := by
      rw [show (8 : Int32) = nI 8 from rfl, pk_mul, nI_add]; exact congrArg nI (by omega)
    have ev : ((lN p).toUInt64 >>> (((6 : Int32) * nI (a + 1 + k)).toInt64.toUInt64 &&& Int64.toUInt64 63)).toInt64 &&& (63 : Int64) = lN (v (a + 1 + k)) := by
      rw [show (6 : Int32) = nI 6 from rfl, pk_mul, ln_shr (by omega) (by omega), ln_and63, hp, pd _ (by omega)]
    refine b_Wk_noteNames_68 (fun q => absurd q c8) (fun _ => ?_)
    rw [ei, ev]
    have i0 : ¬ nI (64 * s + 8 * a + (a + 1 + k)) < 0 := nI_pos (by omega)
    have i1 : ¬ (3840 : Int32) ≤ nI (64 * s + 8 * a + (a + 1 + k)) := by rw [show (3840 : Int32) = nI 3840 from rfl, nI_leI (by decide) (by omega)]; omega
    have vi := aw_in_nI (show 64 * s + 8 * a + (a + 1 + k) < 3840 by omega) (show 3840 < 2 ^ 31 by decide)
    refine aw_go rfl rfl (b_Wk_noteRelation_0 (fun q => absurd q i0) (fun _ q => absurd q i1) (fun _ _ => vi) (fun _ _ => c_AW_relationOf u1 w1 (b_Wk_noteRelation_26 vi (b_Wk_noteNames_100 ?_))))
    rw [nI_clamp (show 64 * s + 8 * a + (a + 1 + k) < 2 ^ 31 by omega), nI_1, show a + 1 + k + 1 = a + 1 + (k + 1) by omega]
    refine ih (k + 1) _ (by omega) (fun o ho => by rw [au_o ho]; exact hf o ho) ?_
    rw [aw_u_same, h19, ← u2, ← w2]; rfl
theorem l_Wk_names {s p : Nat} {nm : Nat → Int32} {v : Nat → Nat} (hs : s < 60) (hv : ∀ k, k < 8 → v k < 64 ∧ nm k = nI (v k)) (hp : p = pkN v 8 0)
    (hQ : ∀ I' L', (∀ o, o ≠ 19 → I' o = I o) → I' 19 = stO (I 19) s nm 8 → (∀ o, o ≠ 18 → L' o = L o) → L' 18 = mayL (L 18) s nm 8 → Q none (aw_s I' L' D)) :
    ∀ (m a : Nat) (I1 : Nat → Nat → Int32) (L1 : Nat → Nat → Int64), a + m = 8 → (∀ o, o ≠ 19 → I1 o = I o) → I1 19 = stO (I 19) s nm a → (∀ o, o ≠ 18 → L1 o = L o) → L1 18 = mayL (L 18) s nm a →
      aw_z X (d + 2) y_Wk_noteNames Q 3 [some (.ref 11), some (.int (nI s)), some (.long (lN p)), none, some (.int (nI a)), none, none, none, none] [] (aw_s I1 L1 D) := by
  obtain ⟨p48, pd⟩ := pk_dg (fun k hk => (hv k hk).1)
  intro m
  induction m with
  | zero =>
    intro a I1 L1 e hf h19 hl h18
    have ea : a = 8 := by omega
    subst ea
    exact b_Wk_noteNames_3 (fun _ => hQ I1 L1 hf h19 hl h18) (fun q => absurd (by decide) q) (fun q => absurd (by decide) q) (fun q => absurd (by decide) q) (fun q => absurd (by decide) q) (fun q => absurd (by decide) q)
  | succ m ih =>
    intro a I1 L1 e hf h19 hl h18
    have c8 : ¬ (8 : Int32) ≤ nI a := by rw [show (8 : Int32) = nI 8 from rfl, nI_leI (by decide) (by omega)]; omega
    obtain ⟨u1, u2⟩ := hv a (by omega)
    have ei : nI s * 8 + nI a = nI (s * 8 + a) := by rw [show (8 : Int32) = nI 8 from rfl, pk_mul, nI_add]
    have ev : ((lN p).toUInt64 >>> (((6 : Int32) * nI a).toInt64.toUInt64 &&& Int64.toUInt64 63)).toInt64 &&& (63 : Int64) = lN (v a) := by
      rw [show (6 : Int32) = nI 6 from rfl, pk_mul, ln_shr (by omega) (by omega), ln_and63, hp, pd _ (by omega)]
    have B0 := @b_Wk_noteNames_3 X (d + 1) Q I1 L1 D (nI s) (lN p) (nI a)
    rw [ei, ev, i32_l, nI_clamp (show s * 8 + a < 2 ^ 31 by omega), nI_1] at B0
    have i0 : ¬ nI (s * 8 + a) < 0 := nI_pos (by omega)
    have i1 : ¬ (480 : Int32) ≤ nI (s * 8 + a) := by rw [show (480 : Int32) = nI 480 from rfl, nI_leI (by decide) (by omega)]; omega
    have vi := aw_in_nI (show s * 8 + a < 480 by omega) (show 480 < 2 ^ 31 by decide)
    refine B0 (fun q => absurd q c8) (fun _ q => absurd q i0) (fun _ _ q => absurd q i1) (fun _ _ _ => vi) (fun _ _ _ => vi) (fun _ _ _ => ?_)
    refine l_Wk_rel (d := d) (p := p) (f := I1 19) hs (by omega) hv hp (fun I' g1 g2 => ?_) (7 - a) 0 I1 (by omega) (fun _ _ => rfl) rfl
    refine ih (a + 1) I' _ (by omega) (fun o ho => (g1 o ho).trans (hf o ho)) (by rw [g2, h19]; rfl) (fun o ho => by rw [au_o ho]; exact hl o ho) ?_
    rw [aw_u_same, h18, Nat.mul_comm s 8, ← u2]; rfl
theorem c_Wk_noteNames {s p : Nat} {nm : Nat → Int32} {v : Nat → Nat} (hs : s < 60) (hv : ∀ k, k < 8 → v k < 64 ∧ nm k = nI (v k)) (hp : p = pkN v 8 0)
    (hQ : ∀ I' L', (∀ o, o ≠ 19 → I' o = I o) → I' 19 = stO (I 19) s nm 8 → (∀ o, o ≠ 18 → L' o = L o) → L' 18 = mayL (L 18) s nm 8 → Q none (aw_s I' L' D)) : aw_m X (d + 2) y_Wk_noteNames [.ref 11, .int (nI s), .long (lN p)] (aw_s I L D) Q :=
  aw_go rfl rfl (b_Wk_noteNames_0 (l_Wk_names (d := d) hs hv hp hQ 8 0 I L rfl (fun _ _ => rfl) rfl (fun _ _ => rfl) rfl))
theorem trL_at (f : Nat → Int64) : ∀ (tr : List (Nat × (Nat → Int32))) (p : (Nat → Int64) × Nat) (i : Nat), i < tr.length → (tr.foldl trF p).1 (p.2 + i) = wdS (tr.getD i (0, fun _ => 0)).1 (tr.getD i (0, fun _ => 0)).2
  | [], p, i, h => absurd h (Nat.not_lt_zero i)
  | e :: tr, p, 0, _ => by
    have stay : ∀ (tr : List (Nat × (Nat → Int32))) (p : (Nat → Int64) × Nat) (j : Nat), j < p.2 → (tr.foldl trF p).1 j = p.1 j := by
      intro tr
      induction tr with
      | nil => intro p j _; rfl
      | cons e tr ih =>
        intro p j hj
        rw [List.foldl_cons, ih (trF p e) j (by show j < p.2 + 1; omega)]
        exact up_n _ _ (by omega)
    rw [List.foldl_cons, stay tr (trF p e) (p.2 + 0) (by show p.2 + 0 < p.2 + 1; omega)]
    exact up_s _ _ _
  | e :: tr, p, i + 1, h => by
    rw [List.foldl_cons, show p.2 + (i + 1) = (trF p e).2 + i by show _ = p.2 + 1 + i; omega, trL_at f tr (trF p e) i (Nat.lt_of_succ_lt_succ h)]; rfl
theorem l_Wk_trace {B cs : Nat} {tr : List (Nat × (Nat → Int32))} (hB : B ≤ 6) (hcs : cs ≤ 60) (hlen : tr.length ≤ 1001) (ht : ∀ x, x ∈ tr → x.1 < cs ∧ ∀ k, k < 8 → rg B (x.2 k)) {I0 : Nat → Nat → Int32} {L0 : Nat → Nat → Int64} (h12 : I0 4 12 = nI tr.length) (h9 : ∀ i, i < tr.length → L0 9 i = wdS (tr.getD i (0, fun _ => 0)).1 (tr.getD i (0, fun _ => 0)).2)
    (hQ : ∀ I' L', (∀ o, o ≠ 19 → I' o = I0 o) → I' 19 = stT (I0 19) tr → (∀ o, o ≠ 18 → L' o = L0 o) → L' 18 = mayT (L0 18) tr → Q (some (.long (setL tr))) (aw_s I' L' D)) :
    ∀ (rest pre : List (Nat × (Nat → Int32))) (I : Nat → Nat → Int32) (L : Nat → Nat → Int64), pre ++ rest = tr → (∀ o, o ≠ 19 → I o = I0 o) → I 19 = stT (I0 19) pre → (∀ o, o ≠ 18 → L o = L0 o) → L 18 = mayT (L0 18) pre →
      aw_z X (d + 3) y_Wk_noteTrace Q 5 [some (.ref 11), some (.ref 4), some (.long (setL pre)), none, some (.int (nI pre.length)), none, none, none] [] (aw_s I L D) := by
  intro rest
  induction rest with
  | nil =>
    intro pre I L e hf h19 hl h18
    rw [List.append_nil] at e
    subst e
    have le : I 4 12 ≤ nI pre.length := by rw [hf 4 (by decide), h12, nI_leI (by omega) (by omega)]; exact Nat.le_refl _
    exact b_Wk_noteTrace_5 (fun _ => hQ I L hf h19 hl h18) (fun q => absurd le q) (fun q => absurd le q) (fun q => absurd le q)
  | cons x rest ih =>
    intro pre I L e hf h19 hl h18
    have hx : x ∈ tr := by rw [← e]; exact List.mem_append.mpr (Or.inr (List.mem_cons_self))
    have hl2 : pre.length < tr.length := by rw [← e, List.length_append]; show _ < _ + (rest.length + 1); omega
    obtain ⟨xs, xn⟩ := ht x hx
    obtain ⟨v, hv⟩ := rg_v hB xn
    obtain ⟨p48, pd⟩ := pk_dg (fun k hk => (hv k hk).1)
    have ex : tr.getD pre.length (0, fun _ => 0) = x := by
      rw [← e, List.getD_eq_getElem?_getD, List.getElem?_append_right (Nat.le_refl _), Nat.sub_self]; rfl
    have e9 : L 9 pre.length = lN (pkN v 8 0 * 64 + x.1) := by
      rw [hl 9 (by decide), h9 _ hl2, ex]
      exact wdS_n (by omega) hv
    have nle : ¬ I 4 12 ≤ nI pre.length := by rw [hf 4 (by decide), h12, nI_leI (by omega) (by omega)]; omega
    have nle2 : ¬ (1001 : Int32) ≤ nI pre.length := by rw [show (1001 : Int32) = nI 1001 from rfl, nI_leI (by decide) (by omega)]; omega
    have B0 := @b_Wk_noteTrace_5 X (d + 2) Q I L D (setL pre) (nI pre.length)
    have es : (lN (pkN v 8 0 * 64 + x.1)).toInt32 &&& 63 = nI x.1 := by
      rw [i32_l]
      have : nI (pkN v 8 0 * 64 + x.1) &&& 63 = nI ((pkN v 8 0 * 64 + x.1) % 64) := by
        have e1 : nI (pkN v 8 0 * 64 + x.1) = nI ((pkN v 8 0 * 64 + x.1) % 2 ^ 32) := by
          apply Int32.toBitVec_inj.mp
          show BitVec.ofNat 32 _ = BitVec.ofNat 32 _
          apply BitVec.eq_of_toNat_eq
          rw [BitVec.toNat_ofNat, BitVec.toNat_ofNat, Nat.mod_mod]
        rw [e1, i32_and63 (Nat.mod_lt _ (by decide)), Nat.mod_mod_of_dvd _ (by decide)]
      rw [this]; exact congrArg nI (by omega)
    have ep : ((lN (pkN v 8 0 * 64 + x.1)).toUInt64 >>> ((6 : Int32).toInt64.toUInt64 &&& Int64.toUInt64 63)).toInt64 = lN (pkN v 8 0) := by
      have := ln_shr (q := pkN v 8 0 * 64 + x.1) (s := 6) (by decide) (by omega)
      rw [show ((6 : Int32).toInt64.toUInt64 &&& Int64.toUInt64 63) = ((nI 6).toInt64.toUInt64 &&& Int64.toUInt64 63) from rfl, this]
      exact congrArg lN (by omega)
    rw [nI_clamp (show pre.length < 2 ^ 31 by omega), e9, es, ep] at B0
    refine B0 (fun q => absurd q nle) (fun _ q => absurd q nle2) (fun _ _ => aw_in_nI (by omega) (by decide)) (fun _ _ => c_Wk_noteNames (d := d) (by omega) hv rfl (fun I2 L2 g1 g2 g3 g4 => b_Wk_noteTrace_59 ?_))
    have len : (pre ++ [x]).length = pre.length + 1 := by simp
    have gg := ih (pre ++ [x]) I2 L2 (by rw [List.append_assoc]; exact e) (fun o ho => (g1 o ho).trans (hf o ho)) (by rw [g2, h19, stT_s]) (fun o ho => (g3 o ho).trans (hl o ho)) (by rw [g4, h18, mayT_s])
    rw [len, setL_s] at gg
    rw [nI_1]; exact gg
theorem c_Wk_noteTrace {B cs : Nat} {tr : List (Nat × (Nat → Int32))} {f : Nat → Int64} (hB : B ≤ 6) (hcs : cs ≤ 60) (hlen : tr.length ≤ 1001) (ht : ∀ x, x ∈ tr → x.1 < cs ∧ ∀ k, k < 8 → rg B (x.2 k)) (h12 : I 4 12 = nI tr.length) (h9 : L 9 = trL f tr)
    (hQ : ∀ I' L', (∀ o, o ≠ 19 → I' o = I o) → I' 19 = stT (I 19) tr → (∀ o, o ≠ 18 → L' o = L o) → L' 18 = mayT (L 18) tr → Q (some (.long (setL tr))) (aw_s I' L' D)) : aw_m X (d + 3) y_Wk_noteTrace [.ref 11, .ref 4] (aw_s I L D) Q :=
  aw_go rfl rfl (b_Wk_noteTrace_0 (l_Wk_trace (d := d) hB hcs hlen ht h12 (fun i hi => by
    rw [h9]
    have t := trL_at f tr (f, 0) i hi
    rw [show ((f, 0) : (Nat → Int64) × Nat).2 + i = i from Nat.zero_add i] at t
    exact t) hQ tr [] I L rfl (fun _ _ => rfl) rfl (fun _ _ => rfl) rfl))
end KTRC
section MINMAX
variable {X : aw_X} {d mc ms : Nat} {y : aw_Y} {Q : Option Value → aw_H → Prop} {kc ks pc : Nat} {ls : aw_L} {A : aw_H}
/-- the least of two numbers -/
theorem z_mmin {v a b : Int32} {o idx : Nat} (hw : Cond.methodLink y.1.cls idx y_JM_min.1 ∈ aw_T) (hd : decode y.2.1 pc = .ok (.invokestatic idx, 3))
    (kk : aw_Z X (d + 1) mc ms y Q kc ks (pc + 3) ls [.int (if b < a then b else a), .int v, .ref o] A) : aw_Z X (d + 1) mc ms y Q kc ks pc ls [.int b, .int a, .int v, .ref o] A := by
  intro p e s m args below meth c F H locs r hR hS hL h1 h2
  exact va_mmin (rest := [aw_tv X (.int v), aw_tv X (.ref o)]) F.1 F.2.1 (by rw [F.2.2.1, hL.1]) F.2.2.2.2.2.1 (F.2.2.2.2.1 _ hw) (F.2.2.2.2.1 _ w_589) (F.2.2.2.2.1 _ w_66) (F.2.2.2.2.1 _ w_590) (by show 1 ≤ d + 1; omega) (Nat.le_trans (show 1 + (1 + 0) + 13 ≤ 40 * (d + 1) by omega) aw_rm_l) h1 h2 hd (kk p e s m args below meth c F H locs r hR hS hL h1 h2)
/-- the greatest of two numbers -/
theorem z_mmax {v a b : Int32} {o idx : Nat} (hw : Cond.methodLink y.1.cls idx y_JM_max.1 ∈ aw_T) (hd : decode y.2.1 pc = .ok (.invokestatic idx, 3))
    (kk : aw_Z X (d + 1) mc ms y Q kc ks (pc + 3) ls [.int (if a < b then b else a), .int v, .ref o] A) : aw_Z X (d + 1) mc ms y Q kc ks pc ls [.int b, .int a, .int v, .ref o] A := by
  intro p e s m args below meth c F H locs r hR hS hL h1 h2
  exact va_mmax (rest := [aw_tv X (.int v), aw_tv X (.ref o)]) F.1 F.2.1 (by rw [F.2.2.1, hL.1]) F.2.2.2.2.2.1 (F.2.2.2.2.1 _ hw) (F.2.2.2.2.1 _ w_586) (F.2.2.2.2.1 _ w_66) (F.2.2.2.2.1 _ w_587) (by show 1 ≤ d + 1; omega) (Nat.le_trans (show 1 + (1 + 0) + 13 ≤ 40 * (d + 1) by omega) aw_rm_l) h1 h2 hd (kk p e s m args below meth c F H locs r hR hS hL h1 h2)
end MINMAX
section KRND
variable {X : aw_X} {d : Nat} {Q : Option Value → aw_H → Prop} {I : Nat → Nat → Int32} {L : Nat → Nat → Int64} {D : Nat → Nat}
theorem bb_noteRounds_16 {v2 s0 : Int32}
    (h1 : I 11 10 = 0 → aw_z X (d + 1) y_Wk_noteRounds Q 43 [some (.ref 11), some (.ref 4), some (.int v2), some (.int s0)] [.int s0, .int v2, .ref 20] (aw_s I L D))
    (h2 : ¬ I 11 10 = 0 → vp_in v2 60)
    (h3 : ¬ I 11 10 = 0 → aw_z X (d + 1) y_Wk_noteRounds Q 43 [some (.ref 11), some (.ref 4), some (.int v2), some (.int s0)] [.int (if s0 < I 20 v2.toNatClampNeg then s0 else I 20 v2.toNatClampNeg), .int v2, .ref 20] (aw_s I L D)) :
    aw_z X (d + 1) y_Wk_noteRounds Q 16 [some (.ref 11), some (.ref 4), some (.int v2), none] [.int s0] (aw_s I L D) :=
  (s_Wk_noteRounds_16.go [some (.ref 11), some (.ref 4), some (.int v2), some (.int s0)] [.int (I 11 10), .int v2, .ref 20] (aw_s I L D) rfl (z_if_eq (tgt := 42) d_Wk_noteRounds_26 rfl (fun q1 => (s_Wk_noteRounds_42.go [some (.ref 11), some (.ref 4), some (.int v2), some (.int s0)] [.int s0, .int v2, .ref 20] (aw_s I L D) rfl (h1 q1))) (fun q2 => (s_Wk_noteRounds_29.go [some (.ref 11), some (.ref 4), some (.int v2), some (.int s0)] [.int v2, .ref 20, .int v2, .ref 20] (aw_s I L D) rfl (z_iald (n := 60) rfl (aw_lt (o := 20) rfl) (h2 q2) d_Wk_noteRounds_34 (s_Wk_noteRounds_35.go [some (.ref 11), some (.ref 4), some (.int v2), some (.int s0)] [.int s0, .int (I 20 v2.toNatClampNeg), .int v2, .ref 20] (aw_s I L D) rfl (z_mmin w_920 d_Wk_noteRounds_36 (b_Wk_noteRounds_39 (h3 q2)))))))))
theorem bb_noteRounds_43 {v2 v3 s2 s1 : Int32}
    (h1 : vp_in s1 60)
    (h2 : I 11 10 = 0 → aw_z X (d + 1) y_Wk_noteRounds Q 70 [some (.ref 11), some (.ref 4), some (.int v2), none] [.int v3, .int v2, .ref 21] (aw_s (aw_u I 20 s1.toNatClampNeg s2) L D))
    (h3 : ¬ I 11 10 = 0 → vp_in v2 60)
    (h4 : ¬ I 11 10 = 0 → aw_z X (d + 1) y_Wk_noteRounds Q 70 [some (.ref 11), some (.ref 4), some (.int v2), none] [.int (if I 21 v2.toNatClampNeg < v3 then v3 else I 21 v2.toNatClampNeg), .int v2, .ref 21] (aw_s (aw_u I 20 s1.toNatClampNeg s2) L D)) :
    aw_z X (d + 1) y_Wk_noteRounds Q 43 [some (.ref 11), some (.ref 4), some (.int v2), some (.int v3)] [.int s2, .int s1, .ref 20] (aw_s I L D) :=
  (z_iast (n := 60) rfl (aw_lt (o := 20) rfl) (h1) d_Wk_noteRounds_43 (s_Wk_noteRounds_44.go [some (.ref 11), some (.ref 4), some (.int v2), some (.int v3)] [.int (I 11 10), .int v2, .ref 21] (aw_s (aw_u I 20 s1.toNatClampNeg s2) L D) rfl (z_if_eq (tgt := 69) d_Wk_noteRounds_53 rfl (fun q1 => (s_Wk_noteRounds_69.go [some (.ref 11), some (.ref 4), some (.int v2), some (.int v3)] [.int v3, .int v2, .ref 21] (aw_s (aw_u I 20 s1.toNatClampNeg s2) L D) rfl (aw_Z.weak (ls' := [some (.ref 11), some (.ref 4), some (.int v2), none]) (h2 q1) (Nat.le_of_ble_eq_true rfl) ⟨Or.inr rfl, ⟨Or.inr rfl, ⟨Or.inr rfl, ⟨Or.inl rfl, trivial⟩⟩⟩⟩))) (fun q2 => (s_Wk_noteRounds_56.go [some (.ref 11), some (.ref 4), some (.int v2), some (.int v3)] [.int v2, .ref 21, .int v2, .ref 21] (aw_s (aw_u I 20 s1.toNatClampNeg s2) L D) rfl (z_iald (n := 60) rfl (aw_lt (o := 21) rfl) (h3 q2) d_Wk_noteRounds_61 (s_Wk_noteRounds_62.go [some (.ref 11), some (.ref 4), some (.int v2), some (.int v3)] [.int v3, .int (I 21 v2.toNatClampNeg), .int v2, .ref 21] (aw_s (aw_u I 20 s1.toNatClampNeg s2) L D) rfl (z_mmax w_921 d_Wk_noteRounds_63 (aw_Z.weak (ls' := [some (.ref 11), some (.ref 4), some (.int v2), none]) (b_Wk_noteRounds_66 (h4 q2)) (Nat.le_of_ble_eq_true rfl) ⟨Or.inr rfl, ⟨Or.inr rfl, ⟨Or.inr rfl, ⟨Or.inl rfl, trivial⟩⟩⟩⟩)))))))))
end KRND
