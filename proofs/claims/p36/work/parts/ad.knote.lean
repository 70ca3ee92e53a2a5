/-! PART ad: the class notes a row's way, and what its trace tells -/
theorem or_add {a b s : Nat} (h : b < 2 ^ s) : a * 2 ^ s ||| b = a * 2 ^ s + b := by
  have := Nat.two_pow_add_eq_or_of_lt h a
  rw [Nat.mul_comm a, this]
theorem ln_and63 (q : Nat) : lN q &&& 63 = lN (q % 64) := by
  apply Int64.toBitVec_inj.mp
  show BitVec.ofNat 64 q &&& BitVec.ofNat 64 63 = BitVec.ofNat 64 (q % 64)
  apply BitVec.eq_of_toNat_eq
  rw [BitVec.toNat_and, BitVec.toNat_ofNat, BitVec.toNat_ofNat, BitVec.toNat_ofNat, show 63 % 2 ^ 64 = 2 ^ 6 - 1 by decide, Nat.and_two_pow_sub_one_eq_mod]
  rw [Nat.mod_mod_of_dvd q (show 2 ^ 6 ∣ 2 ^ 64 by decide)]
  omega
theorem i32_and63 {q : Nat} (h : q < 2 ^ 32) : nI q &&& 63 = nI (q % 64) := pk_andN (m := 63) h 6 (by decide)
/-- names packed -/
def pkN (v : Nat → Nat) : Nat → Nat → Nat
  | 0, a => a
  | k + 1, a => pkN v k (a * 64 + v k)
theorem wdN_n {nm : Nat → Int32} {v : Nat → Nat} (h : ∀ k, k < 8 → v k < 64 ∧ nm k = nI (v k)) : ∀ (m a : Nat), m ≤ 8 → wdN nm m (lN a) = lN (pkN v m a)
  | 0, a, _ => rfl
  | m + 1, a, hm => by
    obtain ⟨h1, h2⟩ := h m (by omega)
    show wdN nm m ((lN a <<< ((6 : Int32).toInt64 &&& 63)) ||| (nm m).toInt64) = lN (pkN v m (a * 64 + v m))
    have e6 : lN a <<< ((6 : Int32).toInt64 &&& 63) = lN (a * 2 ^ 6) := ln_shl (s := 6) (by decide)
    rw [e6, h2, i64_n (by omega), ln_or, or_add (s := 6) h1]
    exact wdN_n h m _ (by omega)
theorem pk_dg {v : Nat → Nat} (h : ∀ k, k < 8 → v k < 64) : pkN v 8 0 < 2 ^ 48 ∧ ∀ a, a < 8 → pkN v 8 0 / 2 ^ (6 * a) % 64 = v a := by
  have a0 := h 0 (by decide)
  have a1 := h 1 (by decide)
  have a2 := h 2 (by decide)
  have a3 := h 3 (by decide)
  have a4 := h 4 (by decide)
  have a5 := h 5 (by decide)
  have a6 := h 6 (by decide)
  have a7 := h 7 (by decide)
  have e : pkN v 8 0 = ((((((((0 * 64 + v 7) * 64 + v 6) * 64 + v 5) * 64 + v 4) * 64 + v 3) * 64 + v 2) * 64 + v 1) * 64 + v 0) := rfl
  rw [e]
  clear e h
  refine ⟨by omega, fun a ha => ?_⟩
  rcases (show a = 0 ∨ a = 1 ∨ a = 2 ∨ a = 3 ∨ a = 4 ∨ a = 5 ∨ a = 6 ∨ a = 7 by omega) with rfl | rfl | rfl | rfl | rfl | rfl | rfl | rfl
  · show _ / 1 % 64 = _; omega
  · show _ / 64 % 64 = _; omega
  · show _ / 4096 % 64 = _; omega
  · show _ / 262144 % 64 = _; omega
  · show _ / 16777216 % 64 = _; omega
  · show _ / 1073741824 % 64 = _; omega
  · show _ / 68719476736 % 64 = _; omega
  · show _ / 4398046511104 % 64 = _; omega
section KNOTE
variable {X : aw_X} {d : Nat} {Q : Option Value → aw_H → Prop} {I : Nat → Nat → Int32} {L : Nat → Nat → Int64} {D : Nat → Nat}
/-- the class's ways -/
def KWy (K : Nat → Nat) (n : Nat) (wl wc : Nat → Nat) (I : Nat → Nat → Int32) (L : Nat → Nat → Int64) : Prop := I 11 6 = nI n ∧ ∀ i, i < n → L 15 i = lN (K (wl i)) ∧ I 17 i = nI (wl i) ∧ I 16 i = nI (wc i)
theorem c_Wk_noteWay {K : Nat → Nat} {r n : Nat} {wl wc : Nat → Nat} (hr : r < 4096) (hK : ∀ q, K q < 2 ^ 63) (hW : WY K r n wl wc) (h : KWy K n wl wc I L)
    (hQ : ∀ I' L' n' wl' wc', WY K (r + 1) n' wl' wc' → KWy K n' wl' wc' I' L' → (∀ o k, ¬ (o = 11 ∧ k = 6) → o ≠ 16 → o ≠ 17 → I' o k = I o k) → (∀ o, o ≠ 15 → L' o = L o) → Q none (aw_s I' L' D)) : aw_m X (d + 2) y_Wk_noteWay [.ref 11, .long (lN (K r)), .int (nI r)] (aw_s I L D) Q := by
  have hn := hW.le
  obtain ⟨h6, hw⟩ := h
  refine aw_go rfl rfl (b_Wk_noteWay_0 (c_Wk_find (d := d) (n := n) (kf := fun i => K (wl i)) (by omega) h6 (hK r) (fun i hi => ⟨hK _, (hw i hi).1⟩) hW.2.1 (fun a ha lo hi => ?_)))
  have a0 : ¬ nI a < 0 := nI_pos (by omega)
  have a1 : nI a < (4096 : Int32) := by rw [show (4096 : Int32) = nI 4096 from rfl, nI_ltI (by omega) (by decide)]; omega
  have va := aw_in_nI (show a < 4096 by omega) (show 4096 < 2 ^ 31 by decide)
  -- a way that was not there
  have new : (∀ i, a ≤ i → i < n → K r < K (wl i)) → aw_z X (d + 2) y_Wk_noteWay Q 54 [some (.ref 11), some (.long (lN (K r))), none, some (.int (nI r)), some (.int (nI a)), none] [] (aw_s I L D) := fun hi2 => by
    have B0 := @b_Wk_noteWay_54 X (d + 1) Q I L D (lN (K r)) (nI r) (nI a)
    have es : nI n - nI a = nI (n - a) := pk_sub ha
    rw [h6, es, nI_1 a, nI_1 n, nI_clamp (show a < 2 ^ 31 by omega), nI_clamp (show a + 1 < 2 ^ 31 by omega), nI_clamp (show n - a < 2 ^ 31 by omega)] at B0
    have s0 : ¬ nI (n - a) < 0 := nI_pos (by omega)
    have s1 : ¬ nI (a + 1) < 0 := nI_pos (by omega)
    have s2 : nI n < (4096 : Int32) := by rw [show (4096 : Int32) = nI 4096 from rfl, nI_ltI (by omega) (by decide)]; omega
    refine B0 (fun q => absurd q s0) (fun _ _ => a0) (fun _ _ => s1) (fun _ _ => s0) (fun _ _ => by omega) (fun _ _ => by omega) (fun _ _ => a0) (fun _ _ => s1) (fun _ _ => s0) (fun _ _ => by omega) (fun _ _ => by omega) (fun _ _ => a0) (fun _ _ => s1) (fun _ _ => s0) (fun _ _ => by omega) (fun _ _ => by omega) (fun _ _ => va) (fun _ _ => va) (fun _ _ => va) (fun _ _ => ?_) (fun _ q => absurd s2 q)
    have cp : ∀ {α : Type} (f : Nat → α) (v : α) i, i < n + 1 → va_up (va_cpy f f a (a + 1) (n - a)) a v i = if i < a then f i else if i = a then v else f (i - 1) := fun f v i hi => by
      by_cases g : i = a
      · subst g; rw [up_s, if_neg (Nat.lt_irrefl _), if_pos rfl]
      · rw [up_n _ _ g]
        unfold va_cpy
        by_cases g2 : i < a
        · rw [if_neg (by omega), if_pos g2]
        · rw [if_pos (by omega), if_neg g2, if_neg g, show a + (i - (a + 1)) = i - 1 by omega]
    refine hQ _ _ (n + 1) (insF wl a r) (insF wc a 1) (hW.new ha lo hi2) ⟨au_s _ _ _ _, fun i hi3 => ?_⟩ (fun o k h1 h2 h3 => ?_) (fun o ho => ?_)
    · refine ⟨?_, ?_, ?_⟩
      · rw [aw_u_same, aw_cp_same, cp _ _ i hi3]
        unfold insF
        by_cases g : i < a
        · rw [if_pos g, if_pos g]; exact (hw i (by omega)).1
        · rw [if_neg g, if_neg g]
          by_cases g2 : i = a
          · rw [if_pos g2, if_pos g2]
          · rw [if_neg g2, if_neg g2]; exact (hw (i - 1) (by omega)).1
      · rw [au_o (by decide), aw_u_same, au_o (by decide), aw_cp_same, aw_cp_ne _ _ _ _ (by decide), cp _ _ i hi3]
        unfold insF
        by_cases g : i < a
        · rw [if_pos g, if_pos g]; exact (hw i (by omega)).2.1
        · rw [if_neg g, if_neg g]
          by_cases g2 : i = a
          · rw [if_pos g2, if_pos g2]
          · rw [if_neg g2, if_neg g2]; exact (hw (i - 1) (by omega)).2.1
      · rw [au_o (by decide), au_o (by decide), aw_u_same, aw_cp_ne _ _ _ _ (by decide), aw_cp_same, cp _ _ i hi3]
        unfold insF
        by_cases g : i < a
        · rw [if_pos g, if_pos g]; exact (hw i (by omega)).2.2
        · rw [if_neg g, if_neg g]
          by_cases g2 : i = a
          · rw [if_pos g2, if_pos g2]; rfl
          · rw [if_neg g2, if_neg g2]; exact (hw (i - 1) (by omega)).2.2
    · rw [au_ok (by omega), au_o h3, au_o h2, aw_cp_ne _ _ _ _ h3, aw_cp_ne _ _ _ _ h2]
    · rw [au_o ho, aw_cp_ne _ _ _ _ ho]
  have B0 := @b_Wk_noteWay_5 X (d + 1) Q I L D (lN (K r)) (nI r) (nI a)
  have cle : (nI n ≤ nI a) = (n ≤ a) := nI_le' (by omega) (by omega)
  rw [h6, cle, nI_clamp (show a < 2 ^ 31 by omega)] at B0
  by_cases g : a < n
  · obtain ⟨w1, w2, w3⟩ := hw a g
    rw [w1, cmp_eqN (hK _) (hK _), w3] at B0
    refine B0 (fun q => absurd q a0) (fun _ _ q => absurd q (by omega)) (fun _ _ _ => va) (fun _ _ _ q => new (fun i h1 h2 => ?_)) (fun _ _ _ _ => va) (fun _ _ _ _ => va) (fun _ _ _ q => ?_) (fun _ q => absurd a1 q)
    · have l1 := hi a (Nat.le_refl _) g
      have l1 : K r ≤ K (wl a) := l1
      by_cases g2 : i = a
      · subst g2; omega
      · have := hW.2.1 a i (by omega) h2; omega
    · refine hQ _ L n wl _ (hW.old g q) ⟨by rw [au_o (by decide)]; exact h6, fun i hi2 => ?_⟩ (fun o k h1 h2 h3 => by rw [au_o h2]) (fun _ _ => rfl)
      obtain ⟨x1, x2, x3⟩ := hw i hi2
      refine ⟨x1, by rw [au_o (by decide)]; exact x2, ?_⟩
      by_cases g2 : i = a
      · subst g2; rw [au_s, up_s, nI_1]
      · rw [au_k g2, up_n _ _ g2]; exact x3
  · exact B0 (fun q => absurd q a0) (fun _ _ _ => new (fun i h1 h2 => by omega)) (fun _ _ q => absurd (by omega) q) (fun _ _ q => absurd (by omega) q) (fun _ _ q => absurd (by omega) q) (fun _ _ q => absurd (by omega) q) (fun _ _ q => absurd (by omega) q) (fun _ q => absurd a1 q)
theorem c_Wk_keyOf {B F cs : Nat} {E : PE} (hF : F ≤ 40) (hE : EF B F cs E) (h12 : I 4 12 = nI (eB E)) (h13 : I 4 13 = nI (eD E).length) (h14 : L 4 14 = pathL (eD E)) (h15 : I 4 15 = eE E) (h16 : I 4 16 = eS E) (hQ : Q (some (.long (lN (keyN E)))) (aw_s I L D)) : aw_m X d y_Wk_keyOf [.ref 4] (aw_s I L D) Q := by
  have e1 := hE.e
  obtain ⟨-, -, b1, l1, -⟩ := hE
  have n1 := nH_le E
  have k21 : ∀ s0, s0 = nI (eB E + nHlt E) → aw_z X d y_Wk_keyOf Q 21 [some (.ref 4), none, none, none] [.int s0] (aw_s I L D) := fun s0 hs => by
    refine b_Wk_keyOf_21 ?_
    subst hs
    rw [h13, h14, h15, e1.2, pathL_n (by omega), i64_n (show (eD E).length < 2 ^ 31 by omega), i64_n (show eB E + nHlt E < 2 ^ 31 by omega), i64_n (show eN E < 2 ^ 31 by omega)]
    have e6 : ∀ a, lN a <<< ((6 : Int32).toInt64 &&& 63) = lN (a * 2 ^ 6) := fun a => ln_shl (s := 6) (by decide)
    have e10 : ∀ a, lN a <<< ((10 : Int32).toInt64 &&& 63) = lN (a * 2 ^ 10) := fun a => ln_shl (s := 10) (by decide)
    have e3 : ∀ a, lN a <<< ((3 : Int32).toInt64 &&& 63) = lN (a * 2 ^ 3) := fun a => ln_shl (s := 3) (by decide)
    rw [e6, ln_or, or_add (s := 6) (by show _ < 64; omega), e10, ln_or, or_add (s := 10) (by show _ < 1024; omega), e3, ln_or, or_add (s := 3) (by show _ < 8; omega)]
    exact hQ
  refine aw_go rfl rfl (b_Wk_keyOf_0 (fun q => k21 _ ?_) (fun q => k21 _ ?_))
  · rw [h16] at q
    rw [h12]; unfold nHlt; rw [if_neg q]; rfl
  · rw [h16] at q
    rw [h12]; unfold nHlt; rw [if_pos q, nI_1]
end KNOTE
