/-! PART ax: rounds of both -/
theorem wh_lb {w : Nat → Bool} {s : Nat} : ∀ n, n ≤ 60 → lb (whL w n) s = (decide (s < n) && w s)
  | 0, _ => by rw [show whL w 0 = 0 from rfl, lb_0, decide_eq_false (Nat.not_lt_zero s)]; rfl
  | n + 1, h => by
    have ih := wh_lb (w := w) (s := s) n (by omega)
    rw [whL]
    by_cases g : w n = true
    · rw [if_pos g, lb_or, ih, lb_bit (by omega)]
      by_cases e : s = n
      · subst e
        rw [decide_eq_true rfl, decide_eq_true (Nat.lt_succ_self s), g, Bool.or_true]; rfl
      · rw [decide_eq_false e, Bool.or_false]
        congr 1
        exact decide_eq_decide.mpr (by omega)
    · rw [if_neg g, ih]
      by_cases e : s = n
      · subst e
        rw [Bool.eq_false_iff.mpr g, Bool.and_false, Bool.and_false]
      · congr 1
        exact decide_eq_decide.mpr (by omega)
section RND
variable {X : aw_X} {d : Nat} {Q : Option Value → aw_H → Prop} {I : Nat → Nat → Int32} {L : Nat → Nat → Int64} {D : Nat → Nat} {v1 v2 : Int32}
theorem q_rounds (hK : RWk I L) : GetW X 3 y_AW_rounds [.ref 0, .int v1, .int v2] y_M_rounds [.ref 69, .int v1, .int v2] I L D := by
  rcases hK with ⟨a, b⟩ | ⟨S, F, B, T, O, E, n, wl, wc, wi, h⟩
  · exact ⟨-1, fun d => ⟨fun Q q => aw_go rfl rfl (b_AW_rounds_0 (aw_go rfl rfl (b_Wk_isWhile_0 (fun _ => b_AW_rounds_8 (fun x => absurd rfl x) (fun _ => q)) (fun x => absurd a x) (fun x => absurd a x) (fun x => absurd a x) (fun x => absurd a x) (fun x => absurd a x)))), fun Q q => aw_go rfl rfl (b_M_rounds_0 (fun _ => q) (fun x => absurd b x) (fun x => absurd b x) (fun x => absurd b x) (fun x => absurd b x) (fun x => absurd b x) (fun x => absurd b x))⟩⟩
  have hcs := h.1.1.2.1
  have x0 : ¬ I 11 0 = 0 := by rw [h.2.2.1.1]; decide
  have m0 : ¬ I 69 36 = 0 := by rw [h.2.2.2.1]; decide
  have e75 : I 75 4 = nI (cS S) := h.2.2.2.2.2.1.2.2.1
  have e77 : ∀ s, s < cS S → I 77 (240 + s) = p_b (cW S s) := fun s hs => h.2.2.2.2.2.1.2.2.2.2.2.1 s hs
  have e2 : L 11 2 = whL (cW S) (cS S) := h.2.2.1.2.2.1
  have ea : I 11 10 = nI (anyW E (2 ^ (B * (T + O)))) := h.2.2.1.2.2.2.2.2.2.2.1
  have eb : I 69 67 = nI (anyW E (2 ^ (B * (T + O)))) := h.2.2.2.2.2.2.1.2.2.2
  have ek := h.2.2.1.2.2.2.2.2.2.2.2.2.2
  have em := h.2.2.2.2.2.2.1.2.2.1
  clear h
  generalize 2 ^ (B * (T + O)) = R at *
  have no : ∀ (r : Int32), r = -1 → (∀ (d : Nat) (Q : Option Value → aw_H → Prop), Q (some (.int (-1))) (aw_s I L D) → aw_m X (d + 2) y_Wk_isWhile [.ref 11, .int v1] (aw_s I L D) (fun rr A => aw_z X (d + 3) y_AW_rounds Q 8 [some (.ref 0), some (.int v1), some (.int v2)] (rr.toList ++ []) A)) → (∀ (d : Nat) (Q : Option Value → aw_H → Prop), Q (some (.int (-1))) (aw_s (aw_u I 69 0 0) L D) → aw_m X (d + 3) y_M_rounds [.ref 69, .int v1, .int v2] (aw_s I L D) Q) → GetW X 3 y_AW_rounds [.ref 0, .int v1, .int v2] y_M_rounds [.ref 69, .int v1, .int v2] I L D := fun r hr h1 h2 => by
    subst hr
    exact ⟨-1, fun d => ⟨fun Q q => aw_go rfl rfl (b_AW_rounds_0 (h1 d Q q)), fun Q q => h2 d Q q⟩⟩
  rcases any_1 E R with z | z
  · have a0 : I 11 10 = 0 := by rw [ea, z]; rfl
    have b0 : I 69 67 = 0 := by rw [eb, z]; rfl
    exact no (-1) rfl (fun d Q q => aw_go rfl rfl (b_Wk_isWhile_0 (fun x => absurd x x0) (fun _ _ => b_AW_rounds_8 (fun x => absurd rfl x) (fun _ => q)) (fun _ x => absurd a0 x) (fun _ x => absurd a0 x) (fun _ x => absurd a0 x) (fun _ x => absurd a0 x))) (fun d Q q => aw_go rfl rfl (b_M_rounds_0 (fun x => absurd x m0) (fun _ _ => q) (fun _ x => absurd b0 x) (fun _ x => absurd b0 x) (fun _ x => absurd b0 x) (fun _ x => absurd b0 x) (fun _ x => absurd b0 x)))
  have a0 : ¬ I 11 10 = 0 := by rw [ea, z]; decide
  have b0 : ¬ I 69 67 = 0 := by rw [eb, z]; decide
  have hk := ek z
  -- no such step
  have out : (v1 < 0 ∨ (¬ v1 < 0 ∧ nI (cS S) ≤ v1)) → GetW X 3 y_AW_rounds [.ref 0, .int v1, .int v2] y_M_rounds [.ref 69, .int v1, .int v2] I L D := fun g => by
    refine no (-1) rfl (fun d Q q => aw_go rfl rfl (b_Wk_isWhile_0 (fun x => absurd x x0) (fun _ x => absurd x a0) (fun _ _ _ => b_AW_rounds_8 (fun x => absurd rfl x) (fun _ => q)) (fun _ _ _ _ => b_AW_rounds_8 (fun x => absurd rfl x) (fun _ => q)) (fun _ _ _ _ _ => b_AW_rounds_8 (fun x => absurd rfl x) (fun _ => q)) (fun _ _ x y w => ?_))) (fun d Q q => aw_go rfl rfl (b_M_rounds_0 (fun x => absurd x m0) (fun _ x => absurd x b0) (fun _ _ _ => q) (fun _ _ _ _ => q) (fun _ _ x y => ?_) (fun _ _ _ _ _ => q) (fun _ _ x y => ?_)))
    · exfalso
      rcases g with g | ⟨-, g⟩
      · exact absurd g x
      · obtain ⟨s, e, hs⟩ := i32_nat x
        rw [e] at y g w
        rw [show (60 : Int32) = nI 60 from rfl, nI_leI (by decide) hs] at y
        rw [nI_leI (by omega) hs] at g
        rw [cmp_eq, shr_lb (by omega), e2, wh_lb (cS S) hcs, decide_eq_false (show ¬ s < cS S by omega), Bool.false_and] at w
        exact absurd w (by decide)
    · exfalso
      rw [e75] at y
      rcases g with g | ⟨-, g⟩
      · exact absurd g x
      · exact absurd g y
    · exfalso
      rw [e75] at y
      rcases g with g | ⟨-, g⟩
      · exact absurd g x
      · exact absurd g y
  rcases i32_R (show cS S < 2 ^ 31 by omega) v1 with g | ⟨s, hs, rfl, g1, g2⟩
  · exact out g
  have n60 : ¬ (60 : Int32) ≤ nI s := by rw [show (60 : Int32) = nI 60 from rfl, nI_leI (by decide) (by omega)]; omega
  have nc : ¬ I 75 4 ≤ nI s := by rw [e75]; exact g2
  have ix : (240 : Int32) + nI s = nI (240 + s) := by rw [show (240 : Int32) = nI 240 from rfl, nI_add]
  have vx : vp_in ((240 : Int32) + nI s) 420 := by rw [ix]; exact aw_in_nI (by omega) (by decide)
  have bit : lg_cmp ((((L 11 2).toUInt64 >>> ((nI s).toInt64.toUInt64 &&& Int64.toUInt64 63)).toInt64) &&& (1 : Int64)) (1 : Int64) = 0 ↔ cW S s = true := by
    rw [cmp_eq, shr_lb (by omega), e2, wh_lb (cS S) hcs, decide_eq_true hs, Bool.true_and]
    cases cW S s <;> decide
  have mbit : I 77 ((240 : Int32) + nI s).toNatClampNeg = 0 ↔ ¬ cW S s = true := by
    rw [ix, nI_clamp (show 240 + s < 2 ^ 31 by omega), e77 s hs]; exact pb_t
  by_cases w : cW S s = true
  · have cls : ∀ (d : Nat) (Q : Option Value → aw_H → Prop), aw_m X (d + 2) y_Wk_roundsOf [.ref 11, .int (nI s), .int v2] (aw_s I L D) (fun r A => aw_z X (d + 3) y_AW_rounds Q 22 [none, none, none] (r.toList ++ []) A) → aw_m X (d + 3) y_AW_rounds [.ref 0, .int (nI s), .int v2] (aw_s I L D) Q := fun d Q q =>
      aw_go rfl rfl (b_AW_rounds_0 (aw_go rfl rfl (b_Wk_isWhile_0 (fun x => absurd x x0) (fun _ x => absurd x a0) (fun _ _ x => absurd x g1) (fun _ _ _ x => absurd x n60) (fun _ _ _ _ x => absurd (bit.mpr w) x) (fun _ _ _ _ _ => b_AW_rounds_8 (fun _ => q) (fun x => absurd x (by decide))))))
    have mod : ∀ (d : Nat) (Q : Option Value → aw_H → Prop), aw_z X (d + 3) y_M_rounds Q 52 [some (.ref 69), some (.int (nI s)), some (.int v2)] [.int (p_b (decide ((0 : Int32) ≤ v2) && decide (v2 ≤ 1)))] (aw_s (aw_u I 69 0 0) L D) → aw_m X (d + 3) y_M_rounds [.ref 69, .int (nI s), .int v2] (aw_s I L D) Q := fun d Q q =>
      aw_go rfl rfl (b_M_rounds_0 (fun x => absurd x m0) (fun _ x => absurd x b0) (fun _ _ x => absurd x g1) (fun _ _ _ x => absurd x nc) (fun _ _ _ _ => vx) (fun _ _ _ _ x => absurd w (mbit.mp x)) (fun _ _ _ _ _ => c_M_isIn q))
    have vs := aw_in_nI (show s < 60 by omega) (show 60 < 2 ^ 31 by decide)
    have sc : (nI s).toNatClampNeg = s := nI_clamp (by omega)
    by_cases h0 : v2 = 0
    · subst h0
      refine ⟨nI (mnW E s R), fun d => ⟨fun Q q => cls d Q (aw_go rfl rfl (b_Wk_roundsOf_0 (fun _ => c_valueAtN (N := 60) (by decide) rfl (by decide) (show s < 60 by omega) ?_) (fun x => absurd rfl x) (fun x => absurd rfl x))), fun Q q => mod d Q (b_M_rounds_52 (fun _ x => absurd rfl x) (fun _ x => absurd rfl x) (fun _ _ => vs) (fun _ _ => ?_) (fun x => absurd x (by decide)))⟩⟩
      · rw [(hk s (by omega)).1]; exact b_Wk_roundsOf_36 (b_AW_rounds_22 q)
      · rw [sc, au_o (by decide), (em s (by omega)).1]; exact q
    · by_cases h1 : v2 = 1
      · subst h1
        refine ⟨nI (mxW E s R), fun d => ⟨fun Q q => cls d Q (aw_go rfl rfl (b_Wk_roundsOf_0 (fun x => absurd x h0) (fun _ _ => c_valueAtN (N := 60) (by decide) rfl (by decide) (show s < 60 by omega) ?_) (fun _ x => absurd rfl x))), fun Q q => mod d Q (b_M_rounds_52 (fun _ _ => vs) (fun _ _ => ?_) (fun _ x => absurd x h0) (fun _ x => absurd x h0) (fun x => absurd x (by decide)))⟩⟩
        · rw [(hk s (by omega)).2]; exact b_Wk_roundsOf_45 (b_AW_rounds_22 q)
        · rw [sc, au_o (by decide), (em s (by omega)).2]; exact q
      · have bad : ¬ ¬ p_b (decide ((0 : Int32) ≤ v2) && decide (v2 ≤ 1)) = 0 := fun x => by
          rw [pb_t, isInB, Classical.not_not] at x
          obtain ⟨w, -, w2, e⟩ := i32_lo (a := 0) (b := 1) (by decide) (by decide) x.1 x.2
          subst e
          rcases (show w = 0 ∨ w = 1 by omega) with c | c <;> subst c
          · exact h0 rfl
          · exact h1 rfl
        exact ⟨-1, fun d => ⟨fun Q q => cls d Q (aw_go rfl rfl (b_Wk_roundsOf_0 (fun x => absurd x h0) (fun _ x => absurd x h1) (fun _ _ => b_AW_rounds_22 q))), fun Q q => mod d Q (b_M_rounds_52 (fun x => absurd x bad) (fun x => absurd x bad) (fun x => absurd x bad) (fun x => absurd x bad) (fun _ => q))⟩⟩
  · exact no (-1) rfl (fun d Q q => aw_go rfl rfl (b_Wk_isWhile_0 (fun x => absurd x x0) (fun _ x => absurd x a0) (fun _ _ x => absurd x g1) (fun _ _ _ x => absurd x n60) (fun _ _ _ _ _ => b_AW_rounds_8 (fun x => absurd rfl x) (fun _ => q)) (fun _ _ _ _ x => absurd (bit.mp x) w))) (fun d Q q => aw_go rfl rfl (b_M_rounds_0 (fun x => absurd x m0) (fun _ x => absurd x b0) (fun _ _ x => absurd x g1) (fun _ _ _ x => absurd x nc) (fun _ _ _ _ => vx) (fun _ _ _ _ _ => q) (fun _ _ _ _ x => absurd (mbit.mpr w) x)))
end RND
