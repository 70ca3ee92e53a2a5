/-! PART 65: the class's reading: steps, programs, claims -/
section KSTE
variable {X : aw_X} {d : Nat} {Q : Option Value → aw_H → Prop} {I : Nat → Nat → Int32} {L : Nat → Nat → Int64} {D : Nat → Nat} {c : Nat} {T : TD} {S : PT}
theorem l_block {s : PT → PR} {N d : Nat} {a : Int32} {Q : Option Value → aw_H → Prop} (hc : c ∈ aw_codes) (hT : tOK T) (hs : KC X c T D N y_Ps_step [.ref 60, .int (a + 1)] s) (hd : N ≤ d) (hd2 : 1 ≤ d) {I0 : Nat → Nat → Int32} {L0 : Nat → Nat → Int64} : ∀ (f : Nat) (S : PT) (I : Nat → Nat → Int32) (L : Nat → Nat → Int64), f ≤ 501 → KP c T S I L → FRK c I0 I L0 L →
    (∀ v I' L', KRes c T I0 L0 (pb (blp T s f S) (sgn T 125)) v I' L' → Q (some (.int v)) (aw_s I' L' D)) →
    aw_z X (d + 1) y_Ps_block Q 10 [some (.ref 60), some (.int a), some (.int 1), some (.int (nI (501 - f)))] [] (aw_s I L D) := by
  have fin : ∀ (S : PT) (I : Nat → Nat → Int32) (L : Nat → Nat → Int64), KP c T S I L → FRK c I0 I L0 L → (∀ v I' L', KRes c T I0 L0 (sgn T 125 S) v I' L' → Q (some (.int v)) (aw_s I' L' D)) → aw_z X (d + 1) y_Ps_block Q 47 [some (.ref 60), none, some (.int 1), none] [] (aw_s I L D) := by
    intro S I L h fr hQ
    obtain ⟨d', rfl⟩ : ∃ d', d = d' + 1 := ⟨d - 1, by omega⟩
    refine b_Ps_block_47 (fun q => absurd q (by decide)) (fun _ => k_sign hc hT h (by decide) (by decide) (fun v I3 L3 r => ?_))
    have r := r.tr fr
    rcases r.e01 with rfl | rfl
    · exact b_Ps_block_57 (fun _ => hQ 0 I3 L3 r) (fun q => absurd rfl q)
    · exact b_Ps_block_57 (fun q => absurd q (by decide)) (fun _ => hQ 1 I3 L3 r)
  intro f
  induction f with
  | zero =>
    intro S I L _ h fr hQ
    exact b_Ps_block_10 (fun _ => fin S I L h fr hQ) (fun q => absurd (by decide) q) (fun q => absurd (by decide) q) (fun q => absurd (by decide) q)
  | succ f ih =>
    intro S I L hf h fr hQ
    have cc : ((501 : Int32) ≤ nI (501 - (f + 1))) = (501 ≤ 501 - (f + 1)) := nI_le' (a := 501) (by decide) (by omega)
    have en : nI (501 - (f + 1)) + 1 = nI (501 - f) := by rw [nI_1, show 501 - (f + 1) + 1 = 501 - f by omega]
    have B0 := @b_Ps_block_10 X d Q I L D a 1 (nI (501 - (f + 1)))
    rw [h.tok.1, cc] at B0
    refine B0 (fun q => absurd q (by omega)) (fun _ q => absurd q (by decide)) (fun _ _ q => ?_) (fun _ _ q => ?_)
    · rw [blp, if_pos q] at hQ
      exact fin S I L h fr hQ
    · rw [blp, if_neg q] at hQ
      refine hs d hd S I L _ h (fun v I1 L1 r => b_Ps_block_40 ?_)
      have r := r.tr fr
      rw [en]
      cases hR : s S with
      | error e =>
        rw [hR] at r hQ
        obtain rfl : v = 0 := r.2.1
        have k := hQ 0 I1 L1 r
        exact b_Ps_block_10 (fun _ => b_Ps_block_47 (fun _ => k) (fun q => absurd rfl q)) (fun _ _ => b_Ps_block_47 (fun _ => k) (fun q => absurd rfl q)) (fun _ q => absurd rfl q) (fun _ q => absurd rfl q)
      | ok S2 =>
        rw [hR] at r hQ
        obtain ⟨fr2, rfl, k2⟩ := r
        exact ih S2 I1 L1 (by omega) k2 fr2 hQ
theorem k_block {k N : Nat} {s : PT → PR} (hc : c ∈ aw_codes) (hT : tOK T) (hk : k ≤ 10) (hs : 0 < k → KC X c T D N y_Ps_step [.ref 60, .int (nI (10 - (k - 1)))] s) : KC X c T D (N + 3) y_Ps_block [.ref 60, .int (nI (10 - k))] (blo T k s) := by
  intro e he S I L Q h hQ
  obtain ⟨d, rfl⟩ : ∃ d, e = d + 2 := ⟨e - 2, by omega⟩
  refine aw_go rfl rfl (b_Ps_block_0 (k_opening hc hT hk h (by decide) (by decide) (fun v I1 L1 r => b_Ps_block_7 ?_)))
  unfold blo at hQ
  cases hR : opn T 123 k S with
  | error e =>
    rw [hR] at r hQ
    obtain rfl : v = 0 := r.2.1
    have k := hQ 0 I1 L1 r
    exact b_Ps_block_10 (fun _ => b_Ps_block_47 (fun _ => k) (fun q => absurd rfl q)) (fun _ _ => b_Ps_block_47 (fun _ => k) (fun q => absurd rfl q)) (fun _ q => absurd rfl q) (fun _ q => absurd rfl q)
  | ok S1 =>
    rw [hR] at r hQ
    obtain ⟨fr1, rfl, k1⟩ := r
    have hk0 : 0 < k := by
      rcases Nat.eq_zero_or_pos k with q | q
      · subst q; unfold opn at hR; split at hR <;> simp at hR
      · exact q
    exact l_block hc hT (by rw [lvl hk0 hk]; exact hs hk0) (show N ≤ d + 1 by omega) (by omega) 501 S1 I1 L1 (by omega) k1 fr1 hQ
theorem k_branches {N : Nat} {a : Int32} {b : PT → PR} (hc : c ∈ aw_codes) (hT : tOK T) (hD : D 6 = c) (hb : KC X c T D N y_Ps_block [.ref 60, .int a] b) : KC X c T D (N + 2) y_Ps_branches [.ref 60, .int a] (brs T b) := by
  intro e he S I L Q h hQ
  obtain ⟨d, rfl⟩ : ∃ d, e = d + 1 := ⟨e - 1, by omega⟩
  have B0 := @b_Ps_branches_0 X d Q I L D a c hD hc
  rw [h.2.1] at B0
  refine aw_go rfl rfl (B0 (k_add (o := 21) hc h (fun I1 k1 f1 => b_Ps_branches_18 (hb d (by omega) _ I1 L _ k1 (fun v I2 L2 r => ?_)))))
  have r := r.tr f1.k
  unfold brs at hQ
  cases hR : b (em 21 0 S) with
  | error e =>
    rw [hR] at r hQ
    obtain rfl : v = 0 := r.2.1
    exact b_Ps_branches_23 hD hc (fun q => absurd rfl q) (fun q => absurd rfl q) (fun _ => hQ 0 I2 L2 r)
  | ok S2 =>
    rw [hR] at r hQ
    obtain ⟨fr2, rfl, k2⟩ := r
    rw [pb_ok] at hQ
    have B1 := @b_Ps_branches_23 X d Q I2 L2 D a (nI (min (cn S) 600)) 1 c hD hc
    rw [k2.tok.1, k2.2.1] at B1
    refine B1 (fun _ q => ?_) (fun _ q => ?_) (fun q => absurd q (by decide))
    · rw [if_pos q] at hQ
      refine k_adv hc hT k2 (by rw [q]; decide) (by rw [q]; decide) (fun I3 k3 f3 => ?_)
      have B2 := @b_Ps_branches_64 X d Q I3 L2 D a (nI (min (cn S) 600)) c hD hc
      rw [k3.2.1] at B2
      refine B2 (k_add (o := 22) hc k3 (fun I4 k4 f4 => ?_))
      have B3 := @b_Ps_branches_82 X d Q I4 L2 D a (nI (min (cn S) 600)) (nI (min (cn (adv S2)) 600)) c hD hc
      rw [k4.2.1] at B3
      refine B3 (k_pat hc k4 rfl (fun I5 k5 f5 => b_Ps_branches_97 (hb d (by omega) _ I5 L2 _ k5 (fun v I6 L6 r => ?_))))
      have r := r.tr (((fr2.tr f3).tr f4.k).tr f5.k)
      cases hR2 : b (pat (cn S) (em 22 0 (adv S2))) with
      | error e =>
        rw [hR2] at r hQ
        obtain rfl : v = 0 := r.2.1
        exact b_Ps_branches_102 hD hc (k_patE hc r rfl (fun I7 r7 => b_Ps_branches_119 (Or.inl rfl) (hQ 0 I7 L6 r7)))
      | ok S5 =>
        rw [hR2] at r hQ
        obtain ⟨fr6, rfl, k6⟩ := r
        have B4 := @b_Ps_branches_102 X d Q I6 L6 D (nI (min (cn (adv S2)) 600)) 1 c hD hc
        rw [k6.2.1] at B4
        exact B4 (k_pat hc k6 rfl (fun I7 k7 f7 => b_Ps_branches_119 (Or.inr rfl) (hQ 1 I7 L6 (KRes.ok (fr6.tr f7.k) k7))))
    · rw [if_neg q] at hQ
      exact k_pat hc k2 rfl (fun I3 k3 f3 => b_Ps_branches_55 (hQ 1 I3 L2 (KRes.ok (fr2.tr f3.k) k3)))
end KSTE
