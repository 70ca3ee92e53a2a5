/-! PART au: the reference finds how names stand -/
/-- what laws' queries leave -/
def FLw (I I' : Nat → Nat → Int32) (L L' : Nat → Nat → Int64) : Prop := (∀ o, o ≠ 69 → ¬ (84 ≤ o ∧ o ≤ 88) → o ≠ 90 → I' o = I o) ∧ (∀ k, k ≠ 0 → k ≠ 25 → k ≠ 42 → k ≠ 43 → k ≠ 44 → k ≠ 45 → k ≠ 66 → I' 69 k = I 69 k) ∧ (∀ o, o ≠ 69 → L' o = L o) ∧ ∀ k, k ≠ 46 → k ≠ 47 → L' 69 k = L 69 k
theorem FLw.rf {I : Nat → Nat → Int32} {L : Nat → Nat → Int64} : FLw I I L L := ⟨fun _ _ _ _ => rfl, fun _ _ _ _ _ _ _ _ => rfl, fun _ _ => rfl, fun _ _ _ => rfl⟩
theorem FLw.z {I I' : Nat → Nat → Int32} {L L' : Nat → Nat → Int64} (h : FLw (aw_u I 69 0 0) I' L L') : FLw I I' L L' :=
  ⟨fun o a b c => (h.1 o a b c).trans (au_o a), fun k a b c d e f g => (h.2.1 k a b c d e f g).trans (au_k a), h.2.2.1, h.2.2.2⟩
section STND
variable {X : aw_X} {d : Nat} {Q : Option Value → aw_H → Prop} {I : Nat → Nat → Int32} {L : Nat → Nat → Int64} {D : Nat → Nat} {S : PT} {F B T O n : Nat} {E : Nat → PE} {wl wc wi : Nat → Nat}
theorem l_M_fs (hS : PG S) (h0 : 0 < F) (h4 : F ≤ 40) (hk : SZok B T O) (hE : ∀ r, RT1 S B T O F r (-1) (E r)) {I0 : Nat → Nat → Int32} {L0 : Nat → Nat → Int64} (h95 : ∀ r, r < 2 ^ (B * (T + O)) → I0 95 r = eE (E r)) (h65 : I0 69 65 = nI F) (sz0 : SZ I0 B T O) (hM0 : MCd S 4 I0)
    (hQ : ∀ I' L', (∀ o, o ≠ 69 → ¬ (84 ≤ o ∧ o ≤ 88) → o ≠ 90 → I' o = I0 o) → (∀ k, k ≠ 25 → k ≠ 42 → k ≠ 43 → k ≠ 44 → k ≠ 45 → k ≠ 48 → I' 69 k = I0 69 k) → I' 69 48 = 0 → (∀ o, o ≠ 69 → L' o = L0 o) → (∀ k, k ≠ 46 → k ≠ 47 → L' 69 k = L0 69 k) → (∀ k, k < 3840 → I' 90 k = stW E (2 ^ (B * (T + O))) k) → Q none (aw_s I' L' D)) :
    ∀ (m r : Nat) (J : Nat → Nat → Int32) (M : Nat → Nat → Int64), r + m = 2 ^ (B * (T + O)) → (∀ o, o ≠ 69 → ¬ (84 ≤ o ∧ o ≤ 88) → o ≠ 90 → J o = I0 o) → (∀ k, k ≠ 25 → k ≠ 42 → k ≠ 43 → k ≠ 44 → k ≠ 45 → k ≠ 48 → J 69 k = I0 69 k) → J 69 48 = 2 → (∀ o, o ≠ 69 → M o = L0 o) → (∀ k, k ≠ 46 → k ≠ 47 → M 69 k = L0 69 k) → (∀ k, k < 3840 → J 90 k = stW E r k) →
      aw_z X (d + 4) y_M_findStands Q 42 [some (.ref 69), some (.int (nI r))] [] (aw_s J M D) := by
  have hR := rows_lt hk
  intro m
  induction m with
  | zero =>
    intro r J M e f1 f2 f48 g1 g2 hst
    have er : r = 2 ^ (B * (T + O)) := by omega
    have sz : SZ J B T O := ⟨by rw [f2 33 (by decide) (by decide) (by decide) (by decide) (by decide) (by decide)]; exact sz0.1, by rw [f2 34 (by decide) (by decide) (by decide) (by decide) (by decide) (by decide)]; exact sz0.2.1, by rw [f2 35 (by decide) (by decide) (by decide) (by decide) (by decide) (by decide)]; exact sz0.2.2⟩
    have le : nI (2 ^ (B * (T + O))) ≤ nI r := by rw [nI_leI (by omega) (by omega)]; omega
    refine b_M_findStands_42 (c_M_rows hk sz (b_M_findStands_47 (fun _ => hQ _ _ (fun o a b c => by rw [au_o a]; exact f1 o a b c) (fun k a b c d e f => by rw [au_k f]; exact f2 k a b c d e f) (au_s _ _ _ _) g1 g2 (fun k hk => by rw [au_o (by decide), ← er]; exact hst k hk)) (fun q => absurd le q) (fun q => absurd le q) (fun q => absurd le q)))
  | succ m ih =>
    intro r J M e f1 f2 f48 g1 g2 hst
    have sz : SZ J B T O := ⟨by rw [f2 33 (by decide) (by decide) (by decide) (by decide) (by decide) (by decide)]; exact sz0.1, by rw [f2 34 (by decide) (by decide) (by decide) (by decide) (by decide) (by decide)]; exact sz0.2.1, by rw [f2 35 (by decide) (by decide) (by decide) (by decide) (by decide) (by decide)]; exact sz0.2.2⟩
    have nle : ¬ nI (2 ^ (B * (T + O))) ≤ nI r := by rw [nI_leI (by omega) (by omega)]; omega
    have vr := aw_in_nI (show r < 4096 by omega) (show 4096 < 2 ^ 31 by decide)
    have e95 : J 95 (nI r).toNatClampNeg = eE (E r) := by rw [nI_clamp (show r < 2 ^ 31 by omega), f1 95 (by decide) (by omega) (by decide)]; exact h95 r (by omega)
    refine b_M_findStands_42 (c_M_rows hk sz (b_M_findStands_47 (fun q => absurd q nle) (fun _ => vr) (fun _ q => ?_) (fun _ q => ?_)))
    · rw [e95] at q
      rw [nI_1]
      exact ih (r + 1) J M (by omega) f1 f2 f48 g1 g2 (fun k hk => by rw [stW, if_pos q]; exact hst k hk)
    · rw [e95] at q
      rw [f2 65 (by decide) (by decide) (by decide) (by decide) (by decide) (by decide), h65]
      obtain ⟨N, hN⟩ := hE r
      have hM : MCd S 4 J := hM0.ks (KSl.same (fun o p q => f1 o (by omega) (by omega) (by omega))) hS.1.1 hS.2.1
      refine c_M_runs (d := d) (slot := 4) (rule := -1) hS.1 ⟨sz, hk, by decide, h4, fun h => absurd (by decide) h, Or.inr (Or.inr f48), hM.2.2.2.2.1⟩ h0 hM.2.1 hN (fun I1 L1 hr => b_M_findStands_71 ?_)
      obtain ⟨w0, -, -, -, -, -, -, -, w8, w9⟩ := hr.w
      rw [f48, if_neg (by decide)] at w8
      rw [f48, if_pos rfl] at w9
      rw [nI_1]
      refine ih (r + 1) I1 L1 (by omega) (fun o a b c => by rw [w0.1 o a (by omega) (by omega) (by omega) (by omega) (by omega) c]; exact f1 o a b c) (fun k a b c d e f => by rw [w0.2.1 k a b c d e]; exact f2 k a b c d e f) (by rw [w0.2.1 48 (by decide) (by decide) (by decide) (by decide) (by decide)]; exact f48) (fun o a => ?_) (fun k a b => by rw [w0.2.2.2 k a b]; exact g2 k a b) (fun k hk => ?_)
      · by_cases c : o = 89
        · subst c; rw [w8]; exact g1 89 (by decide)
        · rw [w0.2.2.1 o a c]; exact g1 o a
      · rw [w9, stW, if_neg q]; exact stT_e _ (hst k hk)
theorem c_M_findStands (h : RWd S F B T O E n wl wc wi I L) (h48 : I 69 48 = 0)
    (hQ : ∀ I' L', RWd S F B T O E n wl wc wi I' L' → (∀ k, k < 3840 → I' 90 k = stW E (2 ^ (B * (T + O))) k) → FLw I I' L L' → I' 69 0 = I 69 0 → Q none (aw_s I' L' D)) : aw_m X (d + 4) y_M_findStands [.ref 69] (aw_s I L D) Q := by
  obtain ⟨a, b, c, e1, e2, e3, e4, e5, e6, e7⟩ := id h
  obtain ⟨hS, h0, h4, hk, hE, hW⟩ := a
  rcases e7 with z | ⟨z1, z2⟩
  · refine aw_go rfl rfl (b_M_findStands_0 (fun _ => ?_) (fun q => absurd z q))
    have zero : ∀ (m k : Nat) (J : Nat → Nat → Int32), k + m = 3840 → (∀ o, o ≠ 90 → J o = aw_u I 69 66 1 o) → (∀ j, j < k → J 90 j = 0) → aw_z X (d + 4) y_M_findStands Q 15 [some (.ref 69), some (.int (nI k))] [] (aw_s J L D) := by
      intro m
      induction m with
      | zero =>
        intro k J e hf hz
        have : k = 3840 := by omega
        subst this
        refine b_M_findStands_15 (fun _ => ?_) (fun q => absurd (by decide) q) (fun q => absurd (by decide) q)
        have j69 : ∀ x, x ≠ 48 → x ≠ 66 → aw_u J 69 48 2 69 x = I 69 x := fun x p q => by rw [au_k p, hf 69 (by decide), au_k q]
        have jo : ∀ o, o ≠ 69 → o ≠ 90 → aw_u J 69 48 2 o = I o := fun o p q => by rw [au_o p, hf o q, au_o p]
        refine l_M_fs (d := d) hS h0 h4 hk (fun r => (hE r).1) (I0 := aw_u J 69 48 2) (L0 := L) (fun r hr => by rw [jo 95 (by decide) (by decide)]; exact (e4.1 r hr).2.2.2.2.1) (by rw [j69 65 (by decide) (by decide)]; exact e2) ⟨by rw [j69 33 (by decide) (by decide)]; exact b.2.2.2.1, by rw [j69 34 (by decide) (by decide)]; exact b.2.2.2.2.1, by rw [j69 35 (by decide) (by decide)]; exact b.2.2.2.2.2⟩ (e3.ks (KSl.same (fun o p q => jo o (by omega) (by omega))) hS.1.1 hS.2.1) (fun I' L' k1 k2 k48 k3 k4 k5 => ?_) _ 0 _ L (Nat.zero_add _) (fun _ _ _ _ => rfl) (fun _ _ _ _ _ _ _ => rfl) (au_s _ _ _ _) (fun _ _ => rfl) (fun _ _ _ => rfl) (fun k hk => by rw [au_o (by decide)]; exact hz k hk)
        have f : FLw I I' L L' := ⟨fun o p1 p2 p3 => by rw [k1 o p1 p2 p3, jo o p1 p3], fun x _ p25 p42 p43 p44 p45 p66 => by
          by_cases q : x = 48
          · subst q; exact k48.trans h48.symm
          · rw [k2 x p25 p42 p43 p44 p45 q, j69 x q p66], k3, k4⟩
        refine hQ I' L' ⟨⟨hS, h0, h4, hk, hE, hW⟩, ⟨by rw [f.1 1 (by decide) (by omega) (by decide)]; exact b.1, by rw [f.1 1 (by decide) (by omega) (by decide)]; exact b.2.1, by rw [f.1 1 (by decide) (by omega) (by decide)]; exact b.2.2.1, by rw [f.2.1 33 (by decide) (by decide) (by decide) (by decide) (by decide) (by decide) (by decide)]; exact b.2.2.2.1, by rw [f.2.1 34 (by decide) (by decide) (by decide) (by decide) (by decide) (by decide) (by decide)]; exact b.2.2.2.2.1, by rw [f.2.1 35 (by decide) (by decide) (by decide) (by decide) (by decide) (by decide) (by decide)]; exact b.2.2.2.2.2⟩, c.fr (fun o p q => f.1 o (by omega) (by omega) (by omega)) (fun o p q => k3 o (by omega)), ?_, ?_, e3.ks (KSl.same (fun o p q => f.1 o (by omega) (by omega) (by omega))) hS.1.1 hS.2.1, e4.fr ?_ (fun o p => f.1 o (by omega) (by omega) (by omega)) (fun o p => k3 o (by omega)), ⟨?_, fun j hj => by rw [f.1 98 (by decide) (by omega) (by decide), f.1 99 (by decide) (by omega) (by decide)]; exact e5.2 j hj⟩, fun q hq => by rw [f.1 97 (by decide) (by omega) (by decide)]; exact e6 q hq, Or.inr ⟨?_, k5⟩⟩ k5 f ?_
        · rw [f.2.1 36 (by decide) (by decide) (by decide) (by decide) (by decide) (by decide) (by decide)]; exact e1
        · rw [f.2.1 65 (by decide) (by decide) (by decide) (by decide) (by decide) (by decide) (by decide)]; exact e2
        · rw [f.2.1 67 (by decide) (by decide) (by decide) (by decide) (by decide) (by decide) (by decide)]
        · rw [f.2.1 64 (by decide) (by decide) (by decide) (by decide) (by decide) (by decide) (by decide)]; exact e5.1
        · rw [k2 66 (by decide) (by decide) (by decide) (by decide) (by decide) (by decide), au_k (by decide), hf 69 (by decide), au_s]
        · rw [k2 0 (by decide) (by decide) (by decide) (by decide) (by decide) (by decide), j69 0 (by decide) (by decide)]
      | succ m ih =>
        intro k J e hf hz
        have c : ¬ (3840 : Int32) ≤ nI k := by rw [show (3840 : Int32) = nI 3840 from rfl, nI_leI (by decide) (by omega)]; omega
        refine b_M_findStands_15 (fun q => absurd q c) (fun _ => aw_in_nI (by omega) (by decide)) (fun _ => ?_)
        rw [nI_clamp (show k < 2 ^ 31 by omega), nI_1]
        refine ih (k + 1) _ (by omega) (fun o p => by rw [au_o p]; exact hf o p) (fun j hj => ?_)
        by_cases q : j = k
        · subst q; rw [au_s]
        · rw [au_k q]; exact hz j (by omega)
    exact zero 3840 0 _ rfl (fun _ _ => rfl) (fun j hj => absurd hj (Nat.not_lt_zero j))
  · exact aw_go rfl rfl (b_M_findStands_0 (fun q => absurd (q.symm.trans z1) (by decide)) (fun _ => hQ I L h z2 FLw.rf rfl))
end STND
