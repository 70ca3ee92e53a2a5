/-! PART am: walk of both -/
/-- a walked program, of both -/
def RWd (S : PT) (F B T O : Nat) (E : Nat → PE) (n : Nat) (wl wc wi : Nat → Nat) (I : Nat → Nat → Int32) (L : Nat → Nat → Int64) : Prop :=
  (PG S ∧ 0 < F ∧ F ≤ 40 ∧ SZok B T O ∧ (∀ r, RT1 S B T O F r (-1) (E r) ∧ p_end B F (E r)) ∧ WE B F (cS S) E) ∧ (I 1 0 = nI B ∧ I 1 1 = nI T ∧ I 1 2 = nI O ∧ SZ I B T O) ∧ KWd S E (2 ^ (B * (T + O))) n wl wc (2 ^ (B * (T + O))) I L ∧
  (I 69 36 = 1 ∧ I 69 65 = nI F ∧ MCd S 4 I ∧ MS E (2 ^ (B * (T + O))) I L ∧ MWy n wl wc I ∧ (∀ q, q < 2 ^ (B * (T + O)) → I 97 q = nI (wi q) ∧ wi q < n ∧ kK E (wl (wi q)) = kK E q) ∧ (I 69 66 = 0 ∨ (I 69 66 = 1 ∧ ∀ k, k < 3840 → I 90 k = stW E (2 ^ (B * (T + O))) k)))
/-- both have walked the same, or neither has -/
def RWk (I : Nat → Nat → Int32) (L : Nat → Nat → Int64) : Prop := (I 11 0 = 0 ∧ I 69 36 = 0) ∨ ∃ S F B T O E n wl wc wi, RWd S F B T O E n wl wc wi I L
theorem RWd.fr {S : PT} {F B T O : Nat} {E : Nat → PE} {n : Nat} {wl wc wi : Nat → Nat} {I I' : Nat → Nat → Int32} {L L' : Nat → Nat → Int64} (h : RWd S F B T O E n wl wc wi I L) (h1 : ∀ k, k < 3 → I' 1 k = I 1 k) (h2 : ∀ o, 11 ≤ o → o ≤ 21 → I' o = I o) (h3 : ∀ o, 11 ≤ o → o ≤ 21 → L' o = L o) (h4 : ∀ k, (33 ≤ k ∧ k ≤ 36) ∨ (64 ≤ k ∧ k ≤ 67) → I' 69 k = I 69 k) (h5 : KSl 4 I I') (h6 : ∀ o, 90 ≤ o → o ≤ 101 → I' o = I o) (h7 : ∀ o, o = 89 ∨ o = 91 ∨ o = 92 → L' o = L o) : RWd S F B T O E n wl wc wi I' L' := by
  obtain ⟨a, ⟨b1, b2, b3, b4, b5, b6⟩, c, e1, e2, e3, e4, e5, e6, e7⟩ := h
  refine ⟨a, ⟨by rw [h1 0 (by decide)]; exact b1, by rw [h1 1 (by decide)]; exact b2, by rw [h1 2 (by decide)]; exact b3, by rw [h4 33 (by omega)]; exact b4, by rw [h4 34 (by omega)]; exact b5, by rw [h4 35 (by omega)]; exact b6⟩, c.fr h2 h3, by rw [h4 36 (by omega)]; exact e1, by rw [h4 65 (by omega)]; exact e2, e3.ks h5 a.1.1.1 a.1.2.1, e4.fr (h4 67 (by omega)) (fun o p => h6 o (by omega) (by omega)) h7, ⟨by rw [h4 64 (by omega)]; exact e5.1, fun j hj => by rw [h6 98 (by decide) (by decide), h6 99 (by decide) (by decide)]; exact e5.2 j hj⟩, fun q hq => by rw [h6 97 (by decide) (by decide)]; exact e6 q hq, ?_⟩
  rw [h4 66 (by omega), h6 90 (by decide) (by decide)]; exact e7
theorem RWk.fr {I I' : Nat → Nat → Int32} {L L' : Nat → Nat → Int64} (h : RWk I L) (h1 : ∀ k, k < 3 → I' 1 k = I 1 k) (h2 : ∀ o, 11 ≤ o → o ≤ 21 → I' o = I o) (h3 : ∀ o, 11 ≤ o → o ≤ 21 → L' o = L o) (h4 : ∀ k, (33 ≤ k ∧ k ≤ 36) ∨ (64 ≤ k ∧ k ≤ 67) → I' 69 k = I 69 k) (h5 : KSl 4 I I') (h6 : ∀ o, 90 ≤ o → o ≤ 101 → I' o = I o) (h7 : ∀ o, o = 89 ∨ o = 91 ∨ o = 92 → L' o = L o) : RWk I' L' := by
  rcases h with ⟨a, b⟩ | ⟨S, F, B, T, O, E, n, wl, wc, wi, h⟩
  · exact Or.inl ⟨by rw [h2 11 (by decide) (by decide)]; exact a, by rw [h4 36 (by omega)]; exact b⟩
  · exact Or.inr ⟨S, F, B, T, O, E, n, wl, wc, wi, h.fr h1 h2 h3 h4 h5 h6 h7⟩
/-- what walk() leaves -/
def FWk (I I' : Nat → Nat → Int32) (L L' : Nat → Nat → Int64) : Prop :=
  (∀ o, ¬ (4 ≤ o ∧ o ≤ 21) → o ≠ 69 → ¬ (71 ≤ o ∧ o ≤ 78) → ¬ (84 ≤ o ∧ o ≤ 88) → ¬ (93 ≤ o ∧ o ≤ 103) → I' o = I o) ∧ (∀ k, k ≠ 0 → k ≠ 25 → k ≠ 32 → k ≠ 36 → k ≠ 42 → k ≠ 43 → k ≠ 44 → k ≠ 45 → ¬ (64 ≤ k ∧ k ≤ 67) → I' 69 k = I 69 k) ∧ I' 4 19 = I 4 19 ∧ KSl 6 I I' ∧ (∀ o, ¬ (4 ≤ o ∧ o ≤ 21) → o ≠ 69 → o ≠ 89 → o ≠ 91 → o ≠ 92 → L' o = L o) ∧ ∀ k, k ≠ 46 → k ≠ 47 → L' 69 k = L 69 k
section MWALK
variable {X : aw_X} {d : Nat} {Q : Option Value → aw_H → Prop} {I : Nat → Nat → Int32} {L : Nat → Nat → Int64} {D : Nat → Nat}
theorem l_M_z1 {L0 : Nat → Nat → Int64} (hk : ∀ L', (∀ o, o ≠ 89 → L' o = L0 o) → (∀ k, k < 480 → L' 89 k = 0) → aw_z X (d + 1) y_M_walk Q 61 [some (.ref 69), none, none, some (.int (nI 0))] [] (aw_s I L' D)) :
    ∀ (m k : Nat) (L : Nat → Nat → Int64), k + m = 480 → (∀ o, o ≠ 89 → L o = L0 o) → (∀ j, j < k → L 89 j = 0) → aw_z X (d + 1) y_M_walk Q 39 [some (.ref 69), none, none, some (.int (nI k))] [] (aw_s I L D) := by
  intro m
  induction m with
  | zero =>
    intro k L e hf h
    have : k = 480 := by omega
    subst this
    exact b_M_walk_39 (fun _ => hk L hf h) (fun q => absurd (by decide) q) (fun q => absurd (by decide) q)
  | succ m ih =>
    intro k L e hf h
    have c : ¬ (480 : Int32) ≤ nI k := by rw [show (480 : Int32) = nI 480 from rfl, nI_leI (by decide) (by omega)]; omega
    refine b_M_walk_39 (fun q => absurd q c) (fun _ => aw_in_nI (by omega) (by decide)) (fun _ => ?_)
    rw [nI_clamp (show k < 2 ^ 31 by omega), nI_1]
    refine ih (k + 1) _ (by omega) (fun o p => by rw [au_o p]; exact hf o p) (fun j hj => ?_)
    by_cases q : j = k
    · subst q; rw [au_s]
    · rw [au_k q]; exact h j (by omega)
theorem l_M_z2 {I0 : Nat → Nat → Int32} (hk : ∀ I', (∀ o, o ≠ 100 → o ≠ 101 → I' o = I0 o) → (∀ s, s < 60 → I' 100 s = nI 1000 ∧ I' 101 s = nI 0) → aw_z X (d + 1) y_M_walk Q 91 [some (.ref 69), none, none, some (.int (nI 0))] [] (aw_s I' L D)) :
    ∀ (m k : Nat) (I : Nat → Nat → Int32), k + m = 60 → (∀ o, o ≠ 100 → o ≠ 101 → I o = I0 o) → (∀ s, s < k → I 100 s = nI 1000 ∧ I 101 s = nI 0) → aw_z X (d + 1) y_M_walk Q 61 [some (.ref 69), none, none, some (.int (nI k))] [] (aw_s I L D) := by
  intro m
  induction m with
  | zero =>
    intro k I e hf h
    have : k = 60 := by omega
    subst this
    exact b_M_walk_61 (fun _ => hk I hf h) (fun q => absurd (by decide) q) (fun q => absurd (by decide) q) (fun q => absurd (by decide) q)
  | succ m ih =>
    intro k I e hf h
    have c : ¬ (60 : Int32) ≤ nI k := by rw [show (60 : Int32) = nI 60 from rfl, nI_leI (by decide) (by omega)]; omega
    have v := aw_in_nI (show k < 60 by omega) (show 60 < 2 ^ 31 by decide)
    refine b_M_walk_61 (fun q => absurd q c) (fun _ => v) (fun _ => v) (fun _ => ?_)
    rw [nI_clamp (show k < 2 ^ 31 by omega), nI_1]
    refine ih (k + 1) _ (by omega) (fun o p q => by rw [au_o q, au_o p]; exact hf o p q) (fun j hj => ?_)
    by_cases q : j = k
    · subst q; rw [au_o (by decide), au_s, au_s]; exact ⟨rfl, rfl⟩
    · rw [au_o (by decide), au_k q, au_k q, au_o (by decide)]; exact h j (by omega)
theorem l_M_walk {S : PT} {B T O F : Nat} {E : Nat → PE} (hS : PG S) (h0 : 0 < F) (h4 : F ≤ 40) (hk : SZok B T O) (hE : ∀ r, RT1 S B T O F r (-1) (E r)) (hW : WE B F (cS S) E) {I0 : Nat → Nat → Int32} {L0 : Nat → Nat → Int64}
    (hQ : ∀ I' L' n wl wc (wi : Nat → Nat), WY (kK E) (2 ^ (B * (T + O))) n wl wc → MWy n wl wc I' → (∀ q, q < 2 ^ (B * (T + O)) → I' 97 q = nI (wi q) ∧ wi q < n ∧ kK E (wl (wi q)) = kK E q) → MS E (2 ^ (B * (T + O))) I' L' → I' 69 48 = 0 → (∀ o, o ≠ 69 → ¬ (84 ≤ o ∧ o ≤ 88) → ¬ (93 ≤ o ∧ o ≤ 103) → I' o = I0 o) → (∀ k, k ≠ 25 → k ≠ 42 → k ≠ 43 → k ≠ 44 → k ≠ 45 → k ≠ 48 → k ≠ 64 → k ≠ 67 → I' 69 k = I0 69 k) → (∀ o, o ≠ 69 → o ≠ 89 → o ≠ 91 → o ≠ 92 → L' o = L0 o) → (∀ k, k ≠ 46 → k ≠ 47 → L' 69 k = L0 69 k) → Q (some (.int (nI n))) (aw_s I' L' D)) :
    ∀ (m r : Nat) (I : Nat → Nat → Int32) (L : Nat → Nat → Int64), r + m = 2 ^ (B * (T + O)) → MCd S 4 I → SZ I B T O → I 69 65 = nI F → I 69 48 = 0 → MS E r I L → FMr I0 I L0 L →
      aw_z X (d + 5) y_M_walk Q 91 [some (.ref 69), none, none, some (.int (nI r))] [] (aw_s I L D) := by
  have hR := rows_lt hk
  intro m
  induction m with
  | zero =>
    intro r I L e hM sz h65 h48 h f
    have er : r = 2 ^ (B * (T + O)) := by omega
    rw [er] at h ⊢
    refine b_M_walk_91 (c_M_rows hk sz (b_M_walk_96 (fun _ => ?_) (fun q => absurd (by rw [nI_leI (by omega) (by omega)]; omega) q)))
    refine c_M_order (d := d + 2) h4 hW hk sz (fun q hq => h.r1 hq) (fun I' n wl wc wi a1 a2 a3 a4 a5 => b_M_walk_114 ?_)
    rw [a2.1]
    refine hQ I' L n wl wc wi a1 a2 a3 (h.fr (a5 67 (by decide)) (fun o p => a4 o (by omega) (by omega) (by omega) (by omega)) (fun _ _ => rfl)) (by rw [a5 48 (by decide)]; exact h48) (fun o p1 p2 p3 => ?_) (fun k k1 k2 k3 k4 k5 k6 k7 k8 => ?_) f.2.2.1 f.2.2.2
    · rw [a4 o p1 (by omega) (by omega) (by omega)]; exact f.1 o p1 p2 (by omega)
    · rw [a5 k k7]; exact f.2.1 k k1 k2 k3 k4 k5 k6 k8
  | succ m ih =>
    intro r I L e hM sz h65 h48 h f
    refine b_M_walk_91 (c_M_rows hk sz (b_M_walk_96 (fun q => ?_) (fun _ => c_M_walkRow (d := d) hS hM hk sz h0 h4 (by omega) (hE r) hW h65 h (fun I' L' s g g48 => b_M_walk_104 ?_))))
    · rw [nI_leI (by omega) (by omega)] at q; omega
    · rw [nI_1]
      have x : ∀ k, 26 ≤ k → k ≤ 41 ∨ k = 65 → I' 69 k = I 69 k := fun k p q => g.2.1 k (by omega) (by omega) (by omega) (by omega) (by omega) (by omega) (by omega)
      exact ih (r + 1) I' L' (by omega) (g.c4 hM hS) ⟨by rw [x 33 (by omega) (by omega)]; exact sz.1, by rw [x 34 (by omega) (by omega)]; exact sz.2.1, by rw [x 35 (by omega) (by omega)]; exact sz.2.2⟩ (by rw [x 65 (by omega) (by omega)]; exact h65) g48 s (f.tr g)
end MWALK
section QWALK
variable {X : aw_X} {d d2 : Nat} {Q : Option Value → aw_H → Prop} {I : Nat → Nat → Int32} {L : Nat → Nat → Int64} {D : Nat → Nat} {v1 v2 : Int32}
theorem q_walk {pg : Nat → PT} (hP : RP pg I L D) (hS : RSz I) (h48 : I 69 48 = 0) (h19 : I 4 19 = 0) (hK : RWk I L) (hQ : ∀ r I1 L1,
      (∀ (Q2 : Option Value → aw_H → Prop), (∀ I2 L2, RP pg I2 L2 D → RWk I2 L2 → I2 69 0 = 0 → FWk I I2 L L2 → Q2 (some (.int r)) (aw_s I2 L2 D)) → aw_m X (d2 + 5) y_M_walk [.ref 69, .int v1, .int v2] (aw_s I1 L1 D) Q2) → Q (some (.int r)) (aw_s I1 L1 D)) :
    aw_m X (d + 7) y_AW_walk [.ref 0, .int v1, .int v2] (aw_s I L D) Q := by
  obtain ⟨B, T, O, hk, s1, s2, s3, sz⟩ := hS
  obtain ⟨hD, hpg, hsl, hbo⟩ := id hP
  have hpg' : ∀ j, j < 4 → PG (pg j) := fun j hj => (hpg j hj).1
  -- the reference, where something is not told
  have mbad : ((v1 < 0 ∨ (4 : Int32) ≤ v1) ∨ (v2 < 1 ∨ (40 : Int32) < v2)) → Q (some (.int (-1))) (aw_s I L D) := fun hx => by
    refine hQ (-1) I L (fun Q2 hQ2 => aw_go rfl rfl (b_M_walk_0 (c_M_areTold (d := d2 + 3) hsl hpg' (fun I' e32 hm f ht => ?_) (fun I' e32 hm f _ => b_M_walk_6 (fun x => absurd rfl x) (fun _ => ?_)))))
    · exfalso
      obtain ⟨s, F, hs, e1, f0, f4, e3⟩ := ht
      rcases hx with g | g
      · rw [e1] at g
        rcases g with g | g
        · exact absurd g (nI_pos (by omega))
        · rw [show (4 : Int32) = nI 4 from rfl, nI_leI (by decide) (by omega)] at g; omega
      · rw [e3] at g
        rcases g with g | g
        · rw [show (1 : Int32) = nI 1 from rfl, nI_ltI (by omega) (by decide)] at g; omega
        · rw [show (40 : Int32) = nI 40 from rfl, nI_ltI (by decide) (by omega)] at g; omega
    · refine hQ2 I' L (hP.told f.run e32 hm) (hK.fr (fun k _ => by rw [f.1 1 (by decide) (by decide) (by decide)]) (fun o p q => f.1 o (by omega) (by omega) (by omega)) (fun _ _ _ => rfl) (fun k p => f.2.1 k (by omega) (by omega)) f.2.2.2.1 (fun o p q => f.1 o (by omega) (by omega) (by omega)) (fun _ _ => rfl)) f.2.2.1 ⟨fun o a b c _ _ => f.1 o b (by omega) (by omega), fun k a _ b _ _ _ _ _ _ => f.2.1 k a b, by rw [f.1 4 (by decide) (by decide) (by decide)], f.2.2.2.2, fun _ _ _ _ _ _ => rfl, fun _ _ _ => rfl⟩
  rcases i32_4 v1 with h1 | ⟨k, hk4, rfl⟩
  · exact aw_go rfl rfl (b_AW_walk_0 (c_AW_programAt0 h1 (b_AW_walk_5a (mbad (Or.inl h1)))))
  refine aw_go rfl rfl (b_AW_walk_0 (c_AW_programAt hk4 (b_AW_walk_5 ?_)))
  rcases i32_F v2 with h2 | ⟨F, f0, f4, rfl⟩
  · exact c_AW_isFuel0 h2 (b_AW_walk_14 (fun x => absurd rfl x) (fun _ => mbad (Or.inr h2)))
  obtain ⟨E, hE, hW⟩ := we_ex (hpg' k hk4) hk f0
  have kin : KIn (pg k) (D k) B T O I L := ⟨hpg' k hk4, hD.1 k (by omega), (hpg k hk4).2, hk, s1, s2, s3⟩
  refine c_AW_isFuel f0 f4 (b_AW_walk_14 (fun _ => c_Sz_rows hk s1 s2 s3 (b_AW_walk_31 (c_Wk_begin (d := d + 5) (S := pg k) (E := E) (R := 2 ^ (B * (T + O))) (wl := fun _ => 0) (wc := fun _ => 0) kin.2.1 (hpg k hk4).2.2.2.2.2.1 (fun Ib Lb wb fb => b_AW_walk_34 ?_)))) (fun x => absurd x (by decide)))
  refine l_AW_walk (d := d) f0 f4 (fun r => (hE r).1) hW (I0 := I) (L0 := L) (fun I1 L1 n wl wc w fk => hQ (nI n) I1 L1 (fun Q2 hQ2 => ?_)) (2 ^ (B * (T + O))) 0 Ib Lb 0 (fun _ => 0) (fun _ => 0) (Nat.zero_add _) (kin.fw fb) (by rw [fb.2.1]; exact h19) wb fb
  have hi : ∀ o, 22 ≤ o → I1 o = I o := fun o h => fk.1 o (by omega)
  have hl : ∀ o, 22 ≤ o → L1 o = L o := fun o h => fk.2.2 o (by omega)
  have sl1 : MSl pg I1 := hsl.fr hpg' (by rw [hi 69 (by decide)]) (fun o x y => hi o (by omega))
  refine aw_go rfl rfl (b_M_walk_0 (c_M_areTold (d := d2 + 3) sl1 hpg' (fun I2 e32 hm f ht => ?_) (fun I2 e32 hm f hx => ?_)))
  · have x69 : ∀ x, x ≠ 0 → x ≠ 32 → I2 69 x = I 69 x := fun x p q => by rw [f.2.1 x p q, hi 69 (by decide)]
    have bo2 : MBo I2 := fun j hj => by rw [f.1 77 (by decide) (by decide) (by decide), hi 77 (by decide)]; exact hbo j hj
    refine b_M_walk_6 (fun _ => c_M_copy (a := k) (b := 4) (by omega) (by decide) (by omega) (hm k hk4) (hpg' k hk4).1.1 (hpg' k hk4).2.1 bo2 (fun I3 c4 fs bo3 => b_M_walk_17 ?_)) (fun x => absurd x (by decide))
    generalize eI : aw_u (aw_u (aw_u (aw_u I3 69 65 (nI F)) 69 36 1) 69 66 0) 69 67 0 = I4
    have i4 : ∀ o, o ≠ 69 → I4 o = I3 o := fun o p => by rw [← eI, au_o p, au_o p, au_o p, au_o p]
    have j4 : ∀ x, x ≠ 65 → x ≠ 36 → x ≠ 66 → x ≠ 67 → I4 69 x = I3 69 x := fun x p1 p2 p3 p4 => by rw [← eI, au_k p4, au_k p3, au_k p2, au_k p1]
    have x3 : ∀ x, x ≠ 0 → x ≠ 32 → I3 69 x = I 69 x := fun x p q => by rw [fs.1 69 (by decide), x69 x p q]
    have c4' : MCd (pg k) 4 I4 := c4.ks (KSl.same (fun o p q => i4 o (by omega))) (hpg' k hk4).1.1 (hpg' k hk4).2.1
    refine l_M_z1 (d := d2 + 4) (L0 := L1) (fun L5 g1 g2 => l_M_z2 (d := d2 + 4) (I0 := I4) (fun I5 k1 k2 => ?_) 60 0 I4 rfl (fun _ _ _ => rfl) (fun s hs => absurd hs (Nat.not_lt_zero s))) 480 0 L1 rfl (fun _ _ => rfl) (fun j hj => absurd hj (Nat.not_lt_zero j))
    have x5 : ∀ x, I5 69 x = I4 69 x := fun x => by rw [k1 69 (by decide) (by decide)]
    have m5 : MS E 0 I5 L5 := ⟨fun q hq => absurd hq (Nat.not_lt_zero q), g2, k2, by rw [x5, ← eI, au_s]; rfl⟩
    have sz5 : SZ I5 B T O := ⟨by rw [x5, j4 33 (by decide) (by decide) (by decide) (by decide), x3 33 (by decide) (by decide)]; exact sz.1, by rw [x5, j4 34 (by decide) (by decide) (by decide) (by decide), x3 34 (by decide) (by decide)]; exact sz.2.1, by rw [x5, j4 35 (by decide) (by decide) (by decide) (by decide), x3 35 (by decide) (by decide)]; exact sz.2.2⟩
    have e65 : I5 69 65 = nI F := by rw [x5, ← eI, au_k (by decide), au_k (by decide), au_k (by decide), au_s]
    have e48 : I5 69 48 = 0 := by rw [x5, j4 48 (by decide) (by decide) (by decide) (by decide), x3 48 (by decide) (by decide)]; exact h48
    refine l_M_walk (d := d2) (hpg' k hk4) f0 f4 hk (fun r => (hE r).1) hW (I0 := I5) (L0 := L5) (fun I6 L6 n' wl' wc' wi a1 a2 a3 a4 a48 a5 a6 a7 a8 => ?_) _ 0 I5 L5 (Nat.zero_add _) (c4'.ks (KSl.same (fun o p q => k1 o (by omega) (by omega))) (hpg' k hk4).1.1 (hpg' k hk4).2.1) sz5 e65 e48 m5 FMr.rf
    -- the ways of both
    obtain ⟨en, ew⟩ := w.2.2.2.2.1.uniq a1
    subst en
    have mw : MWy n wl wc I6 := ⟨a2.1, fun j hj => by rw [(ew j hj).1, (ew j hj).2]; exact a2.2 j hj⟩
    have mq : ∀ q, q < 2 ^ (B * (T + O)) → I6 97 q = nI (wi q) ∧ wi q < n ∧ kK E (wl (wi q)) = kK E q := fun q hq => by
      obtain ⟨b1, b2, b3⟩ := a3 q hq
      exact ⟨b1, b2, by rw [(ew _ b2).1]; exact b3⟩
    -- what stands
    have lo : ∀ o, o ≠ 69 → ¬ (71 ≤ o ∧ o ≤ 78) → ¬ (84 ≤ o ∧ o ≤ 88) → ¬ (93 ≤ o ∧ o ≤ 103) → I6 o = I1 o := fun o p1 p2 p3 p4 => by
      rw [a5 o p1 p3 p4, k1 o (by omega) (by omega), i4 o p1, fs.1 o p2, f.1 o p1 (by omega) (by omega)]
    have md : ∀ o, 71 ≤ o → o ≤ 78 → I6 o = I3 o := fun o p q => by rw [a5 o (by omega) (by omega) (by omega), k1 o (by omega) (by omega), i4 o (by omega)]
    have f69 : ∀ x, x ≠ 25 → x ≠ 36 → x ≠ 42 → x ≠ 43 → x ≠ 44 → x ≠ 45 → x ≠ 48 → ¬ (64 ≤ x ∧ x ≤ 67) → I6 69 x = I2 69 x := fun x p1 p2 p3 p4 p5 p6 p7 p8 => by
      rw [a6 x p1 p3 p4 p5 p6 p7 (by omega) (by omega), x5, j4 x (by omega) p2 (by omega) (by omega), fs.1 69 (by decide)]
    have lf : ∀ o, o ≠ 69 → o ≠ 89 → o ≠ 91 → o ≠ 92 → L6 o = L1 o := fun o p1 p2 p3 p4 => by rw [a7 o p1 p2 p3 p4, g1 o p2]
    have rp : RP pg I6 L6 D := by
      refine ⟨hD, fun j hj => ⟨hpg' j hj, ?_⟩, Or.inl ⟨by rw [f69 32 (by decide) (by decide) (by decide) (by decide) (by decide) (by decide) (by decide) (by omega)]; exact e32, fun j hj => ?_⟩, fun j hj => by rw [md 77 (by decide) (by decide)]; exact bo3 j hj⟩
      · obtain ⟨b1, b2⟩ := codes_bd (hD.1 j (by omega))
        exact (hpg j hj).2.fr (fun o x y => by rw [lo o (by omega) (by omega) (by omega) (by omega), hi o (by omega)]) (by rw [lf _ (by omega) (by omega) (by omega) (by omega), hl _ (by omega)])
      · exact ((hm j hj).frs fs (by omega) (hpg' j hj).1.1 (hpg' j hj).2.1).ks (KSl.same md) (hpg' j hj).1.1 (hpg' j hj).2.1
    have sz6 : SZ I6 B T O := ⟨by rw [f69 33 (by decide) (by decide) (by decide) (by decide) (by decide) (by decide) (by decide) (by omega), x69 33 (by decide) (by decide)]; exact sz.1, by rw [f69 34 (by decide) (by decide) (by decide) (by decide) (by decide) (by decide) (by decide) (by omega), x69 34 (by decide) (by decide)]; exact sz.2.1, by rw [f69 35 (by decide) (by decide) (by decide) (by decide) (by decide) (by decide) (by decide) (by omega), x69 35 (by decide) (by decide)]; exact sz.2.2⟩
    have o1 : I6 1 = I 1 := by rw [lo 1 (by decide) (by omega) (by omega) (by omega), fk.1 1 (by omega)]
    refine hQ2 I6 L6 rp (Or.inr ⟨pg k, F, B, T, O, E, n, wl, wc, wi, ⟨hpg' k hk4, f0, f4, hk, hE, hW⟩, ⟨by rw [o1]; exact s1, by rw [o1]; exact s2, by rw [o1]; exact s3, sz6⟩, w.fr (fun o p q => lo o (by omega) (by omega) (by omega) (by omega)) (fun o p q => lf o (by omega) (by omega) (by omega) (by omega)), ?_, ?_, c4'.ks (KSl.same (fun o p q => by rw [md o p q, i4 o (by omega)])) (hpg' k hk4).1.1 (hpg' k hk4).2.1, a4, mw, mq, Or.inl ?_⟩) ?_ ⟨fun o p1 p2 p3 p4 p5 => ?_, fun x p0 p25 p32 p36 p42 p43 p44 p45 p64 => ?_, ?_, ?_, fun o p1 p2 p3 p4 p5 => ?_, fun x p q => ?_⟩
    · rw [a6 36 (by decide) (by decide) (by decide) (by decide) (by decide) (by decide) (by decide) (by decide), x5, ← eI, au_k (by decide), au_k (by decide), au_s]
    · rw [a6 65 (by decide) (by decide) (by decide) (by decide) (by decide) (by decide) (by decide) (by decide)]; exact e65
    · rw [a6 66 (by decide) (by decide) (by decide) (by decide) (by decide) (by decide) (by decide) (by decide), x5, ← eI, au_k (by decide), au_s]
    · rw [f69 0 (by decide) (by decide) (by decide) (by decide) (by decide) (by decide) (by decide) (by omega)]; exact f.2.2.1
    · rw [lo o p2 p3 p4 p5, fk.1 o p1]
    · by_cases q : x = 48
      · subst q; exact a48.trans h48.symm
      · rw [f69 x p25 p36 p42 p43 p44 p45 q p64, x69 x p0 p32]
    · rw [lo 4 (by decide) (by omega) (by omega) (by omega)]; exact fk.2.1
    · exact (((KSl.same (fun o p q => hi o (by omega))).tr f.2.2.2.2).tr (fs.ks (by decide))).tr (KSl.same md)
    · rw [lf o p2 p3 p4 p5, fk.2.2 o p1]
    · rw [a8 x p q, g1 69 (by decide), hl 69 (by decide)]
  · exfalso
    rcases hx with g | g
    · rcases g with g | g
      · exact absurd g (nI_pos (by omega))
      · rw [show (4 : Int32) = nI 4 from rfl, nI_leI (by decide) (by omega)] at g; omega
    · rcases g with g | g
      · rw [show (1 : Int32) = nI 1 from rfl, nI_ltI (by omega) (by decide)] at g; omega
      · rw [show (40 : Int32) = nI 40 from rfl, nI_ltI (by decide) (by omega)] at g; omega
end QWALK
