/-! PART ag: the class walks a program -/
/-- what the class's walk leaves -/
def FKw (I I' : Nat → Nat → Int32) (L L' : Nat → Nat → Int64) : Prop := (∀ o, ¬ (4 ≤ o ∧ o ≤ 21) → I' o = I o) ∧ I' 4 19 = I 4 19 ∧ ∀ o, ¬ (4 ≤ o ∧ o ≤ 21) → L' o = L o
theorem FKw.rf {I : Nat → Nat → Int32} {L : Nat → Nat → Int64} : FKw I I L L := ⟨fun _ _ => rfl, rfl, fun _ _ => rfl⟩
theorem FKw.tr {I0 I1 I2 : Nat → Nat → Int32} {L0 L1 L2 : Nat → Nat → Int64} (a : FKw I0 I1 L0 L1) (b : FKw I1 I2 L1 L2) : FKw I0 I2 L0 L2 := ⟨fun o h => (b.1 o h).trans (a.1 o h), b.2.1.trans a.2.1, fun o h => (b.2.2 o h).trans (a.2.2 o h)⟩
theorem KFr.fw {I I' : Nat → Nat → Int32} {L L' : Nat → Nat → Int64} (h : KFr I I' L L') : FKw I I' L L' := ⟨fun o p => h.1 o (by omega) (by omega) (by omega) (by omega) (by omega) (by omega), h.2.1, fun o p => h.2.2 o (by omega) (by omega)⟩
theorem FKN.fw {I I' : Nat → Nat → Int32} {L L' : Nat → Nat → Int64} (h : FKN I I' L L') : FKw I I' L L' := ⟨fun o p => funext fun k => h.1 o k (by omega) (by omega), h.1 4 19 (by omega) (by omega), fun o p => funext fun k => h.2 o k (by omega) (by omega)⟩
theorem KIn.fw {S : PT} {c B T O : Nat} {I I' : Nat → Nat → Int32} {L L' : Nat → Nat → Int64} (h : KIn S c B T O I L) (f : FKw I I' L L') : KIn S c B T O I' L' := by
  obtain ⟨a, b, k, e, s1, s2, s3⟩ := h
  obtain ⟨b1, b2⟩ := codes_bd b
  have e1 := f.1 1 (by omega)
  exact ⟨a, b, k.fr (fun o x y => f.1 o (by omega)) (by rw [f.2.2 c (by omega)]), e, by rw [e1]; exact s1, by rw [e1]; exact s2, by rw [e1]; exact s3⟩
theorem KTE.k {I0 I : Nat → Nat → Int32} {L0 L : Nat → Nat → Int64} {E : PE} (h : KTE I0 L0 I L E) (h19 : I0 4 19 = 0) : KFr I0 I L0 L ∧ I 4 12 = nI (eB E) ∧ I 4 13 = nI (eD E).length ∧ L 4 14 = pathL (eD E) ∧ I 4 15 = eE E ∧ I 4 16 = eS E ∧ L 9 = trL (L0 9) (eT E) ∧ ∀ s, s < 60 → I 10 s = nI (eY E s) := by
  obtain ⟨e, sp, pc, stk, cs, nm, cl, sp0, bg, ds, ak, ys, tr⟩ := E
  obtain ⟨a1, a2, a3, a4, a5, a6, a7, a8, a9, a10, a11, a12, a13, a14⟩ := h
  exact ⟨⟨a1, a14.trans h19.symm, a3⟩, a7, a8, a9, a12, a13, a11, a10⟩
/-- what the class knows of a walked program -/
def KWd (S : PT) (E : Nat → PE) (R n : Nat) (wl wc : Nat → Nat) (r : Nat) (I : Nat → Nat → Int32) (L : Nat → Nat → Int64) : Prop := I 11 0 = 1 ∧ I 11 1 = nI R ∧ L 11 2 = whL (cW S) (cS S) ∧ KWn E r n wl wc I L
theorem KWd.fr {S : PT} {E : Nat → PE} {R r n : Nat} {wl wc : Nat → Nat} {I I' : Nat → Nat → Int32} {L L' : Nat → Nat → Int64} (h : KWd S E R n wl wc r I L) (hI : ∀ o, 11 ≤ o → o ≤ 21 → I' o = I o) (hL : ∀ o, 11 ≤ o → o ≤ 21 → L' o = L o) : KWd S E R n wl wc r I' L' := by
  obtain ⟨a, b, c, e⟩ := h
  have i := hI 11 (by decide) (by decide)
  have l := hL 11 (by decide) (by decide)
  exact ⟨by rw [i]; exact a, by rw [i]; exact b, by rw [l]; exact c, e.fr (by rw [i]) (by rw [i]) (by rw [l]) (fun o p q => hI o (by omega) q) (fun o p q => hL o (by omega) q)⟩
section KWK
variable {X : aw_X} {d : Nat} {Q : Option Value → aw_H → Prop} {I : Nat → Nat → Int32} {L : Nat → Nat → Int64} {D : Nat → Nat}
theorem l_Wk_z2 {I0 : Nat → Nat → Int32} (hQ : ∀ I', (∀ o, o ≠ 19 → I' o = I0 o) → (∀ k, k < 3840 → I' 19 k = 0) → Q none (aw_s I' L D)) :
    ∀ (m k : Nat) (I : Nat → Nat → Int32), k + m = 3840 → (∀ o, o ≠ 19 → I o = I0 o) → (∀ j, j < k → I 19 j = 0) → aw_z X (d + 1) y_Wk_begin Q 59 [some (.ref 11), none, none, some (.int (nI k))] [] (aw_s I L D) := by
  intro m
  induction m with
  | zero =>
    intro k I e hf h
    have : k = 3840 := by omega
    subst this
    exact b_Wk_begin_59 (fun _ => hQ I hf h) (fun q => absurd (by decide) q) (fun q => absurd (by decide) q)
  | succ m ih =>
    intro k I e hf h
    have c : ¬ (3840 : Int32) ≤ nI k := by rw [show (3840 : Int32) = nI 3840 from rfl, nI_leI (by decide) (by omega)]; omega
    refine b_Wk_begin_59 (fun q => absurd q c) (fun _ => aw_in_nI (by omega) (by decide)) (fun _ => ?_)
    rw [nI_clamp (show k < 2 ^ 31 by omega), nI_1]
    refine ih (k + 1) _ (by omega) (fun o p => by rw [au_o p]; exact hf o p) (fun j hj => ?_)
    by_cases q : j = k
    · subst q; rw [au_s]
    · rw [au_k q]; exact h j (by omega)
theorem l_Wk_z1 {L0 : Nat → Nat → Int64} (hQ : ∀ L', (∀ o, o ≠ 18 → L' o = L0 o) → (∀ k, k < 480 → L' 18 k = 0) → aw_z X (d + 1) y_Wk_begin Q 59 [some (.ref 11), none, none, some (.int (nI 0))] [] (aw_s I L' D)) :
    ∀ (m k : Nat) (L : Nat → Nat → Int64), k + m = 480 → (∀ o, o ≠ 18 → L o = L0 o) → (∀ j, j < k → L 18 j = 0) → aw_z X (d + 1) y_Wk_begin Q 35 [some (.ref 11), none, none, some (.int (nI k))] [] (aw_s I L D) := by
  intro m
  induction m with
  | zero =>
    intro k L e hf h
    have : k = 480 := by omega
    subst this
    exact b_Wk_begin_35 (fun _ => hQ L hf h) (fun q => absurd (by decide) q) (fun q => absurd (by decide) q)
  | succ m ih =>
    intro k L e hf h
    have c : ¬ (480 : Int32) ≤ nI k := by rw [show (480 : Int32) = nI 480 from rfl, nI_leI (by decide) (by omega)]; omega
    refine b_Wk_begin_35 (fun q => absurd q c) (fun _ => aw_in_nI (by omega) (by decide)) (fun _ => ?_)
    rw [nI_clamp (show k < 2 ^ 31 by omega), nI_1]
    refine ih (k + 1) _ (by omega) (fun o p => by rw [au_o p]; exact hf o p) (fun j hj => ?_)
    by_cases q : j = k
    · subst q; rw [au_s]
    · rw [au_k q]; exact h j (by omega)
theorem c_Wk_begin {S : PT} {c R : Nat} {E : Nat → PE} {wl wc : Nat → Nat} (hc : c ∈ aw_codes) (hw : L c 10 = whL (cW S) (cS S))
    (hQ : ∀ I' L', KWd S E R 0 wl wc 0 I' L' → FKw I I' L L' → Q none (aw_s I' L' D)) : aw_m X (d + 1) y_Wk_begin [.ref 11, .ref c, .int (nI R)] (aw_s I L D) Q := by
  refine aw_go rfl rfl (b_Wk_begin_0 hc (l_Wk_z1 (d := d) (fun L1 g1 g2 => l_Wk_z2 (d := d) (fun I1 f1 f2 => hQ I1 L1 ⟨?_, ?_, ?_, ⟨fun q h => absurd h (Nat.not_lt_zero q), ⟨fun i h => absurd h (Nat.not_lt_zero i), fun i j _ h => absurd h (Nat.not_lt_zero j), fun q h => absurd h (Nat.not_lt_zero q), fun i h => absurd h (Nat.not_lt_zero i)⟩, ⟨?_, fun i h => absurd h (Nat.not_lt_zero i)⟩, ?_, ?_, g2, f2, fun h => absurd (show (0 : Nat) = 1 from h) (by decide)⟩⟩ ⟨fun o p => ?_, ?_, fun o p => ?_⟩) 3840 0 _ rfl (fun _ _ => rfl) (fun j h => absurd h (Nat.not_lt_zero j))) 480 0 _ rfl (fun _ _ => rfl) (fun j h => absurd h (Nat.not_lt_zero j))))
  · rw [f1 11 (by decide), au_k (by decide), au_k (by decide), au_k (by decide), au_s]
  · rw [f1 11 (by decide), au_k (by decide), au_k (by decide), au_s]
  · rw [g1 11 (by decide), au_k (by decide), au_s]; exact hw
  · rw [f1 11 (by decide), au_k (by decide), au_s]; rfl
  · rw [g1 11 (by decide), au_s]; rfl
  · rw [f1 11 (by decide), au_s]; rfl
  · rw [f1 o (by omega), au_o (by omega), au_o (by omega), au_o (by omega), au_o (by omega)]
  · rw [f1 4 (by decide), au_o (by decide), au_o (by decide), au_o (by decide), au_o (by decide)]
  · rw [g1 o (by omega), au_o (by omega), au_o (by omega)]
theorem l_AW_walk {S : PT} {c B T O F : Nat} {E : Nat → PE} (f0 : 0 < F) (f4 : F ≤ 40) (hE : ∀ r, RT1 S B T O F r (-1) (E r)) (hW : WE B F (cS S) E) {I0 : Nat → Nat → Int32} {L0 : Nat → Nat → Int64}
    (hQ : ∀ I' L' n wl wc, KWd S E (2 ^ (B * (T + O))) n wl wc (2 ^ (B * (T + O))) I' L' → FKw I0 I' L0 L' → Q (some (.int (nI n))) (aw_s I' L' D)) :
    ∀ (m k : Nat) (I : Nat → Nat → Int32) (L : Nat → Nat → Int64) (n : Nat) (wl wc : Nat → Nat), k + m = 2 ^ (B * (T + O)) → KIn S c B T O I L → I 4 19 = 0 → KWd S E (2 ^ (B * (T + O))) n wl wc k I L → FKw I0 I L0 L →
      aw_z X (d + 7) y_AW_walk Q 37 [some (.ref 0), none, some (.int (nI F)), some (.ref c), some (.int (nI k))] [] (aw_s I L D) := by
  intro m
  induction m with
  | zero =>
    intro k I L n wl wc e h h19 hd f
    have hR := rows_lt h.2.2.2.1
    have ek : k = 2 ^ (B * (T + O)) := by omega
    rw [ek] at hd
    refine b_AW_walk_37 (c_Sz_rows h.2.2.2.1 h.2.2.2.2.1 h.2.2.2.2.2.1 h.2.2.2.2.2.2 (b_AW_walk_46 (fun _ => ?_) (fun q => absurd ?_ q)))
    · rw [hd.2.2.2.2.2.1.1]; exact hQ I L n wl wc hd f
    · rw [nI_leI (by omega) (by omega)]; omega
  | succ m ih =>
    intro k I L n wl wc e h h19 hd f
    have hR := rows_lt h.2.2.2.1
    refine b_AW_walk_37 (c_Sz_rows h.2.2.2.1 h.2.2.2.2.1 h.2.2.2.2.2.1 h.2.2.2.2.2.2 (b_AW_walk_46 (fun q => ?_) (fun _ => ?_)))
    · rw [nI_leI (by omega) (by omega)] at q; omega
    · obtain ⟨a, b, kc, sz, s1, s2, s3⟩ := id h
      obtain ⟨N, hN⟩ := hE k
      refine c_Mc_launchTraced a.1 b kc.1 kc.2.1 s1 s2 sz f0 f4 (by omega) hN (fun I1 L1 hT => b_AW_walk_60 ?_)
      obtain ⟨t0, t1, t2, t3, t4, t5, t6, t7⟩ := hT.k h19
      have hd1 : KWd S E (2 ^ (B * (T + O))) n wl wc k I1 L1 := hd.fr (fun o p q => t0.1 o (by omega) (by omega) (by omega) (by omega) (by omega) (by omega)) (fun o p q => t0.2.2 o (by omega) (by omega))
      refine c_Wk_note (d := d + 2) (by omega) f4 sz.2.1 a.2.1 hW hd1.2.2.2 t1 t2 t3 t4 t5 t6 t7 (fun I2 L2 n' wl' wc' w g => b_AW_walk_73 ?_)
      rw [nI_1]
      refine ih (k + 1) I2 L2 n' wl' wc' (by omega) ((h.fr t0).fw g.fw) ?_ ⟨?_, ?_, ?_, w⟩ ((f.tr t0.fw).tr g.fw)
      · rw [g.1 4 19 (by omega) (by omega), t0.2.1]; exact h19
      · rw [g.1 11 0 (by omega) (by omega)]; exact hd1.1
      · rw [g.1 11 1 (by omega) (by omega)]; exact hd1.2.1
      · rw [g.2 11 2 (by omega) (by omega)]; exact hd1.2.2.1
end KWK
