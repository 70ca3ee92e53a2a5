/-! PART 9j: the class's mending; what is harmless for the reference -/
/-- the first number that can be mended, and by what -/
def isMd (P : Nat → Nat → Prop) (N R : Nat) (out : Int32) (u : Option Int32) : Prop := (∃ j v, j < N ∧ v < R ∧ P j v ∧ (∀ w, w < v → ¬ P j w) ∧ (∀ i, i < j → ∀ w, w < R → ¬ P i w) ∧ out = nI j ∧ u = some (nI v)) ∨ ((∀ i, i < N → ∀ w, w < R → ¬ P i w) ∧ out = -1 ∧ u = none)
theorem isMd.one {P : Nat → Nat → Prop} {N R : Nat} {a b : Int32} {u w : Option Int32} (x : isMd P N R a u) (y : isMd P N R b w) : a = b ∧ u = w := by
  rcases x with ⟨j, v, h1, h2, h3, h4, h5, rfl, rfl⟩ | ⟨h1, rfl, rfl⟩ <;> rcases y with ⟨i, t, k1, k2, k3, k4, k5, rfl, rfl⟩ | ⟨k1, rfl, rfl⟩
  · rcases Nat.lt_trichotomy j i with g | g | g
    · exact absurd h3 (k5 j g v h2)
    · subst g
      rcases Nat.lt_trichotomy v t with q | q | q
      · exact absurd h3 (k4 v q)
      · subst q; exact ⟨rfl, rfl⟩
      · exact absurd k3 (h4 t q)
    · exact absurd k3 (h5 i g t k2)
  · exact absurd h3 (k1 j h1 v h2)
  · exact absurd k3 (h1 i k1 t k2)
  · exact ⟨rfl, rfl⟩
def u15 (u : Option Int32) (I : Nat → Nat → Int32) : Nat → Nat → Int32 := match u with
  | none => I
  | some v => aw_u I 0 15 v
section MEND2
variable {X : aw_X} {d d2 : Nat} {Q : Option Value → aw_H → Prop} {I : Nat → Nat → Int32} {L : Nat → Nat → Int64} {D : Nat → Nat} {S : PT} {c s p B T O F : Nat} {v old : Int32}
theorem KFr.u15 {I0 I : Nat → Nat → Int32} {L0 L : Nat → Nat → Int64} (h : KFr I0 I L0 L) : KFr (aw_u I0 0 15 v) (aw_u I 0 15 v) L0 L := by
  obtain ⟨a, b, e⟩ := h
  refine ⟨fun x h1 h2 h3 h4 h5 h6 => ?_, by rw [au_o (by decide), au_o (by decide)]; exact b, e⟩
  by_cases g : x = 0
  · subst g
    rw [aw_u_same, aw_u_same, a 0 h1 h2 h3 h4 h5 h6]
  · rw [au_o g, au_o g, a x h1 h2 h3 h4 h5 h6]
theorem l_AW_mend {E : Nat → Nat → Nat → PE} (f0 : 0 < F) (f4 : F ≤ 40) (hE : ∀ j, j < min (cM S) 20 → ∀ u, u < 2 ^ B → ∀ r, RT1 (setN (cA S j) (nI u) S) B T O F r (-1) (E j u r)) {I0 : Nat → Nat → Int32} {L0 : Nat → Nat → Int64} {lk : Nat} (hl : lk < 2 ^ (B * (T + O)))
    (hQ : ∀ out u, isMd (fun j u => ∀ r, r < 2 ^ (B * (T + O)) → ¬ harm (E j u r).1) (min (cM S) 20) (2 ^ B) out u → ∀ I' L', KFr (u15 u I0) I' L0 L' → Q (some (.int out)) (aw_s I' L' D)) :
    ∀ (m j : Nat) (I : Nat → Nat → Int32) (L : Nat → Nat → Int64), j + m = min (cM S) 20 → KIn S c B T O I L → KFr I0 I L0 L → (∀ i, i < j → ∀ w, w < 2 ^ B → ¬ ∀ r, r < 2 ^ (B * (T + O)) → ¬ harm (E i w r).1) →
      aw_z X (d + 7) y_AW_mend Q 53 [some (.ref 0), none, some (.int (nI F)), some (.ref c), some (.int (nI lk)), some (.int (nI j)), none] [] (aw_s I L D) := by
  intro m
  induction m with
  | zero =>
    intro j I L e h f hi
    have k8 := h.2.2.1.2.2.2.1
    refine b_AW_mend_53 h.2.1 (fun _ => hQ (-1) none (Or.inr ⟨fun i hi' => hi i (by omega), rfl, rfl⟩) I L f) (fun q => absurd ?_ q)
    rw [k8, nI_leI (by omega) (by omega)]; omega
  | succ m ih =>
    intro j I L e h f hi
    have k8 := h.2.2.1.2.2.2.1
    refine b_AW_mend_53 h.2.1 (fun q => ?_) (fun _ => c_AW_mendingValue (d := d) h f0 f4 (j := j) (by omega) hl (hE j (by omega)) (fun res hres I1 L1 f1 => b_AW_mend_72 (fun q => ?_) (fun q => ?_)))
    · rw [k8, nI_leI (by omega) (by omega)] at q; omega
    · rw [nI_1]
      refine ih (j + 1) I1 L1 (by omega) (h.fr f1) (f.tr f1) (fun i hi' => ?_)
      by_cases g : i = j
      · subst g
        rcases hres with ⟨u, u1, u2, u3, rfl⟩ | ⟨u1, -⟩
        · have hk := h.2.2.2.1
          have p6 : 2 ^ B ≤ 64 := Nat.pow_le_pow_right (n := 2) (by decide) hk.2.1
          exact absurd q (nI_ne1 (by omega))
        · exact u1
      · exact hi i (by omega)
    · rcases hres with ⟨u, u1, u2, u3, rfl⟩ | ⟨-, rfl⟩
      · exact hQ (nI j) (some (nI u)) (Or.inl ⟨j, u, by omega, u1, u2, u3, hi, rfl, rfl⟩) _ L1 (f.tr f1).u15
      · exact absurd rfl q
theorem l_M_harmless {E : Nat → PE} (f0 : 0 < F) (f4 : F ≤ 40) (hE : ∀ r, RT1 S B T O F r (-1) (E r) ∧ p_end B F (E r)) {I0 : Nat → Nat → Int32} {L0 : Nat → Nat → Int64}
    (hQ1 : (∀ r, r < 2 ^ (B * (T + O)) → ¬ harm (E r).1) → ∀ I' L', MFr I0 I' L0 L' → Q (some (.int 1)) (aw_s I' L' D)) (hQ0 : ¬ (∀ r, r < 2 ^ (B * (T + O)) → ¬ harm (E r).1) → ∀ I' L', MFr I0 I' L0 L' → Q (some (.int 0)) (aw_s I' L' D)) :
    ∀ (m r : Nat) (I : Nat → Nat → Int32) (L : Nat → Nat → Int64), r + m = 2 ^ (B * (T + O)) → MIn S s B T O I → MFr I0 I L0 L → (∀ t, t < r → ¬ harm (E t).1) →
      aw_z X (d + 4) y_M_isHarmless Q 2 [some (.ref 69), some (.int (nI s)), some (.int (nI F)), some (.int (nI r))] [] (aw_s I L D) := by
  intro m
  induction m with
  | zero =>
    intro r I L e h f ht
    have hR := rows_lt h.2.2.2.1
    refine b_M_isHarmless_2 (c_M_rows h.2.2.2.1 h.2.2.2.2.1 (b_M_isHarmless_7 (fun _ => hQ1 (fun t ht' => ht t (by omega)) I L f) (fun q => absurd ?_ q)))
    rw [nI_leI (by omega) (by omega)]; omega
  | succ m ih =>
    intro r I L e h f ht
    have hR := rows_lt h.2.2.2.1
    refine b_M_isHarmless_2 (c_M_rows h.2.2.2.1 h.2.2.2.2.1 (b_M_isHarmless_7 (fun q => ?_) (fun _ => m_runs (rule := -1) h f0 f4 (fun z => absurd (by decide) z) (hE r).1 (fun I1 L1 f1 _ => b_M_isHarmless_18 (c_M_isHarm (hE r).2 (fun g => b_M_isHarmless_21 (fun q => absurd q (by decide)) (fun _ => hQ0 (fun z => z r (by omega) g) I1 L1 (f.tr f1))) (fun g => b_M_isHarmless_21 (fun _ => ?_) (fun q => absurd rfl q)))))))
    · rw [nI_leI (by omega) (by omega)] at q; omega
    · rw [nI_1]
      refine ih (r + 1) I1 L1 (by omega) (h.fr f1) (f.tr f1) (fun t ht' => ?_)
      by_cases g' : t = r
      · subst g'; exact g
      · exact ht t (by omega)
theorem c_M_isHarmless {E : Nat → PE} (h : MIn S s B T O I) (f0 : 0 < F) (f4 : F ≤ 40) (hE : ∀ r, RT1 S B T O F r (-1) (E r) ∧ p_end B F (E r))
    (hQ1 : (∀ r, r < 2 ^ (B * (T + O)) → ¬ harm (E r).1) → ∀ I' L', MFr I I' L L' → Q (some (.int 1)) (aw_s I' L' D)) (hQ0 : ¬ (∀ r, r < 2 ^ (B * (T + O)) → ¬ harm (E r).1) → ∀ I' L', MFr I I' L L' → Q (some (.int 0)) (aw_s I' L' D)) :
    aw_m X (d + 4) y_M_isHarmless [.ref 69, .int (nI s), .int (nI F)] (aw_s I L D) Q :=
  aw_go rfl rfl (b_M_isHarmless_0 (l_M_harmless (I0 := I) (L0 := L) f0 f4 hE hQ1 hQ0 _ 0 I L (Nat.zero_add _) h MFr.rf (fun t x => absurd x (Nat.not_lt_zero t))))
end MEND2
