/-! PART 9i: the class's mending of one number -/
section MEND
variable {X : aw_X} {d d2 : Nat} {Q : Option Value → aw_H → Prop} {I : Nat → Nat → Int32} {L : Nat → Nat → Int64} {D : Nat → Nat} {S : PT} {c s p B T O F : Nat} {v old : Int32}
theorem KFr.uc {I0 I : Nat → Nat → Int32} {L0 L : Nat → Nat → Int64} {o k : Nat} {u w : Int32} (h : KFr (aw_u I0 o k u) I L0 L) (ho : 11 ≤ o) : KFr (aw_u I0 o k w) (aw_u I o k w) L0 L := by
  obtain ⟨a, b, e⟩ := h
  refine ⟨fun x h1 h2 h3 h4 h5 h6 => ?_, ?_, e⟩
  · by_cases g : x = o
    · subst g
      funext y
      by_cases q : y = k
      · subst q; rw [au_s, au_s]
      · rw [au_k q, au_k q, a x h1 h2 h3 h4 h5 h6, au_k q]
    · rw [au_o g, au_o g, a x h1 h2 h3 h4 h5 h6, au_o g]
  · rw [au_o (show (4 : Nat) ≠ o by omega), au_o (show (4 : Nat) ≠ o by omega), b, au_o (show (4 : Nat) ≠ o by omega)]
theorem l_mending {E : Nat → Nat → PE} (f0 : 0 < F) (f4 : F ≤ 40) (hS : PG S) (hp : p < cn S) (h2 : (cP S p).1 = 2) (hE : ∀ u, u < 2 ^ B → ∀ r, RT1 (setN p (nI u) S) B T O F r (-1) (E u r)) {I0 : Nat → Nat → Int32} {L0 : Nat → Nat → Int64} (hold : I0 (c + 2) p = old)
    (hQ : ∀ res, isFst (fun u => ∀ r, r < 2 ^ (B * (T + O)) → ¬ harm (E u r).1) (2 ^ B) res → ∀ I' L', KFr I0 I' L0 L' → Q (some (.int res)) (aw_s I' L' D)) :
    ∀ (m k lk : Nat) (w : Int32) (I : Nat → Nat → Int32) (L : Nat → Nat → Int64), k + m = 2 ^ B → lk < 2 ^ (B * (T + O)) → KIn (setN p w S) c B T O I L → KFr (aw_u I0 (c + 2) p w) I L0 L → (∀ u, u < k → ¬ ∀ r, r < 2 ^ (B * (T + O)) → ¬ harm (E u r).1) →
      aw_z X (d + 6) y_AW_mendingValue Q 25 [some (.ref 0), some (.ref c), none, some (.int (nI F)), none, some (.int (nI p)), some (.int old), some (.int (nI lk)), some (.int (-1)), some (.int (nI k)), none] [] (aw_s I L D) := by
  have fin : ∀ (res w : Int32) (I : Nat → Nat → Int32) (L : Nat → Nat → Int64), isFst (fun u => ∀ r, r < 2 ^ (B * (T + O)) → ¬ harm (E u r).1) (2 ^ B) res → KIn (setN p w S) c B T O I L → KFr (aw_u I0 (c + 2) p w) I L0 L → aw_z X (d + 6) y_AW_mendingValue Q 85 [none, some (.ref c), none, none, none, some (.int (nI p)), some (.int old), none, some (.int res), none, none] [] (aw_s I L D) := by
    intro res w I L hres h f
    obtain ⟨b1, b2⟩ := codes_bd h.2.1
    refine b_AW_mendingValue_85 h.2.1 (k_change h.2.1 h.1 h.2.2.1 hp ((setN_op p w S p).trans h2) (fun _ => b_AW_mendingValue_93 (hQ res hres _ L ?_)))
    have t := f.uc (w := old) (by omega)
    rw [au_id hold] at t
    exact t
  intro m
  induction m with
  | zero =>
    intro k lk w I L e hl h f hu
    have hk := h.2.2.2.1
    have p6 : 2 ^ B ≤ 64 := Nat.pow_le_pow_right (n := 2) (by decide) hk.2.1
    have p0 := Nat.two_pow_pos B
    have lt : mk B < nI k := by
      show nI (2 ^ B - 1) < nI k
      rw [nI_ltI (by omega) (by omega)]; omega
    exact b_AW_mendingValue_25 (c_Sz_gr hk.1 hk.2.1 h.2.2.2.2.1 (b_AW_mendingValue_34 h.2.1 (fun _ => fin (-1) w I L (Or.inr ⟨fun u hu' => hu u (by omega), rfl⟩) h f) (fun q => absurd lt q) (fun q => absurd lt q)))
  | succ m ih =>
    intro k lk w I L e hl h f hu
    have hk := h.2.2.2.1
    obtain ⟨b1, b2⟩ := codes_bd h.2.1
    have p6 : 2 ^ B ≤ 64 := Nat.pow_le_pow_right (n := 2) (by decide) hk.2.1
    have p0 := Nat.two_pow_pos B
    have hR := rows_lt hk
    have nlt : ¬ mk B < nI k := by
      show ¬ nI (2 ^ B - 1) < nI k
      rw [nI_ltI (by omega) (by omega)]; omega
    refine b_AW_mendingValue_25 (c_Sz_gr hk.1 hk.2.1 h.2.2.2.2.1 (b_AW_mendingValue_34 h.2.1 (fun q => absurd q nlt) (fun _ q => absurd rfl q) (fun _ _ => k_change h.2.1 h.1 h.2.2.1 hp ((setN_op p w S p).trans h2) (fun kc => b_AW_mendingValue_51 ?_))))
    rw [setN_set] at kc
    have kin : KIn (setN p (nI k) S) c B T O (aw_u I (c + 2) p (nI k)) L := ⟨PG_set hS hp h2, h.2.1, kc, hk, by rw [au_o (by omega)]; exact h.2.2.2.2.1, by rw [au_o (by omega)]; exact h.2.2.2.2.2.1, by rw [au_o (by omega)]; exact h.2.2.2.2.2.2⟩
    have fk := f.uc (w := nI k) (by omega)
    refine c_AW_harmedRow (d := d) kin f0 f4 (Or.inl ⟨rfl, rfl⟩) hl (hE k (by omega)) (fun hn I1 L1 f1 => b_AW_mendingValue_60 (fun q => absurd rfl q) (fun _ => ?_)) (fun r hr hh I1 L1 f1 => b_AW_mendingValue_60 (fun _ => ?_) (fun q => absurd q (nI_ne1 (by omega))))
    · have g : aw_z X (d + 6) y_AW_mendingValue Q 85 [none, some (.ref c), none, none, none, some (.int (nI p)), some (.int old), none, some (.int (nI k)), none, none] [] (aw_s I1 L1 D) := fin (nI k) (nI k) I1 L1 (Or.inl ⟨k, by omega, hn, hu, rfl⟩) (kin.fr f1) (fk.tr f1)
      exact b_AW_mendingValue_25 (c_Sz_gr hk.1 hk.2.1 (kin.fr f1).2.2.2.2.1 (b_AW_mendingValue_34 h.2.1 (fun _ => g) (fun _ _ => g) (fun _ q => absurd q (nI_ne1 (by omega)))))
    · rw [nI_1]
      refine ih (k + 1) r (nI k) I1 L1 (by omega) hr (kin.fr f1) (fk.tr f1) (fun u hu' => ?_)
      by_cases g : u = k
      · subst g; exact fun x => x r hr hh
      · exact hu u (by omega)
theorem c_AW_mendingValue {E : Nat → Nat → PE} {j lk : Nat} (h : KIn S c B T O I L) (f0 : 0 < F) (f4 : F ≤ 40) (hj : j < min (cM S) 20) (hl : lk < 2 ^ (B * (T + O))) (hE : ∀ u, u < 2 ^ B → ∀ r, RT1 (setN (cA S j) (nI u) S) B T O F r (-1) (E u r))
    (hQ : ∀ res, isFst (fun u => ∀ r, r < 2 ^ (B * (T + O)) → ¬ harm (E u r).1) (2 ^ B) res → ∀ I' L', KFr I I' L L' → Q (some (.int res)) (aw_s I' L' D)) :
    aw_m X (d + 6) y_AW_mendingValue [.ref 0, .ref c, .int (nI j), .int (nI F), .int (nI lk)] (aw_s I L D) Q := by
  obtain ⟨hS, hc, hC, hk, s1, s2, s3⟩ := id h
  obtain ⟨k1, k2, k3, k4, k5, k6⟩ := id hC
  obtain ⟨n1, n2⟩ := hS.2.2.1 j (by omega)
  refine aw_go rfl rfl (b_AW_mendingValue_0 hc (c_Cd_numberPlace (d := d + 4) (m := min (cM S) 20) (j := j) hc k4 (by omega) hj (b_AW_mendingValue_5 hc ?_)))
  rw [k6 j hj]
  refine c_argC hc k1 hS.1.1 n1 (b_AW_mendingValue_13 ?_)
  obtain ⟨m, m1, m2, m3, m4, m5⟩ := k1.lt n1 (by rw [n2]; decide)
  have e : setN (cA S j) (cP S (cA S j)).2 S = S := by
    have t := setN_id (S := S) (p := cA S j) (v := 0)
    rw [setN_set] at t; exact t
  refine l_mending (d := d) (S := S) (p := cA S j) (old := (cP S (cA S j)).2) (I0 := I) (L0 := L) (E := E) f0 f4 hS n1 n2 hE m5 hQ (2 ^ B) 0 lk (cP S (cA S j)).2 I L (by omega) hl (by rw [e]; exact h) ?_ (fun u x => absurd x (Nat.not_lt_zero u))
  rw [au_id m5]; exact KFr.rf
end MEND
