/-! PART 94: feed and end: class and reference have one tape -/
theorem tp4_lo {f : Nat → Int32} {n j : Nat} {w : Int32} (h : j < n) : tp4 f n w j = f j := by
  unfold tp4
  rw [up_n _ _ (by omega), up_n _ _ (by omega), up_n _ _ (by omega), up_n _ _ (by omega)]
theorem tp4_eq {f g : Nat → Int32} {n : Nat} {w : Int32} (h : ∀ j, j < n → f j = g j) : ∀ j, j < n + 4 → tp4 f n w j = tp4 g n w j := fun j hj => by
  by_cases q : j < n
  · rw [tp4_lo q, tp4_lo q]; exact h j q
  · unfold tp4
    rcases (show j = n ∨ j = n + 1 ∨ j = n + 2 ∨ j = n + 3 by omega) with rfl | rfl | rfl | rfl
    · rw [up_n _ _ (by omega), up_n _ _ (by omega), up_n _ _ (by omega), up_s, up_n _ _ (by omega), up_n _ _ (by omega), up_n _ _ (by omega), up_s]
    · rw [up_n _ _ (by omega), up_n _ _ (by omega), up_s, up_n _ _ (by omega), up_n _ _ (by omega), up_s]
    · rw [up_n _ _ (by omega), up_s, up_n _ _ (by omega), up_s]
    · rw [up_s, up_s]
/-- one tape -/
def RT (I : Nat → Nat → Int32) : Prop := ∃ z, z ≤ 540 ∧ I 2 1 = nI z ∧ I 69 2 = nI z ∧ ∀ j, j < z → I 3 j = I 70 j
theorem RT.fr {I I' : Nat → Nat → Int32} (h : RT I) (h2 : I' 2 1 = I 2 1) (h3 : I' 3 = I 3) (h69 : I' 69 2 = I 69 2) (h70 : I' 70 = I 70) : RT I' := by
  obtain ⟨z, a, b, c, e⟩ := h
  exact ⟨z, a, h2.trans b, h69.trans c, fun j hj => by rw [h3, h70]; exact e j hj⟩
theorem i32_nat {x : Int32} (h : ¬ x < 0) : ∃ m : Nat, x = nI m ∧ m < 2 ^ 31 := by
  refine ⟨x.toNatClampNeg, ?_, ?_⟩
  · have := Int32.not_lt.mp h
    apply Int32.toInt_inj.mp
    show x.toInt = (Int32.ofNat x.toNatClampNeg).toInt
    have h3 : 0 ≤ x.toInt := Int32.le_iff_toInt_le.mp this
    have h4 : x.toInt < 2 ^ 31 := Int32.toInt_lt x
    have h5 : (x.toNatClampNeg : Int) = x.toInt := by rw [← Int32.toNat_toInt]; exact Int.toNat_of_nonneg h3
    rw [Int32.toInt_ofNat_of_lt (by omega)]
    exact h5.symm
  · have h4 : x.toInt < 2 ^ 31 := Int32.toInt_lt x
    have : (x.toInt).toNat < 2 ^ 31 := by omega
    rw [← Int32.toNat_toInt]; exact this
section TAPE
variable {X : aw_X} {d d2 : Nat} {Q : Option Value → aw_H → Prop} {I : Nat → Nat → Int32} {L : Nat → Nat → Int64} {D : Nat → Nat}
theorem c_Tp_app {v1 : Int32} {n : Nat} (hn : I 2 1 = nI n) (hl : n + 4 ≤ 540) (h : ∀ I', I' 3 = tp4 (I 3) n v1 → I' 2 1 = nI (n + 4) → (∀ o k, o ≠ 3 → ¬ (o = 2 ∧ k = 1) → I' o k = I o k) → Q none (aw_s I' L D)) : aw_m X d y_Tp_append [.ref 2, .int v1] (aw_s I L D) Q := by
  refine c_Tp_append hn hl (h _ ?_ ?_ (fun o k a b => ?_))
  · rw [aw_o_n _ _ (by decide), aw_o_s]
  · rw [aw_o_s, up_s]
  · by_cases q : o = 2
    · subst q
      rw [aw_o_s, up_n _ _ (fun x => b ⟨rfl, x⟩)]
    · rw [aw_o_n _ _ q, aw_o_n _ _ a]
theorem l_M_come {v1 v2 v3 : Int32} {n : Nat} (hn : I 69 2 = nI n) (hl : n < 540) (h2 : ¬ v2 < 0) (h3 : v2 + (-8 : Int32) = v3)
    (k : aw_z X d y_M_come Q 3 [some (.ref 69), some (.int v1), some (.int v3)] [] (aw_s (aw_o (aw_o I 70 (va_up (I 70) n ((v1.toUInt32 >>> (v2.toUInt32 &&& Int32.toUInt32 31)).toInt32 &&& 255))) 69 (va_up (I 69) 2 (nI (n + 1)))) L D)) :
    aw_z X d y_M_come Q 3 [some (.ref 69), some (.int v1), some (.int v2)] [] (aw_s I L D) := by
  refine b_M_come_3 (fun q => absurd q h2) (fun _ => by rw [hn]; exact aw_in_nI hl (by decide)) (fun _ => ?_)
  rw [h3, aw_u_o, aw_u_o, hn, nI_clamp (by omega), aw_o_n _ _ (by decide), nI_1]
  exact k
theorem c_M_come {v1 : Int32} {n : Nat} (hn : I 69 2 = nI n) (hl : n + 4 ≤ 540) (h : ∀ I', I' 70 = tp4 (I 70) n v1 → I' 69 2 = nI (n + 4) → (∀ o k, o ≠ 70 → ¬ (o = 69 ∧ k = 2) → I' o k = I o k) → Q none (aw_s I' L D)) : aw_m X d y_M_come [.ref 69, .int v1] (aw_s I L D) Q := by
  refine aw_C.of rfl (Nat.le_of_ble_eq_true rfl) (b_M_come_0 ?_)
  refine l_M_come (v3 := 16) hn (by omega) (by decide) (by decide) ?_
  refine l_M_come (v3 := 8) (n := n + 1) (by simp [aw_o, va_up]) (by omega) (by decide) (by decide) ?_
  refine l_M_come (v3 := 0) (n := n + 2) (by simp [aw_o, va_up]) (by omega) (by decide) (by decide) ?_
  refine l_M_come (v3 := -8) (n := n + 3) (by simp [aw_o, va_up]) (by omega) (by decide) (by decide) ?_
  refine b_M_come_3 (fun _ => h _ ?_ ?_ (fun o k a b => ?_)) (fun q => absurd (by decide) q) (fun q => absurd (by decide) q)
  · simp [aw_o, tp4]
  · simp [aw_o, va_up]
  · by_cases q : o = 69
    · subst q
      have : k ≠ 2 := fun x => b ⟨rfl, x⟩
      simp [aw_o, va_up, this]
    · simp [aw_o, q, a]
/-- five numbers come -/
def tp20 (f : Nat → Int32) (n : Nat) (v1 v2 v3 v4 v5 : Int32) : Nat → Int32 := tp4 (tp4 (tp4 (tp4 (tp4 f n v1) (n + 4) v2) (n + 8) v3) (n + 12) v4) (n + 16) v5
theorem tp20_eq {f g : Nat → Int32} {n : Nat} {v1 v2 v3 v4 v5 : Int32} (h : ∀ j, j < n → f j = g j) : ∀ j, j < n + 20 → tp20 f n v1 v2 v3 v4 v5 j = tp20 g n v1 v2 v3 v4 v5 j :=
  tp4_eq (tp4_eq (tp4_eq (tp4_eq (tp4_eq h))))
theorem c_AW_feed {v1 v2 v3 v4 v5 : Int32} {z : Nat} (hz : z ≤ 540) (h : I 2 1 = nI z)
    (h1 : z + 20 ≤ 540 → ∀ I', I' 3 = tp20 (I 3) z v1 v2 v3 v4 v5 → I' 2 1 = nI (z + 20) → (∀ o k, o ≠ 3 → ¬ (o = 2 ∧ k = 1) → I' o k = I o k) → Q (some (.int (nI (z + 20)))) (aw_s I' L D))
    (h0 : ¬ z + 20 ≤ 540 → Q (some (.int (-1))) (aw_s I L D)) : aw_m X (d + 1) y_AW_feed [.ref 0, .int v1, .int v2, .int v3, .int v4, .int v5] (aw_s I L D) Q := by
  have e20 : I 2 1 + (20 : Int32) = nI (z + 20) := by rw [h, show (20 : Int32) = nI 20 from rfl, nI_add]
  have c20 : ((540 : Int32) < I 2 1 + 20) = (540 < z + 20) := by rw [e20]; exact nI_lt' (a := 540) (by decide) (by omega)
  refine aw_go rfl rfl (b_AW_feed_0 (aw_go rfl rfl (b_Tp_hasRoomFor_0 (fun q => b_AW_feed_9 (fun x => absurd rfl x) (fun _ => h0 (by rw [c20] at q; omega))) (fun q => b_AW_feed_9 (fun _ => ?_) (fun x => absurd x (by decide))))))
  rw [c20] at q
  refine c_Tp_app h (by omega) (fun I1 a1 b1 f1 => b_AW_feed_22 (c_Tp_app b1 (by omega) (fun I2 a2 b2 f2 => b_AW_feed_30 (c_Tp_app b2 (by omega) (fun I3 a3 b3 f3 => b_AW_feed_38 (c_Tp_app b3 (by omega) (fun I4 a4 b4 f4 => b_AW_feed_47 (c_Tp_app b4 (by omega) (fun I5 a5 b5 f5 => b_AW_feed_56 ?_)))))))))
  rw [b5]
  refine h1 (by omega) I5 (by rw [a5, a4, a3, a2, a1]; rfl) b5 (fun o k a b => (f5 o k a b).trans ((f4 o k a b).trans ((f3 o k a b).trans ((f2 o k a b).trans (f1 o k a b)))))
theorem c_M_feed {v1 v2 v3 v4 v5 : Int32} {z : Nat} (hz : z ≤ 540) (h : I 69 2 = nI z)
    (h1 : z + 20 ≤ 540 → ∀ I', I' 70 = tp20 (I 70) z v1 v2 v3 v4 v5 → I' 69 2 = nI (z + 20) → I' 69 0 = 0 → (∀ o k, o ≠ 70 → ¬ (o = 69 ∧ (k = 0 ∨ k = 2)) → I' o k = I o k) → Q (some (.int (nI (z + 20)))) (aw_s I' L D))
    (h0 : ¬ z + 20 ≤ 540 → Q (some (.int (-1))) (aw_s (aw_u I 69 0 0) L D)) : aw_m X (d + 1) y_M_feed [.ref 69, .int v1, .int v2, .int v3, .int v4, .int v5] (aw_s I L D) Q := by
  have e20 : I 69 2 + (20 : Int32) = nI (z + 20) := by rw [h, show (20 : Int32) = nI 20 from rfl, nI_add]
  have c20 : (I 69 2 + (20 : Int32) ≤ 540) = (z + 20 ≤ 540) := by rw [e20]; exact nI_le' (b := 540) (by omega) (by decide)
  have h' : aw_u I 69 0 0 69 2 = nI z := by rw [au_k (by decide)]; exact h
  refine aw_go rfl rfl (b_M_feed_0 (fun q => ?_) (fun q => h0 (by rw [c20] at q; exact q)))
  rw [c20] at q
  refine c_M_come h' (by omega) (fun I1 a1 b1 f1 => b_M_feed_25 (c_M_come b1 (by omega) (fun I2 a2 b2 f2 => b_M_feed_30 (c_M_come b2 (by omega) (fun I3 a3 b3 f3 => b_M_feed_35 (c_M_come b3 (by omega) (fun I4 a4 b4 f4 => b_M_feed_41 (c_M_come b4 (by omega) (fun I5 a5 b5 f5 => b_M_feed_47 ?_)))))))))
  rw [b5]
  have ff : ∀ o k, o ≠ 70 → ¬ (o = 69 ∧ k = 2) → I5 o k = aw_u I 69 0 0 o k := fun o k a b => (f5 o k a b).trans ((f4 o k a b).trans ((f3 o k a b).trans ((f2 o k a b).trans (f1 o k a b))))
  refine h1 q I5 (by rw [a5, a4, a3, a2, a1, au_o (by decide)]; rfl) b5 (by rw [ff 69 0 (by decide) (by omega), au_s]) (fun o k a b => (ff o k a (by omega)).trans (au_ok (by omega)))
/-- the class's feed, then the reference's -/
theorem q_feed {v1 v2 v3 v4 v5 : Int32} (h : RT I) (hQ : ∀ r I1, (∀ o k, o ≠ 3 → ¬ (o = 2 ∧ k = 1) → I1 o k = I o k) →
      (∀ (Q2 : Option Value → aw_H → Prop), (∀ I2, RT I2 → I2 69 0 = 0 → (∀ o k, o ≠ 70 → ¬ (o = 69 ∧ (k = 0 ∨ k = 2)) → I2 o k = I1 o k) → Q2 (some (.int r)) (aw_s I2 L D)) → aw_m X (d2 + 1) y_M_feed [.ref 69, .int v1, .int v2, .int v3, .int v4, .int v5] (aw_s I1 L D) Q2) → Q (some (.int r)) (aw_s I1 L D)) :
    aw_m X (d + 1) y_AW_feed [.ref 0, .int v1, .int v2, .int v3, .int v4, .int v5] (aw_s I L D) Q := by
  obtain ⟨z, hz, t1, t2, t3⟩ := h
  refine c_AW_feed hz t1 (fun hl I1 a1 b1 f1 => hQ _ I1 f1 (fun Q2 hQ2 => ?_)) (fun hl => hQ _ I (fun _ _ _ _ => rfl) (fun Q2 hQ2 => ?_))
  · have e69 : I1 69 2 = nI z := (f1 69 2 (by decide) (by omega)).trans t2
    have e70 : ∀ j, I1 70 j = I 70 j := fun j => f1 70 j (by decide) (by omega)
    refine c_M_feed hz e69 (fun _ I2 a2 b2 c2 f2 => hQ2 I2 ⟨z + 20, hl, ?_, b2, fun j hj => ?_⟩ c2 f2) (fun x => absurd hl x)
    · rw [f2 2 1 (by decide) (by omega)]; exact b1
    · rw [f2 3 j (by decide) (by omega), a1, a2]
      exact tp20_eq (fun j hj => by rw [e70 j]; exact t3 j hj) j hj
  · exact c_M_feed hz t2 (fun x => absurd x hl) (fun _ => hQ2 _ ⟨z, hz, by rw [au_o (by decide)]; exact t1, by rw [au_k (by decide)]; exact t2, fun j hj => by rw [au_o (by decide), au_o (by decide)]; exact t3 j hj⟩ (au_s _ _ _ _) (fun o k a b => au_ok (by omega)))
theorem q_end {v1 : Int32} (h : RT I) (hQ : ∀ r I1, (∀ o k, ¬ (o = 2 ∧ k = 1) → I1 o k = I o k) →
      (∀ (Q2 : Option Value → aw_H → Prop), (∀ I2, RT I2 → I2 69 0 = 0 → (∀ o k, ¬ (o = 69 ∧ (k = 0 ∨ k = 2)) → I2 o k = I1 o k) → Q2 (some (.int r)) (aw_s I2 L D)) → aw_m X d2 y_M_end [.ref 69, .int v1] (aw_s I1 L D) Q2) → Q (some (.int r)) (aw_s I1 L D)) :
    aw_m X (d + 1) y_AW_end [.ref 0, .int v1] (aw_s I L D) Q := by
  obtain ⟨z, hz, t1, t2, t3⟩ := h
  have B0 := @b_Tp_cut_0 X d (fun r A => aw_z X (d + 1) y_AW_end Q 8 [none, none] (r.toList ++ []) A) I L D v1
  rw [t1] at B0
  have st : ¬ (¬ v1 < 0 ∧ v1 ≤ nI z) → aw_z X (d + 1) y_AW_end Q 8 [none, none] [.int 0] (aw_s I L D) := fun q => by
    refine b_AW_end_8 (Or.inl rfl) (hQ 0 I (fun _ _ _ => rfl) (fun Q2 hQ2 => ?_))
    have u : Q2 (some (.int 0)) (aw_s (aw_u I 69 0 0) L D) := hQ2 _ ⟨z, hz, by rw [au_o (by decide)]; exact t1, by rw [au_k (by decide)]; exact t2, fun j hj => by rw [au_o (by decide), au_o (by decide)]; exact t3 j hj⟩ (au_s _ _ _ _) (fun o k b => au_ok (by omega))
    exact aw_go rfl rfl (b_M_end_0 (fun _ => u) (fun a b => absurd ⟨a, by rw [t2] at b; exact b⟩ q) (fun _ _ => u))
  refine aw_go rfl rfl (b_AW_end_0 (aw_go rfl rfl (B0 (fun a => st (fun x => x.1 a)) (fun a b => ?_) (fun a b => st (fun x => b x.2)))))
  obtain ⟨m, hm, rfl⟩ : ∃ m, m ≤ z ∧ v1 = nI m := by
    obtain ⟨m, e, hm⟩ := i32_nat a
    rw [e, nI_leI hm (by omega)] at b
    exact ⟨m, b, e⟩
  refine b_AW_end_8 (Or.inr rfl) (hQ 1 _ (fun o k b => au_ok (by omega)) (fun Q2 hQ2 => ?_))
  refine aw_go rfl rfl (b_M_end_0 (fun x => absurd x a) (fun _ _ => hQ2 _ ⟨m, by omega, ?_, au_s _ _ _ _, fun j hj => ?_⟩ ?_ (fun o k b => ?_)) (fun _ x => absurd ?_ x))
  · rw [au_o (by decide), au_o (by decide), au_s]
  · rw [au_o (by decide), au_o (by decide), au_o (by decide), au_o (by decide), au_o (by decide), au_o (by decide)]; exact t3 j (by omega)
  · rw [au_k (by decide), au_s]
  · rw [au_ok (by omega), au_ok (by omega)]
  · rw [au_o (by decide), t2]; exact b
end TAPE
