/-! PART 94: feed and end: class and reference have one tape -/
theorem tp4_lo {f : Nat → Int32} {n j : Nat} {w : Int32} (h : j < n) : tp4 f n w j = f j := by
  unfold tp4
  rw [up_n _ _ (by omega), up_n _ _ (by omega), up_n _ _ (by omega), up_n _ _ (by omega)]
theorem tp4_eq {f g : Nat → Int32} {n : Nat} {w : Int32} (h : ∀ j, j < n → f j = g j) : ∀ j, j < n + 4 → tp4 f n w j = tp4 g n w j := fun j hj => by
  by_cases q : j < n
  · rw [tp4_lo q, tp4_lo q]; exact h j q
  · unfold tp4
    rcases (show j = n ∨ j = n + 1 ∨ j = n + 2 ∨ j = n + 3 by omega) with rfl | rfl | rfl | rfl
    · rw [up_n _ _ (by omega), up_n _ _ (by omega), up_n _ _ (by omega), up_s, up_n _ _ (by omega), up_n _ _ (by omega), up_n _ _ (by omega), up_s]
    · rw [up_n _ _ (by omega), up_n _ _ (by omega), up_s, up_n _ _ (by omega), up_n _ _ (by omega), up_s]
    · rw [up_n _ _ (by omega), up_s, up_n _ _ (by omega), up_s]
    · rw [up_s, up_s]
/-- one tape -/
def RT (I : Nat → Nat → Int32) : Prop := ∃ z, z ≤ 540 ∧ I 2 1 = nI z ∧ I 69 2 = nI z ∧ ∀ j, j < z → I 3 j = I 70 j
theorem RT.fr {I I' : Nat → Nat → Int32} (h : RT I) (h2 : I' 2 1 = I 2 1) (h3 : I' 3 = I 3) (h69 : I' 69 2 = I 69 2) (h70 : I' 70 = I 70) : RT I' := by
  obtain ⟨z, a, b, c, e⟩ := h
  exact ⟨z, a, h2.trans b, h69.trans c, fun j hj => by rw [h3, h70]; exact e j hj⟩
theorem i32_nat {x : Int32} (h : ¬ x < 0) : ∃ m : Nat, x = nI m ∧ m < 2 ^ 31 := by
  refine ⟨x.toNatClampNeg, ?_, ?_⟩
  · have := Int32.not_lt.mp h
    apply Int32.toInt_inj.mp
    show x.toInt = (Int32.ofNat x.toNatClampNeg).toInt
    have h3 : 0 ≤ x.toInt := Int32.le_iff_toInt_le.mp this
    have h4 : x.toInt < 2 ^ 31 := Int32.toInt_lt x
    have h5 : (x.toNatClampNeg : Int) = x.toInt := by rw [← Int32.toNat_toInt]; exact Int.toNat_of_nonneg h3
    rw [Int32.toInt_ofNat_of_lt (by omega)]
    exact h5.symm
  · have h4 : x.toInt < 2 ^ 31 := Int32.toInt_lt x
    have : (x.toInt).toNat < 2 ^ 31 := by omega
    rw [← Int32.toNat_toInt]; exact this
section TAPE
variable {X : aw_X} {d d2 : Nat} {Q : Option Value → aw_H → Prop} {I : Nat → Nat → Int32} {L : Nat → Nat → Int64} {D : Nat → Nat}
theorem c_Tp_app {v1 : Int32} {n : Nat} (hn : I 2 1 = nI n) (hl : n + 4 ≤ 540) (h : ∀ I', I' 3 = tp4 (I 3) n v1 → I' 2 1 = nI (n + 4) → (∀ o k, o ≠ 3 → ¬ (o = 2 ∧ k = 1) → I' o k = I o k) → Q none (aw_s I' L D)) : aw_m X d y_Tp_append [.ref 2, .int v1] (aw_s I L D) Q := by
  refine c_Tp_append hn hl (h _ ?_ ?_ (fun o k a b => ?_))
  · rw [aw_o_n _ _ (by decide), aw_o_s]
  · rw [aw_o_s, up_s]
  · by_cases q : o = 2
    · subst q
      rw [aw_o_s, up_n _ _ (fun x => b ⟨rfl, x⟩)]
    · rw [aw_o_n _ _ q, aw_o_n _ _ a]
/-- five numbers come -/
def tp20 (f : Nat → Int32) (n : Nat) (v1 v2 v3 v4 v5 : Int32) : Nat → Int32 := tp4 (tp4 (tp4 (tp4 (tp4 f n v1) (n + 4) v2) (n + 8) v3) (n + 12) v4) (n + 16) v5
theorem tp20_eq {f g : Nat → Int32} {n : Nat} {v1 v2 v3 v4 v5 : Int32} (h : ∀ j, j < n → f j = g j) : ∀ j, j < n + 20 → tp20 f n v1 v2 v3 v4 v5 j = tp20 g n v1 v2 v3 v4 v5 j :=
  tp4_eq (tp4_eq (tp4_eq (tp4_eq (tp4_eq h))))
theorem c_AW_feed {v1 v2 v3 v4 v5 : Int32} {z : Nat} (hz : z ≤ 540) (h : I 2 1 = nI z)
    (h1 : z + 20 ≤ 540 → ∀ I', I' 3 = tp20 (I 3) z v1 v2 v3 v4 v5 → I' 2 1 = nI (z + 20) → (∀ o k, o ≠ 3 → ¬ (o = 2 ∧ k = 1) → I' o k = I o k) → Q (some (.int (nI (z + 20)))) (aw_s I' L D))
    (h0 : ¬ z + 20 ≤ 540 → Q (some (.int (-1))) (aw_s I L D)) : aw_m X (d + 1) y_AW_feed [.ref 0, .int v1, .int v2, .int v3, .int v4, .int v5] (aw_s I L D) Q := by
  have e20 : I 2 1 + (20 : Int32) = nI (z + 20) := by rw [h, show (20 : Int32) = nI 20 from rfl, nI_add]
  have c20 : ((540 : Int32) < I 2 1 + 20) = (540 < z + 20) := by rw [e20]; exact nI_lt' (a := 540) (by decide) (by omega)
  refine aw_go rfl rfl (b_AW_feed_0 (aw_go rfl rfl (b_Tp_hasRoomFor_0 (fun q => b_AW_feed_9 (fun x => absurd rfl x) (fun _ => h0 (by rw [c20] at q; omega))) (fun q => b_AW_feed_9 (fun _ => ?_) (fun x => absurd x (by decide))))))
  rw [c20] at q
  refine c_Tp_app h (by omega) (fun I1 a1 b1 f1 => b_AW_feed_22 (c_Tp_app b1 (by omega) (fun I2 a2 b2 f2 => b_AW_feed_30 (c_Tp_app b2 (by omega) (fun I3 a3 b3 f3 => b_AW_feed_38 (c_Tp_app b3 (by omega) (fun I4 a4 b4 f4 => b_AW_feed_47 (c_Tp_app b4 (by omega) (fun I5 a5 b5 f5 => b_AW_feed_56 ?_)))))))))
  rw [b5]
  refine h1 (by omega) I5 (by rw [a5, a4, a3, a2, a1]; rfl) b5 (fun o k a b => (f5 o k a b).trans ((f4 o k a b).trans ((f3 o k a b).trans ((f2 o k a b).trans (f1 o k a b)))))
end TAPE
