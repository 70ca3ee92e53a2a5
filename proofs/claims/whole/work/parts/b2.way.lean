/-! PART b2: what is told of a way -/
def wyV (E : Nat → PE) (wl wc : Nat → Nat) (i k : Nat) : Int32 := if k = 0 then eE (E (wl i)) else if k = 1 then eS (E (wl i)) else if k = 2 then nI (eD (E (wl i))).length else if k = 3 then nI (wc i) else if k = 4 then nI (wl i) else nI (eB (E (wl i)))
section WAYV
variable {X : aw_X} {d : Nat} {Q : Option Value → aw_H → Prop} {I : Nat → Nat → Int32} {L : Nat → Nat → Int64} {D : Nat → Nat} {S : PT} {F B T O n : Nat} {E : Nat → PE} {wl wc wi : Nat → Nat}
theorem c_Wk_ofWay {i k : Nat} (h : RWd S F B T O E n wl wc wi I L) (hi : i < n) (hk : k < 6) (hQ : Q (some (.int (wyV E wl wc i k))) (aw_s I L D)) : aw_m X (d + 1) y_Wk_ofWay [.ref 11, .int (nI i), .int (nI k)] (aw_s I L D) Q := by
  have hR := rows_lt h.1.2.2.2.1
  have hF := h.1.2.2.1
  have le := h.2.2.1.2.2.2.2.1.le
  have lw := h.2.2.1.2.2.2.2.1.1 i hi
  obtain ⟨k15, k17, k16⟩ := h.2.2.1.2.2.2.2.2.1.2 i hi
  obtain ⟨-, k13, -⟩ := h.2.2.1.2.2.2.1 (wl i) lw
  have hE := h.1.2.2.2.2.2.1 (wl i)
  refine aw_go rfl rfl (b_Wk_ofWay_0 (c_valueAtJ (N := 4096) (by decide) rfl (by decide) (show i < 4096 by omega) (b_Wk_ofWay_8 (c_valueAtN (N := 4096) (by decide) rfl (by decide) (show i < 4096 by omega) (b_Wk_ofWay_17 (by
    rw [k17]
    refine c_valueAtN (N := 4096) (by decide) rfl (by decide) (show wl i < 4096 by omega) ?_
    rw [k15, k13]
    unfold wyV at hQ
    rcases (show k = 0 ∨ k = 1 ∨ k = 2 ∨ k = 3 ∨ k = 4 ∨ k = 5 by omega) with e | e | e | e | e | e <;> subst e
    · exact b_Wk_ofWay_28 (fun _ => c_endOf hF hE (b_Wk_ofWay_68 hQ)) (fun z => absurd (by decide) z) (fun z => absurd (by decide) z) (fun z => absurd (by decide) z) (fun z => absurd (by decide) z) (fun z => absurd (by decide) z) (fun z => absurd (by decide) z)
    · exact b_Wk_ofWay_28 (fun z => absurd z (by decide)) (fun _ _ => hQ) (fun _ z => absurd (by decide) z) (fun _ z => absurd (by decide) z) (fun _ z => absurd (by decide) z) (fun _ z => absurd (by decide) z) (fun _ z => absurd (by decide) z)
    · exact b_Wk_ofWay_28 (fun z => absurd z (by decide)) (fun _ z => absurd z (by decide)) (fun _ _ _ => c_decisionsOf hF hE (b_Wk_ofWay_76 hQ)) (fun _ _ z => absurd (by decide) z) (fun _ _ z => absurd (by decide) z) (fun _ _ z => absurd (by decide) z) (fun _ _ z => absurd (by decide) z)
    · exact b_Wk_ofWay_28 (fun z => absurd z (by decide)) (fun _ z => absurd z (by decide)) (fun _ _ z => absurd z (by decide)) (fun _ _ _ _ => c_valueAtN (N := 4096) (by decide) rfl (by decide) (show i < 4096 by omega) (by rw [k16]; exact b_Wk_ofWay_85 hQ)) (fun _ _ _ z => absurd (by decide) z) (fun _ _ _ z => absurd (by decide) z) (fun _ _ _ z => absurd (by decide) z)
    · exact b_Wk_ofWay_28 (fun z => absurd z (by decide)) (fun _ z => absurd z (by decide)) (fun _ _ z => absurd z (by decide)) (fun _ _ _ z => absurd z (by decide)) (fun _ _ _ _ _ => hQ) (fun _ _ _ _ z => absurd (by decide) z) (fun _ _ _ _ z => absurd (by decide) z)
    · refine b_Wk_ofWay_28 (fun z => absurd z (by decide)) (fun _ z => absurd z (by decide)) (fun _ _ z => absurd z (by decide)) (fun _ _ _ z => absurd z (by decide)) (fun _ _ _ _ z => absurd z (by decide)) (fun _ _ _ _ _ z => c_placeOf hF hE (b_Wk_ofWay_108 ?_)) (fun _ _ _ _ _ z => c_placeOf hF hE (b_Wk_ofWay_99 (b_Wk_ofWay_108 ?_)))
      · have : nHlt (E (wl i)) = 0 := by unfold nHlt; rw [if_neg z]
        rw [this]; exact hQ
      · have : nHlt (E (wl i)) = 1 := by unfold nHlt; rw [if_pos z]
        rw [this, show (1 : Int32) = nI 1 from rfl, pk_sub (by omega), Nat.add_sub_cancel]; exact hQ))))))
theorem c_M_way1 {i k : Nat} (h : RWd S F B T O E n wl wc wi I L) (hi : i < n) (hk : k < 6) (w : ∀ (d : Nat) (Q : Option Value → aw_H → Prop), Q (some (.int 1)) (aw_s I L D) → aw_m X d y_M_isWay [.ref 69, .int (nI i)] (aw_s I L D) Q) (hQ : Q (some (.int (wyV E wl wc i k))) (aw_s (aw_u I 69 0 0) L D)) : aw_m X (d + 1) y_M_way [.ref 69, .int (nI i), .int (nI k)] (aw_s I L D) Q := by
  have hR := rows_lt h.1.2.2.2.1
  have le := h.2.2.1.2.2.2.2.1.le
  have lw := h.2.2.1.2.2.2.2.1.1 i hi
  have vi := aw_in_nI (show i < 4096 by omega) (show 4096 < 2 ^ 31 by decide)
  have ic : (nI i).toNatClampNeg = i := nI_clamp (by omega)
  obtain ⟨e98, e99⟩ := h.2.2.2.2.2.2.2.1.2 i hi
  have vw : vp_in (I 98 (nI i).toNatClampNeg) 4096 := by rw [ic, e98]; exact aw_in_nI (by omega) (by decide)
  have wcl : (nI (wl i)).toNatClampNeg = wl i := nI_clamp (by omega)
  obtain ⟨-, -, m93, m94, m95, m96⟩ := h.2.2.2.2.2.2.1.1 (wl i) lw
  have in5 : p_b (decide ((0 : Int32) ≤ nI k) && decide (nI k ≤ 5)) = 1 := by
    have : (decide ((0 : Int32) ≤ nI k) && decide (nI k ≤ 5)) = true := isInB.mpr ⟨nI_pos (by omega), by rw [show (5 : Int32) = nI 5 from rfl, nI_ltI (by decide) (by omega)]; omega⟩
    rw [this]; rfl
  refine aw_go rfl rfl (b_M_way_0 (w _ _ (b_M_way_5 (fun z => absurd z (by decide)) (fun _ => c_M_isIn ?_))))
  rw [in5]
  unfold wyV at hQ
  have no : ∀ {P : Prop}, ¬ (1 : Int32) = 0 → (¬ (1 : Int32) = 0 → P) → P := fun a b => b a
  have B0 := @b_M_way_14 X d Q I L D (nI i) (nI k) 1
  rw [ic, e98, wcl, m93, m94, m95, m96, e99] at B0
  rw [ic, e98] at vw
  rcases (show k = 0 ∨ k = 1 ∨ k = 2 ∨ k = 3 ∨ k = 4 ∨ k = 5 by omega) with e | e | e | e | e | e <;> subst e
  · exact B0 (fun _ => vi) (fun _ _ => vw) (fun _ _ => hQ) (fun _ z => absurd (by decide) z) (fun _ z => absurd (by decide) z) (fun _ z => absurd (by decide) z) (fun _ z => absurd (by decide) z) (fun _ z => absurd (by decide) z) (fun _ z => absurd (by decide) z) (fun _ z => absurd (by decide) z) (fun _ z => absurd (by decide) z) (fun _ z => absurd (by decide) z) (fun z => absurd z (by decide))
  · exact B0 (fun _ => vi) (fun _ _ => vw) (fun _ z => absurd z (by decide)) (fun _ _ _ => vw) (fun _ _ _ => hQ) (fun _ _ z => absurd (by decide) z) (fun _ _ z => absurd (by decide) z) (fun _ _ z => absurd (by decide) z) (fun _ _ z => absurd (by decide) z) (fun _ _ z => absurd (by decide) z) (fun _ _ z => absurd (by decide) z) (fun _ _ z => absurd (by decide) z) (fun z => absurd z (by decide))
  · exact B0 (fun _ => vi) (fun _ _ => vw) (fun _ z => absurd z (by decide)) (fun _ _ _ => vw) (fun _ _ z => absurd z (by decide)) (fun _ _ _ _ => vw) (fun _ _ _ _ => hQ) (fun _ _ _ z => absurd (by decide) z) (fun _ _ _ z => absurd (by decide) z) (fun _ _ _ z => absurd (by decide) z) (fun _ _ _ z => absurd (by decide) z) (fun _ _ _ z => absurd (by decide) z) (fun z => absurd z (by decide))
  · exact B0 (fun _ => vi) (fun _ _ => vw) (fun _ z => absurd z (by decide)) (fun _ _ _ => vw) (fun _ _ z => absurd z (by decide)) (fun _ _ _ _ => vw) (fun _ _ _ z => absurd z (by decide)) (fun _ _ _ _ _ => vi) (fun _ _ _ _ _ => hQ) (fun _ _ _ _ z => absurd (by decide) z) (fun _ _ _ _ z => absurd (by decide) z) (fun _ _ _ _ z => absurd (by decide) z) (fun z => absurd z (by decide))
  · exact B0 (fun _ => vi) (fun _ _ => vw) (fun _ z => absurd z (by decide)) (fun _ _ _ => vw) (fun _ _ z => absurd z (by decide)) (fun _ _ _ _ => vw) (fun _ _ _ z => absurd z (by decide)) (fun _ _ _ _ _ => vi) (fun _ _ _ _ z => absurd z (by decide)) (fun _ _ _ _ _ _ => hQ) (fun _ _ _ _ _ z => absurd (by decide) z) (fun _ _ _ _ _ z => absurd (by decide) z) (fun z => absurd z (by decide))
  · exact B0 (fun _ => vi) (fun _ _ => vw) (fun _ z => absurd z (by decide)) (fun _ _ _ => vw) (fun _ _ z => absurd z (by decide)) (fun _ _ _ _ => vw) (fun _ _ _ z => absurd z (by decide)) (fun _ _ _ _ _ => vi) (fun _ _ _ _ z => absurd z (by decide)) (fun _ _ _ _ _ z => absurd z (by decide)) (fun _ _ _ _ _ _ => vw) (fun _ _ _ _ _ _ => hQ) (fun z => absurd z (by decide))
end WAYV
