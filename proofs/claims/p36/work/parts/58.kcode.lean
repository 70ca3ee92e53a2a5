/-! PART 58: the class's code: steps and places -/
section KCODE2
variable {X : aw_X} {d : Nat} {Q : Option Value → aw_H → Prop} {I : Nat → Nat → Int32} {L : Nat → Nat → Int64} {D : Nat → Nat}
theorem c_valueAt20 {o j : Nat} (ho : o ∈ aw_ta20) (h20 : (aw_sh o).2 = 20) (hj : j < 20) (h : Q (some (.int (I o j))) (aw_s I L D)) : aw_m X d y_AW_valueAt_aII [.ref o, .int (nI j)] (aw_s I L D) Q := by
  have B0 := @b_AW_valueAt_aII_0 X d Q I L D o (nI j) ho
  have p0 : ¬ nI j < 0 := nI_pos (by omega)
  have p1 : ¬ (Int32.ofNat 20) ≤ nI j := by
    have : ((Int32.ofNat 20) ≤ nI j) = (20 ≤ j) := nI_le' (a := 20) (by decide) (by omega)
    rw [this]; omega
  rw [h20, nI_clamp (show j < 2 ^ 31 by omega)] at B0
  exact aw_go rfl rfl (B0 (fun q => absurd q p0) (fun _ q => absurd q p1) (fun _ _ => aw_in_nI hj (by decide)) (fun _ _ => h))
theorem codes_20 {c : Nat} (hc : c ∈ aw_codes) : (c + 3 ∈ aw_ta20 ∧ (aw_sh (c + 3)).2 = 20) ∧ c + 4 ∈ aw_ta20 ∧ (aw_sh (c + 4)).2 = 20 := by
  have hc2 : c = 30 ∨ c = 35 ∨ c = 40 ∨ c = 45 ∨ c = 50 ∨ c = 55 := by simpa [aw_codes] using hc
  rcases hc2 with rfl | rfl | rfl | rfl | rfl | rfl <;> exact ⟨⟨by decide, by decide⟩, by decide, by decide⟩
/-- a step is begun: v1: it decides (IF), v2: it is a WHILE -/
theorem c_Cd_beginStep {c n s : Nat} {v1 v2 : Int32} (hc : c ∈ aw_codes) (hn : I c 4 = nI n) (h6 : n < 600) (hs : I c 6 = nI s)
    (h0 : v2 = 0 → Q none (aw_s (aw_u (aw_u (aw_u (aw_u I (c + 1) n (if v1 = 0 then 20 else 21)) (c + 2) n (nI s)) c 4 (nI (n + 1))) c 6 (nI (s + 1))) L D))
    (h1 : ¬ v2 = 0 → Q none (aw_s (aw_u (aw_u (aw_u (aw_u I (c + 1) n 21) (c + 2) n (nI s)) c 4 (nI (n + 1))) c 6 (nI (s + 1))) (aw_u L c 10 (L c 10 ||| ((1 : Int64) <<< ((nI s).toInt64 &&& 63)))) D)) :
    aw_m X (d + 1) y_Cd_beginStep [.ref c, .int v1, .int v2] (aw_s I L D) Q := by
  obtain ⟨e1, e2, e3, e4⟩ := codes_ne hc
  have i6 : ∀ o, aw_u (aw_u (aw_u I (c + 1) n o) (c + 2) n (nI s)) c 4 (nI (n + 1)) c 6 = nI s := fun o => by rw [au_k (by decide), au_o e2, au_o e1]; exact hs
  have k16 : ∀ o, (v2 = 0 → o = (if v1 = 0 then (20 : Int32) else 21)) → (¬ v2 = 0 → o = 21) → aw_z X (d + 1) y_Cd_beginStep Q 16 [some (.ref c), none, some (.int v2)] [.int o, .ref c] (aw_s I L D) := by
    intro o ho1 ho2
    refine b_Cd_beginStep_16 hc hc ?_
    rw [hs]
    refine c_Cd_add hc hn h6 ?_
    have B1 := @b_Cd_beginStep_23 X d Q (aw_u (aw_u (aw_u I (c + 1) n o) (c + 2) n (nI s)) c 4 (nI (n + 1))) L D c v2 hc
    rw [i6, nI_1] at B1
    refine B1 (fun q => ?_) (fun q => ?_)
    · rw [ho1 q]; exact h0 q
    · rw [ho2 q]; exact h1 q
  refine aw_go rfl rfl (b_Cd_beginStep_0 (fun q => b_Cd_beginStep_9 (k16 21 (fun _ => by rw [if_neg q]) (fun _ => rfl))) (fun q q2 => k16 20 (fun _ => by rw [if_pos q]) (fun h => absurd q2 h)) (fun _ q2 => b_Cd_beginStep_9 (k16 21 (fun h => absurd h q2) (fun _ => rfl))))
end KCODE2
