/-! PART i1: the class's calls that the law makes -/
section CALLS
variable {X : aw_X} {d : Nat} {Q : Option Value → aw_H → Prop} {I : Nat → Nat → Int32} {L : Nat → Nat → Int64} {D : Nat → Nat} {S : PT} {B T O F k : Nat} {v1 v2 v3 : Int32}
theorem c_AW_sizes1 (h : szP v1 v2 v3) (hQ : Q (some (.int 1)) (aw_s (aw_u (aw_u (aw_u (aw_u I 1 0 v1) 1 1 v2) 1 2 v3) 11 0 0) L D)) : aw_m X (d + 1) y_AW_sizes [.ref 0, .int v1, .int v2, .int v3] (aw_s I L D) Q :=
  aw_go rfl rfl (b_AW_sizes_0 (c_Sz_change (fun _ => b_AW_sizes_10 (fun _ => aw_go rfl rfl (b_Wk_forget_0 (b_AW_sizes_22 hQ))) (fun x => absurd x (by decide))) (fun p => absurd h p)))
theorem c_AW_fault (hQ : Q (some (.int (I 0 9))) (aw_s I L D)) : aw_m X d y_AW_fault [.ref 0] (aw_s I L D) Q := aw_go rfl rfl (b_AW_fault_0 hQ)
theorem c_AW_got {j : Nat} (hj : j < 17) (h17 : I 0 17 = 1) (hQ : Q (some (.int (I 68 j))) (aw_s I L D)) : aw_m X d y_AW_got [.ref 0, .int (nI j)] (aw_s I L D) Q := by
  have n0 : ¬ I 0 17 = 0 := by rw [h17]; decide
  have g1 : ¬ nI j < 0 := nI_pos (by omega)
  have g2 : ¬ (17 : Int32) ≤ nI j := by rw [show (17 : Int32) = nI 17 from rfl, nI_leI (by decide) (by omega)]; omega
  refine aw_go rfl rfl (b_AW_got_0 (fun x => absurd x n0) (fun _ x => absurd x g1) (fun _ _ x => absurd x g2) (fun _ _ _ => aw_in_nI hj (by decide)) (fun _ _ _ => ?_))
  rw [nI_clamp (by omega)]; exact hQ
theorem c_AW_walk1 (hk4 : k < 4) (kin : KIn S (D k) B T O I L) (f0 : 0 < F) (f4 : F ≤ 40) (h19 : I 4 19 = 0) (hQ : ∀ I' L' E n wl wc, (∀ r, RT1 S B T O F r (-1) (E r) ∧ p_end B F (E r)) → WD S B T O F E n wl wc I' L' → FKw I I' L L' → Q (some (.int (nI n))) (aw_s I' L' D)) : aw_m X (d + 7) y_AW_walk [.ref 0, .int (nI k), .int (nI F)] (aw_s I L D) Q := by
  obtain ⟨hS, hD, kc, hk, s1, s2, s3⟩ := id kin
  refine aw_go rfl rfl (b_AW_walk_0 (c_AW_programAt hk4 (b_AW_walk_5 ?_)))
  obtain ⟨E, hE, hW⟩ := we_ex (F := F) hS hk f0
  refine c_AW_isFuel f0 f4 (b_AW_walk_14 (fun _ => c_Sz_rows hk s1 s2 s3 (b_AW_walk_31 (c_Wk_begin (d := d + 5) (S := S) (E := E) (R := 2 ^ (B * (T + O))) (wl := fun _ => 0) (wc := fun _ => 0) hD kc.2.2.2.2.1 (fun Ib Lb wb fb => b_AW_walk_34 ?_)))) (fun x => absurd x (by decide)))
  exact l_AW_walk (d := d) f0 f4 (fun r => (hE r).1) hW (I0 := I) (L0 := L) (fun I1 L1 n wl wc w fk => hQ I1 L1 E n wl wc hE ⟨hk, f4, hW, w⟩ fk) (2 ^ (B * (T + O))) 0 Ib Lb 0 (fun _ => 0) (fun _ => 0) (Nat.zero_add _) (kin.fw fb) (by rw [fb.2.1]; exact h19) wb fb
theorem c_AW_walk0 (h : (v1 < 0 ∨ (4 : Int32) ≤ v1) ∨ ((∃ k, k < 4 ∧ v1 = nI k) ∧ (v2 < 1 ∨ (40 : Int32) < v2))) (hQ : Q (some (.int (-1))) (aw_s I L D)) : aw_m X (d + 7) y_AW_walk [.ref 0, .int v1, .int v2] (aw_s I L D) Q := by
  rcases h with h | ⟨⟨k, hk4, rfl⟩, h⟩
  · exact aw_go rfl rfl (b_AW_walk_0 (c_AW_programAt0 h (b_AW_walk_5a hQ)))
  · exact aw_go rfl rfl (b_AW_walk_0 (c_AW_programAt hk4 (b_AW_walk_5 (c_AW_isFuel0 h (b_AW_walk_14 (fun x => absurd rfl x) (fun _ => hQ))))))
/-- names, cells and step of a run -/
def gotP (f : Nat → Int32) : PE → Prop
  | (_, sp, (_, _, _, nm, cl, _, _, _, _, _, _)) => (∀ j, j < 8 → f j = nm j ∧ f (8 + j) = cl j) ∧ f 16 = sp
theorem c_AW_run1 {r : Nat} {E : PE} (hk4 : k < 4) (kin : KIn S (D k) B T O I L) (f0 : 0 < F) (f4 : F ≤ 40) (hr : r < 2 ^ (B * (T + O))) (hE : RT1 S B T O F r (-1) E) (hQ : ∀ I' L', (∀ o x, ¬ (4 ≤ o ∧ o ≤ 10) → o ≠ 68 → ¬ (o = 0 ∧ x = 17) → I' o x = I o x) → (∀ o, o ≠ 4 → o ≠ 9 → L' o = L o) → I' 0 17 = 1 → gotP (I' 68) E → Q (some (.int (eE E))) (aw_s I' L' D)) :
    aw_m X (d + 6) y_AW_run [.ref 0, .int (nI k), .int (nI r), .int (nI F)] (aw_s I L D) Q := by
  obtain ⟨hS, hD, kc, hk, s1, s2, s3⟩ := id kin
  have hR := rows_lt hk
  obtain ⟨N, hN⟩ := hE
  have n2 : ¬ nI r < 0 := nI_pos (by omega)
  have m2 : ¬ nI (2 ^ (B * (T + O))) ≤ nI r := by rw [nI_leI (by omega) (by omega)]; omega
  refine aw_go rfl rfl (b_AW_run_0 (c_AW_programAt hk4 (b_AW_run_5 (fun x => absurd x n2) (fun _ => c_Sz_rows hk s1 s2 s3 (b_AW_run_24 (fun y => absurd y m2) (fun _ => c_AW_isFuel f0 f4 (b_AW_run_31 (fun _ => ?_) (fun x => absurd x (by decide)))))))))
  refine c_Mc_launch (d := d) hS.1 hD kc.1 kc.2.1 s1 s2 hk f0 f4 hr hN (fun I1 L1 h => b_AW_run_47 (c_AW_keepRun (fun I2 g1 g2 g3 g4 => b_AW_run_52 ?_)))
  obtain ⟨e, sp, pc, stk, cs, nm, cl, sp0, bg, ds, ak, ys, tr⟩ := E
  obtain ⟨a1, a2, a3, a4, a5, a6, a7⟩ := h
  rw [g1 4 15 (by decide) (by decide), a6]
  refine hQ I2 L1 (fun o x h4 h68 h0 => ?_) a3 g2 ⟨fun j hj => ?_, ?_⟩
  · rw [g1 o x h68 h0, a1 o (by omega) (by omega) (by omega) (by omega) (by omega) (by omega)]
  · obtain ⟨g5, g6⟩ := g3 j hj
    exact ⟨g5.trans (a5.1 j hj), g6.trans (a5.2.1 j hj)⟩
  · rw [g4]; exact a7
theorem c_AW_run0 (hk4 : k < 4) (kin : KIn S (D k) B T O I L) (hr : nI (2 ^ (B * (T + O))) ≤ v2) (h2 : ¬ v2 < 0) (hQ : Q (some (.int (-1))) (aw_s I L D)) : aw_m X (d + 6) y_AW_run [.ref 0, .int (nI k), .int v2, .int v3] (aw_s I L D) Q := by
  obtain ⟨hS, hD, kc, hk, s1, s2, s3⟩ := id kin
  exact aw_go rfl rfl (b_AW_run_0 (c_AW_programAt hk4 (b_AW_run_5 (fun x => absurd x h2) (fun _ => c_Sz_rows hk s1 s2 s3 (b_AW_run_24 (fun _ => hQ) (fun y => absurd hr y))))))
end CALLS
