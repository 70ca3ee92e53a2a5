/-! PART 9a: runs of rows, one after another: what they answer, what they leave -/
/-- a row's run comes to that end -/
def RT1 (S : PT) (B T O F r : Nat) (rule : Int32) (E : PE) : Prop := ∃ N, p_run (cP S) (mk B) F (ansF B T O (nI r) rule) N (ps0 (cB S) (rowNm B T (nI r)) (fun _ => 0)) = some E
theorem runs_ex {S : PT} {B T O F : Nat} {rule : Int32} (hS : PG S) (hk : SZok B T O) (hF : 0 < F) (hr : ¬ rule < 0 → rg B rule) : ∃ E : Nat → PE, ∀ r, RT1 S B T O F r rule (E r) ∧ p_end B F (E r) := by
  have h : ∀ r, ∃ E, RT1 S B T O F r rule E ∧ p_end B F E := fun r => by
    obtain ⟨N, E, a, b⟩ := run_ex (F := F) hS.1 hk.2.1 hF (ansF_rg (T := T) (O := O) (row := nI r) hk.2.1 hr) (nm := rowNm B T (nI r)) (cl := fun _ => 0) (fun k _ => rowNm_rg hk.2.1 k) (fun _ _ => rg_0 B)
    exact ⟨E, ⟨N, a⟩, b⟩
  exact Classical.axiomOfChoice h
/-- what runs of the class leave -/
def KFr (I0 I : Nat → Nat → Int32) (L0 L : Nat → Nat → Int64) : Prop := (∀ o, o ≠ 4 → o ≠ 5 → o ≠ 6 → o ≠ 7 → o ≠ 8 → o ≠ 10 → I o = I0 o) ∧ I 4 19 = I0 4 19 ∧ ∀ o, o ≠ 4 → o ≠ 9 → L o = L0 o
theorem KFr.rf {I : Nat → Nat → Int32} {L : Nat → Nat → Int64} : KFr I I L L := ⟨fun _ _ _ _ _ _ _ => rfl, rfl, fun _ _ _ => rfl⟩
theorem KFr.tr {I0 I1 I2 : Nat → Nat → Int32} {L0 L1 L2 : Nat → Nat → Int64} (a : KFr I0 I1 L0 L1) (b : KFr I1 I2 L1 L2) : KFr I0 I2 L0 L2 :=
  ⟨fun o h1 h2 h3 h4 h5 h6 => (b.1 o h1 h2 h3 h4 h5 h6).trans (a.1 o h1 h2 h3 h4 h5 h6), b.2.1.trans a.2.1, fun o h1 h2 => (b.2.2 o h1 h2).trans (a.2.2 o h1 h2)⟩
theorem KLE.k {I0 I : Nat → Nat → Int32} {L0 L : Nat → Nat → Int64} {E : PE} (h : KLE I0 L0 I L E) : KFr I0 I L0 L := by
  obtain ⟨e, sp, pc, stk, cs, nm, cl, sp0, bg, ds, ak, ys, tr⟩ := E
  obtain ⟨a, b, c, -⟩ := h
  exact ⟨a, b 19 (by decide) (by decide) (by decide) (by decide) (by decide) (by decide) (by decide) (by decide) (by decide) (by decide) (by decide), c⟩
/-- what runs of the reference leave -/
def MFr (I0 I : Nat → Nat → Int32) (L0 L : Nat → Nat → Int64) : Prop := (∀ o, o ≠ 69 → o ≠ 84 → o ≠ 85 → o ≠ 86 → o ≠ 87 → o ≠ 88 → I o = I0 o) ∧ (∀ k, k ≠ 25 → k ≠ 42 → k ≠ 43 → k ≠ 44 → k ≠ 45 → I 69 k = I0 69 k) ∧ (∀ o, o ≠ 69 → L o = L0 o) ∧ ∀ k, k ≠ 46 → k ≠ 47 → L 69 k = L0 69 k
theorem MFr.rf {I : Nat → Nat → Int32} {L : Nat → Nat → Int64} : MFr I I L L := ⟨fun _ _ _ _ _ _ _ => rfl, fun _ _ _ _ _ _ => rfl, fun _ _ => rfl, fun _ _ _ => rfl⟩
theorem MFr.tr {I0 I1 I2 : Nat → Nat → Int32} {L0 L1 L2 : Nat → Nat → Int64} (a : MFr I0 I1 L0 L1) (b : MFr I1 I2 L1 L2) : MFr I0 I2 L0 L2 :=
  ⟨fun o h1 h2 h3 h4 h5 h6 => (b.1 o h1 h2 h3 h4 h5 h6).trans (a.1 o h1 h2 h3 h4 h5 h6), fun k h1 h2 h3 h4 h5 => (b.2.1 k h1 h2 h3 h4 h5).trans (a.2.1 k h1 h2 h3 h4 h5), fun o h => (b.2.2.1 o h).trans (a.2.2.1 o h), fun k h1 h2 => (b.2.2.2 k h1 h2).trans (a.2.2.2 k h1 h2)⟩
theorem MRE.m {I0 I : Nat → Nat → Int32} {L0 L : Nat → Nat → Int64} {E : PE} (h : MRE I0 L0 I L E) (h48 : I0 69 48 = 0) : MFr I0 I L0 L := by
  obtain ⟨e, sp, pc, stk, cs, nm, cl, sp0, bg, ds, ak, ys, tr⟩ := E
  obtain ⟨⟨b1, b2, b3, b4⟩, ⟨-, -, -, -, -, -, -, c8, c9⟩, -⟩ := h
  rw [h48, if_neg (by decide)] at c8 c9
  refine ⟨fun o h1 h2 h3 h4 h5 h6 => ?_, b2, fun o h1 => ?_, b4⟩
  · by_cases q : o = 90
    · subst q; exact c9
    · exact b1 o h1 h2 h3 h4 h5 h6 q
  · by_cases q : o = 89
    · subst q; exact c8
    · exact b3 o h1 q
/-- the class is ready to run a program -/
def KIn (S : PT) (c B T O : Nat) (I : Nat → Nat → Int32) (L : Nat → Nat → Int64) : Prop := PG S ∧ c ∈ aw_codes ∧ KCd S c I L ∧ SZok B T O ∧ I 1 0 = nI B ∧ I 1 1 = nI T ∧ I 1 2 = nI O
theorem KIn.fr {S : PT} {c B T O : Nat} {I I' : Nat → Nat → Int32} {L L' : Nat → Nat → Int64} (h : KIn S c B T O I L) (f : KFr I I' L L') : KIn S c B T O I' L' := by
  obtain ⟨a, b, k, e, s1, s2, s3⟩ := h
  obtain ⟨b1, b2⟩ := codes_bd b
  have e1 := f.1 1 (by decide) (by decide) (by decide) (by decide) (by decide) (by decide)
  exact ⟨a, b, k.fr (fun o x y => f.1 o (by omega) (by omega) (by omega) (by omega) (by omega) (by omega)) (by rw [f.2.2 c (by omega) (by omega)]), e, by rw [e1]; exact s1, by rw [e1]; exact s2, by rw [e1]; exact s3⟩
def p_outM : PE → Int32
  | (e, _, (_, _, _, nm, _, _, _, _, _, _, _)) => if e = 0 then 100 + nm 7 else e
/-- the answers say the same -/
theorem out_val {B F : Nat} {E : PE} (hB : B ≤ 6) (h : p_end B F E) : ∃ x, x < 106 ∧ p_out E = nI x ∧ p_outM E = nI (if x < 64 then 100 + x else x - 100) ∧ (64 ≤ x → 101 ≤ x) := by
  obtain ⟨e, sp, pc, stk, cs, nm, cl, sp0, bg, ds, ak, ys, tr⟩ := E
  obtain ⟨⟨j, hj, rfl⟩, -, hn, -⟩ := h
  have p6 : 2 ^ B ≤ 64 := Nat.pow_le_pow_right (n := 2) (by decide) hB
  obtain ⟨x, hx, ex⟩ := hn 7 (by decide)
  show ∃ x, x < 106 ∧ (if nI j = 0 then nm 7 else 100 + nI j) = nI x ∧ (if nI j = 0 then 100 + nm 7 else nI j) = _ ∧ _
  have e0 : (nI j = (0 : Int32)) = (j = 0) := eqI (k := 0) (by omega) (by decide)
  by_cases q : j = 0
  · refine ⟨x, by omega, by rw [if_pos (by rw [e0]; exact q)]; exact ex, ?_, by omega⟩
    rw [if_pos (by rw [e0]; exact q), if_pos (by omega), ex, show (100 : Int32) = nI 100 from rfl, nI_add]
  · refine ⟨100 + j, by omega, ?_, ?_, by omega⟩
    · rw [if_neg (by rw [e0]; exact q), show (100 : Int32) = nI 100 from rfl, nI_add]
    · rw [if_neg (by rw [e0]; exact q), if_neg (by omega), show 100 + j - 100 = j by omega]
section ROWS
variable {X : aw_X} {d : Nat} {Q : Option Value → aw_H → Prop} {I : Nat → Nat → Int32} {L : Nat → Nat → Int64} {D : Nat → Nat} {S : PT} {c s B T O F r : Nat} {E : PE}
theorem p_E1 {E : PE} : ∃ e sp R, E = (e, sp, R) := ⟨_, _, _, rfl⟩
theorem k_launchA {rule : Int32} (h : KIn S c B T O I L) (h0 : 0 < F) (h4 : F ≤ 40) (hr : r < 2 ^ (B * (T + O))) (hrule : rule = -1 ∨ rg B rule) (hE : RT1 S B T O F r rule E) (hQ : ∀ I' L', KFr I I' L L' → Q (some (.int E.1)) (aw_s I' L' D)) : aw_m X (d + 4) y_Mc_launchAnswered [.ref 4, .ref c, .int (nI r), .int (nI F), .int rule] (aw_s I L D) Q := by
  obtain ⟨a, b, k, e, s1, s2, s3⟩ := h
  obtain ⟨N, hN⟩ := hE
  exact c_Mc_launchAnswered a.1 b k.1 k.2.1 s1 s2 e h0 h4 hrule hr hN (fun I' L' h => hQ I' L' h.k)
theorem k_launch (h : KIn S c B T O I L) (h0 : 0 < F) (h4 : F ≤ 40) (hr : r < 2 ^ (B * (T + O))) (hE : RT1 S B T O F r (-1) E) (hQ : ∀ I' L', KFr I I' L L' → Q (some (.int E.1)) (aw_s I' L' D)) : aw_m X (d + 5) y_Mc_launch [.ref 4, .ref c, .int (nI r), .int (nI F)] (aw_s I L D) Q := by
  obtain ⟨a, b, k, e, s1, s2, s3⟩ := h
  obtain ⟨N, hN⟩ := hE
  exact c_Mc_launch a.1 b k.1 k.2.1 s1 s2 e h0 h4 hr hN (fun I' L' h => hQ I' L' h.k)
end ROWS
