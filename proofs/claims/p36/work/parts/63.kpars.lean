/-! PART 63: the class's reading: its state, small methods -/
def KP (c : Nat) (T : TD) (S : PT) (I : Nat → Nat → Int32) (L : Nat → Nat → Int64) : Prop :=
  KTk T.1 (tK T) (tV T) (tP T) (ti S) I ∧ I c 4 = nI (min (cn S) 600) ∧ I c 5 = nI (min (cB S) 600) ∧ I c 6 = nI (cS S) ∧ I c 7 = nI (cU S) ∧ I c 8 = nI (min (cM S) 20) ∧ I c 9 = nI (cK S) ∧ L c 10 = whL (cW S) (cS S) ∧
  (∀ j, j < min (cn S) 600 → I (c + 1) j = nI (opC (cP S j).1) ∧ I (c + 2) j = (cP S j).2) ∧ (∀ j, j < min (cM S) 20 → I (c + 3) j = nI (min (cA S j) 600)) ∧ (∀ j, j < cK S → I (c + 4) j = nI (min (cL S j) 600)) ∧ (∀ j, j < 4 → I 61 j = cR S j) ∧ cS S ≤ 60 ∧ cU S ≤ 150 ∧ cK S ≤ 20
/-- only the code differs -/
def FRC (c : Nat) (I0 I : Nat → Nat → Int32) (L0 L : Nat → Nat → Int64) : Prop := (∀ o, ¬ (c ≤ o ∧ o ≤ c + 4) → I o = I0 o) ∧ ∀ o k, ¬ (o = c ∧ k = 10) → L o k = L0 o k
/-- only the code and the reader differ -/
def FRK (c : Nat) (I0 I : Nat → Nat → Int32) (L0 L : Nat → Nat → Int64) : Prop := (∀ o, ¬ (c ≤ o ∧ o ≤ c + 4) → o ≠ 61 → o ≠ 62 → I o = I0 o) ∧ ∀ o k, ¬ (o = c ∧ k = 10) → L o k = L0 o k
/-- only the code and the reader differ, and the fault is told -/
def FRE (c : Nat) (I0 I : Nat → Nat → Int32) (L0 L : Nat → Nat → Int64) : Prop := (∀ o, ¬ (c ≤ o ∧ o ≤ c + 4) → o ≠ 60 → o ≠ 61 → o ≠ 62 → I o = I0 o) ∧ ∀ o k, ¬ (o = c ∧ k = 10) → L o k = L0 o k
theorem FRK.e {c : Nat} {I0 I : Nat → Nat → Int32} {L0 L : Nat → Nat → Int64} (a : FRK c I0 I L0 L) : FRE c I0 I L0 L := ⟨fun o h _ h2 h3 => a.1 o h h2 h3, a.2⟩
theorem FRE.tr {c : Nat} {I0 I1 I2 : Nat → Nat → Int32} {L0 L1 L2 : Nat → Nat → Int64} (a : FRE c I0 I1 L0 L1) (b : FRE c I1 I2 L1 L2) : FRE c I0 I2 L0 L2 :=
  ⟨fun o h1 h2 h3 h4 => (b.1 o h1 h2 h3 h4).trans (a.1 o h1 h2 h3 h4), fun o k h => (b.2 o k h).trans (a.2 o k h)⟩
theorem FRK.rf {c : Nat} {I : Nat → Nat → Int32} {L : Nat → Nat → Int64} : FRK c I I L L := ⟨fun _ _ _ _ => rfl, fun _ _ _ => rfl⟩
theorem FRC.rf {c : Nat} {I : Nat → Nat → Int32} {L : Nat → Nat → Int64} : FRC c I I L L := ⟨fun _ _ => rfl, fun _ _ _ => rfl⟩
theorem FRK.tr {c : Nat} {I0 I1 I2 : Nat → Nat → Int32} {L0 L1 L2 : Nat → Nat → Int64} (a : FRK c I0 I1 L0 L1) (b : FRK c I1 I2 L1 L2) : FRK c I0 I2 L0 L2 :=
  ⟨fun o h1 h2 h3 => (b.1 o h1 h2 h3).trans (a.1 o h1 h2 h3), fun o k h => (b.2 o k h).trans (a.2 o k h)⟩
theorem FRC.k {c : Nat} {I0 I1 : Nat → Nat → Int32} {L0 L1 : Nat → Nat → Int64} (a : FRC c I0 I1 L0 L1) : FRK c I0 I1 L0 L1 := ⟨fun o h _ _ => a.1 o h, a.2⟩
def KRes (c : Nat) (T : TD) (I0 : Nat → Nat → Int32) (L0 : Nat → Nat → Int64) (R : PR) (v : Int32) (I : Nat → Nat → Int32) (L : Nat → Nat → Int64) : Prop := 
  match R with
  | .ok S => FRK c I0 I L0 L ∧ v = 1 ∧ KP c T S I L
  | .error e => FRE c I0 I L0 L ∧ v = 0 ∧ I 60 3 = e.1 ∧ I 60 4 = nI (tP T e.2) ∧ e.2 ≤ T.1 ∧ ∃ S, KP c T S I L
theorem KRes.tr {c : Nat} {T : TD} {I0 I1 I2 : Nat → Nat → Int32} {L0 L1 L2 : Nat → Nat → Int64} {R : PR} {v : Int32} (a : FRK c I0 I1 L0 L1) (b : KRes c T I1 L1 R v I2 L2) : KRes c T I0 L0 R v I2 L2 := by
  cases R with
  | ok S => exact ⟨a.tr b.1, b.2⟩
  | error e => exact ⟨a.e.tr b.1, b.2⟩
theorem KRes.ok {c : Nat} {T : TD} {I0 I : Nat → Nat → Int32} {L0 L : Nat → Nat → Int64} {S : PT} (a : FRK c I0 I L0 L) (h : KP c T S I L) : KRes c T I0 L0 (.ok S) 1 I L := ⟨a, rfl, h⟩
def tOK (T : TD) : Prop := TSok T.1 (tK T) (tV T) (tP T)
/-- a reading method of the class does what the grammar says -/
def KC (X : aw_X) (c : Nat) (T : TD) (D : Nat → Nat) (N : Nat) (y : aw_Y) (av : List Value) (R : PT → PR) : Prop :=
  ∀ (e : Nat), N ≤ e → ∀ (S : PT) (I : Nat → Nat → Int32) (L : Nat → Nat → Int64) (Q : Option Value → aw_H → Prop), KP c T S I L → (∀ v I' L', KRes c T I L (R S) v I' L' → Q (some (.int v)) (aw_s I' L' D)) → aw_m X e y av (aw_s I L D) Q
theorem codes_bd {c : Nat} (h : c ∈ aw_codes) : 30 ≤ c ∧ c ≤ 55 := by
  have hc2 : c = 30 ∨ c = 35 ∨ c = 40 ∨ c = 45 ∨ c = 50 ∨ c = 55 := by simpa [aw_codes] using h
  omega
theorem KTk.fr {cnt i : Nat} {TK TV : Nat → Int32} {TP : Nat → Nat} {I I' : Nat → Nat → Int32} (h : KTk cnt TK TV TP i I) (h2 : I' 62 = I 62) (h3 : I' 63 = I 63) (h4 : I' 64 = I 64) (h5 : I' 65 = I 65) : KTk cnt TK TV TP i I' := by
  obtain ⟨a1, a2, a3, a4, a5, a6⟩ := h
  exact ⟨a1, by rw [h2]; exact a2, by rw [h2]; exact a3, by rw [h2]; exact a4, by rw [h2]; exact a5, fun j hj => by rw [h3, h4, h5]; exact a6 j hj⟩
section KPA
variable {X : aw_X} {d : Nat} {Q : Option Value → aw_H → Prop} {I : Nat → Nat → Int32} {L : Nat → Nat → Int64} {D : Nat → Nat} {c : Nat} {T : TD} {S : PT}
theorem KP.tok (h : KP c T S I L) : I 62 6 = tK T (ti S) ∧ I 62 7 = nI (tP T (ti S)) ∧ I 62 8 = tV T (ti S) ∧ ti S ≤ T.1 := ⟨h.1.2.2.1, h.1.2.2.2.1, h.1.2.2.2.2.1, h.1.1⟩
/-- what another one of the reader's tokens leaves -/
theorem KP.adv (hc : c ∈ aw_codes) (h : KP c T S I L) {I' : Nat → Nat → Int32} (hk : KTk T.1 (tK T) (tV T) (tP T) (ti S + 1) I') (hf : ∀ o, o ≠ 62 → I' o = I o) : KP c T (adv S) I' L := by
  obtain ⟨b1, b2⟩ := codes_bd hc
  obtain ⟨a0, a1, a2, a3, a4, a5, a6, a7, a8, a9, a10, a11, a12⟩ := h
  have f : ∀ k, k ≤ 4 → I' (c + k) = I (c + k) := fun k hk => hf _ (by omega)
  have f0 : I' c = I c := f 0 (by decide)
  exact ⟨hk, by rw [f0]; exact a1, by rw [f0]; exact a2, by rw [f0]; exact a3, by rw [f0]; exact a4, by rw [f0]; exact a5, by rw [f0]; exact a6, a7, fun j hj => by rw [f 1 (by decide), f 2 (by decide)]; exact a8 j hj, fun j hj => by rw [f 3 (by decide)]; exact a9 j hj, fun j hj => by rw [f 4 (by decide)]; exact a10 j hj, fun j hj => by rw [hf 61 (by decide)]; exact a11 j hj, a12⟩
/-- a field of the reader that is none of the state's -/
theorem KP.fault (hc : c ∈ aw_codes) (h : KP c T S I L) {I' : Nat → Nat → Int32} (hf : ∀ o, o ≠ 60 → I' o = I o) : KP c T S I' L := by
  obtain ⟨b1, b2⟩ := codes_bd hc
  obtain ⟨a0, a1, a2, a3, a4, a5, a6, a7, a8, a9, a10, a11, a12⟩ := h
  have f : ∀ k, k ≤ 4 → I' (c + k) = I (c + k) := fun k hk => hf _ (by omega)
  have f0 : I' c = I c := f 0 (by decide)
  exact ⟨a0.fr (hf _ (by decide)) (hf _ (by decide)) (hf _ (by decide)) (hf _ (by decide)), by rw [f0]; exact a1, by rw [f0]; exact a2, by rw [f0]; exact a3, by rw [f0]; exact a4, by rw [f0]; exact a5, by rw [f0]; exact a6, a7, fun j hj => by rw [f 1 (by decide), f 2 (by decide)]; exact a8 j hj, fun j hj => by rw [f 3 (by decide)]; exact a9 j hj, fun j hj => by rw [f 4 (by decide)]; exact a10 j hj, fun j hj => by rw [hf 61 (by decide)]; exact a11 j hj, a12⟩
theorem k_adv (hc : c ∈ aw_codes) (hT : tOK T) (h : KP c T S I L) (h0 : tK T (ti S) ≠ 0) (h1 : tK T (ti S) ≠ 1) (hQ : ∀ I', KP c T (adv S) I' L → FRK c I I' L L → Q none (aw_s I' L D)) : aw_m X d y_Tk_advance [.ref 62] (aw_s I L D) Q :=
  c_Tk_advance hT h.1 h0 h1 (fun I' k f => hQ I' (h.adv hc k f) ⟨fun o _ _ a => f o a, fun _ _ _ => rfl⟩)
theorem c_Cd_addX {n : Nat} {o a : Int32} (hc : c ∈ aw_codes) (hn : I c 4 = nI n) (h6 : 600 ≤ n) (h62 : n < 2 ^ 31) (h : Q none (aw_s I L D)) : aw_m X d y_Cd_add [.ref c, .int o, .int a] (aw_s I L D) Q := by
  obtain ⟨e1, e2, e3, e4⟩ := codes_ne hc
  have B0 := @b_Cd_add_0 X d Q I L D c o a hc
  have p1 : (600 : Int32) ≤ nI n := by
    have : ((600 : Int32) ≤ nI n) = (600 ≤ n) := nI_le' (a := 600) (by decide) h62
    rw [this]; exact h6
  rw [hn] at B0
  exact aw_go rfl rfl (B0 (fun _ => h) (fun _ _ => h) (fun _ q => absurd p1 q) (fun _ q => absurd p1 q) (fun _ q => absurd p1 q) (fun _ q => absurd p1 q))
theorem au_same {I : Nat → Nat → Int32} {o k : Nat} {v : Int32} {o' : Nat} (h : o' ≠ o) : aw_u I o k v o' = I o' := au_o h
theorem k_add {o : Nat} {a : Int32} (hc : c ∈ aw_codes) (h : KP c T S I L) (hQ : ∀ I', KP c T (em o a S) I' L → FRC c I I' L L → Q none (aw_s I' L D)) : aw_m X d y_Cd_add [.ref c, .int (nI (opC o)), .int a] (aw_s I L D) Q := by
  obtain ⟨b1, b2⟩ := codes_bd hc
  obtain ⟨a0, a1, a2, a3, a4, a5, a6, a7, a8, a9, a10, a11, a12⟩ := h
  by_cases hn : 600 ≤ cn S
  · have e1 : min (cn S) 600 = 600 := by omega
    have e2 : min (cn S + 1) 600 = 600 := by omega
    rw [e1] at a1 a8
    refine c_Cd_addX hc a1 (Nat.le_refl _) (by decide) (hQ I ⟨a0, ?_, a2, a3, a4, a5, a6, a7, fun j hj => ?_, a9, a10, a11, a12⟩ FRC.rf)
    · show I c 4 = nI (min (cn S + 1) 600)
      rw [e2]; exact a1
    · have hj : j < min (cn S + 1) 600 := hj
      rw [e2] at hj
      show I (c + 1) j = nI (opC (va_up (cP S) (cn S) (o, a) j).1) ∧ I (c + 2) j = (va_up (cP S) (cn S) (o, a) j).2
      rw [up_n _ _ (by omega)]
      exact a8 j hj
  · have e1 : min (cn S) 600 = cn S := by omega
    have e2 : min (cn S + 1) 600 = cn S + 1 := by omega
    rw [e1] at a1 a8
    refine c_Cd_add hc a1 (by omega) ?_
    generalize eI : aw_u (aw_u (aw_u I (c + 1) (cn S) (nI (opC o))) (c + 2) (cn S) a) c 4 (nI (cn S + 1)) = I'
    have f : ∀ o, o ≠ c → o ≠ c + 1 → o ≠ c + 2 → I' o = I o := fun o x y z => by rw [← eI, au_o x, au_o z, au_o y]
    have g : ∀ k, k ≠ 4 → I' c k = I c k := fun k hk => by rw [← eI, au_k hk, au_o (by omega), au_o (by omega)]
    refine hQ I' ⟨a0.fr (f _ (by omega) (by omega) (by omega)) (f _ (by omega) (by omega) (by omega)) (f _ (by omega) (by omega) (by omega)) (f _ (by omega) (by omega) (by omega)), ?_, by rw [g 5 (by decide)]; exact a2, by rw [g 6 (by decide)]; exact a3, by rw [g 7 (by decide)]; exact a4, by rw [g 8 (by decide)]; exact a5, by rw [g 9 (by decide)]; exact a6, a7, fun j hj => ?_, fun j hj => by rw [f (c + 3) (by omega) (by omega) (by omega)]; exact a9 j hj, fun j hj => by rw [f (c + 4) (by omega) (by omega) (by omega)]; exact a10 j hj, fun j hj => by rw [f 61 (by omega) (by omega) (by omega)]; exact a11 j hj, a12⟩ ⟨fun o ho => f o (by omega) (by omega) (by omega), fun _ _ _ => rfl⟩
    · show I' c 4 = nI (min (cn S + 1) 600)
      rw [e2, ← eI, au_s]
    · have hj : j < min (cn S + 1) 600 := hj
      rw [e2] at hj
      show I' (c + 1) j = nI (opC (va_up (cP S) (cn S) (o, a) j).1) ∧ I' (c + 2) j = (va_up (cP S) (cn S) (o, a) j).2
      by_cases hjn : j = cn S
      · subst hjn
        rw [up_s, ← eI]
        exact ⟨by rw [au_o (by omega), au_o (by omega), au_s], by rw [au_o (by omega), au_s]⟩
      · rw [up_n _ _ hjn, ← eI]
        rw [au_o (by omega), au_o (by omega), au_k hjn, au_o (by omega), au_k hjn, au_o (by omega)]
        exact a8 j (by omega)
theorem c_Cd_changeX {n j : Nat} {a : Int32} (hc : c ∈ aw_codes) (hn : I c 4 = nI n) (h6 : n ≤ 600) (hj : n ≤ j) (hj2 : j < 2 ^ 31) (h : Q none (aw_s I L D)) : aw_m X d y_Cd_change [.ref c, .int (nI j), .int a] (aw_s I L D) Q := by
  have B0 := @b_Cd_change_0 X d Q I L D c (nI j) a hc
  have p0 : ¬ nI j < 0 := nI_pos hj2
  have p1 : nI n ≤ nI j := by rw [nI_leI (by omega) hj2]; exact hj
  rw [hn] at B0
  exact aw_go rfl rfl (B0 (fun q => absurd q p0) (fun _ _ => h) (fun _ q => absurd p1 q) (fun _ q => absurd p1 q) (fun _ q => absurd p1 q))
theorem k_pat {j : Nat} {n : Nat} (hc : c ∈ aw_codes) (h : KP c T S I L) (hjn : n = min (cn S) 600) (hQ : ∀ I', KP c T (pat j S) I' L → FRC c I I' L L → Q none (aw_s I' L D)) : aw_m X d y_Cd_change [.ref c, .int (nI (min j 600)), .int (nI n)] (aw_s I L D) Q := by
  subst hjn
  obtain ⟨b1, b2⟩ := codes_bd hc
  obtain ⟨a0, a1, a2, a3, a4, a5, a6, a7, a8, a9, a10, a11, a12⟩ := h
  by_cases hj : j < min (cn S) 600
  · have e1 : min j 600 = j := by omega
    rw [e1]
    refine c_Cd_change hc a1 (by omega) hj (hQ _ ⟨a0.fr (au_o (by omega)) (au_o (by omega)) (au_o (by omega)) (au_o (by omega)), ?_, by rw [au_o (by omega)]; exact a2, by rw [au_o (by omega)]; exact a3, by rw [au_o (by omega)]; exact a4, by rw [au_o (by omega)]; exact a5, by rw [au_o (by omega)]; exact a6, a7, fun i hi => ?_, fun i hi => by rw [au_o (by omega)]; exact a9 i hi, fun i hi => by rw [au_o (by omega)]; exact a10 i hi, fun i hi => by rw [au_o (by omega)]; exact a11 i hi, a12⟩ ⟨fun o ho => au_o (by omega), fun _ _ _ => rfl⟩)
    · rw [au_o (by omega)]; exact a1
    · show aw_u I (c + 2) j (nI (min (cn S) 600)) (c + 1) i = nI (opC (va_up (cP S) j ((cP S j).1, nI (min (cn S) 600)) i).1) ∧ aw_u I (c + 2) j (nI (min (cn S) 600)) (c + 2) i = (va_up (cP S) j ((cP S j).1, nI (min (cn S) 600)) i).2
      rw [au_o (by omega)]
      by_cases g : i = j
      · subst g
        rw [up_s, au_s]
        exact ⟨(a8 i hi).1, rfl⟩
      · rw [up_n _ _ g, au_k g]
        exact a8 i hi
  · refine c_Cd_changeX hc a1 (by omega) (by omega) (by omega) (hQ I ⟨a0, a1, a2, a3, a4, a5, a6, a7, fun i hi => ?_, a9, a10, a11, a12⟩ FRC.rf)
    have hi : i < min (cn S) 600 := hi
    show I (c + 1) i = nI (opC (va_up (cP S) j ((cP S j).1, nI (min (cn S) 600)) i).1) ∧ I (c + 2) i = (va_up (cP S) j ((cP S j).1, nI (min (cn S) 600)) i).2
    rw [up_n _ _ (by omega)]
    exact a8 i hi
theorem k_fail {k : Int32} (hc : c ∈ aw_codes) (h : KP c T S I L) (hQ : ∀ I', KRes c T I L (.error (k, ti S)) 0 I' L → Q (some (.int 0)) (aw_s I' L D)) : aw_m X d y_Ps_fail [.ref 60, .int k] (aw_s I L D) Q := by
  refine aw_go rfl rfl (b_Ps_fail_0 (hQ _ ⟨⟨fun o _ a _ _ => by rw [au_o a, au_o a], fun _ _ _ => rfl⟩, rfl, ?_, ?_, h.1.1, S, h.fault hc (fun o ho => by rw [au_o ho, au_o ho])⟩))
  · rw [au_k (by decide), au_s]
  · rw [au_s]; exact h.1.2.2.2.1
theorem KRes.e01 {I0 : Nat → Nat → Int32} {L0 : Nat → Nat → Int64} {R : PR} {v : Int32} (h : KRes c T I0 L0 R v I L) : v = 0 ∨ v = 1 := by
  cases R with
  | ok S => exact Or.inr h.2.1
  | error e => exact Or.inl h.2.1
theorem k_sign {ch : Int32} (hc : c ∈ aw_codes) (hT : tOK T) (h : KP c T S I L) (h0 : ch ≠ 0) (h1 : ch ≠ 1) (hQ : ∀ v I' L', KRes c T I L (sgn T ch S) v I' L' → Q (some (.int v)) (aw_s I' L' D)) : aw_m X (d + 1) y_Ps_sign [.ref 60, .int ch] (aw_s I L D) Q := by
  have B0 := @b_Ps_sign_0 X d Q I L D ch
  rw [h.tok.1] at B0
  refine aw_go rfl rfl (B0 (fun q => ?_) (fun q => ?_))
  · refine k_adv hc hT h (by rw [q]; exact h0) (by rw [q]; exact h1) (fun I' k f => b_Ps_sign_24 (hQ 1 I' L ?_))
    rw [sgn, if_pos q]; exact KRes.ok f k
  · refine k_fail hc h (fun I' r => b_Ps_sign_16 (Or.inl rfl) (hQ 0 I' L ?_))
    rw [sgn, if_neg q]; exact r
theorem k_opening {ch : Int32} {k : Nat} (hc : c ∈ aw_codes) (hT : tOK T) (hk : k ≤ 10) (h : KP c T S I L) (h0 : ch ≠ 0) (h1 : ch ≠ 1) (hQ : ∀ v I' L', KRes c T I L (opn T ch k S) v I' L' → Q (some (.int v)) (aw_s I' L' D)) : aw_m X (d + 1) y_Ps_opening [.ref 60, .int ch, .int (nI (10 - k))] (aw_s I L D) Q := by
  have B0 := @b_Ps_opening_0 X d Q I L D ch (nI (10 - k))
  have c1 : (nI (10 - k) < (10 : Int32)) = (10 - k < 10) := nI_lt' (b := 10) (by omega) (by decide)
  rw [h.tok.1, c1] at B0
  refine aw_go rfl rfl (B0 (fun q q2 => ?_) (fun q q2 => ?_) (fun q => ?_))
  · refine k_adv hc hT h (by rw [q]; exact h0) (by rw [q]; exact h1) (fun I' k f => b_Ps_opening_36 (hQ 1 I' L ?_))
    rw [opn, if_pos q, if_neg (by omega)]; exact KRes.ok f k
  · refine k_fail hc h (fun I' r => b_Ps_opening_28 (Or.inl rfl) (hQ 0 I' L ?_))
    rw [opn, if_pos q, if_pos (by omega)]; exact r
  · refine k_fail hc h (fun I' r => b_Ps_opening_16 (Or.inl rfl) (hQ 0 I' L ?_))
    rw [opn, if_neg q]; exact r
theorem KRes.upd {I0 I' : Nat → Nat → Int32} {L0 L' : Nat → Nat → Int64} {e : Int32 × Nat} {v : Int32} (h : KRes c T I0 L0 (.error e) v I L) (hc : c ∈ aw_codes) (f : FRC c I I' L L') (h2 : ∃ S', KP c T S' I' L') : KRes c T I0 L0 (.error e) v I' L' := by
  obtain ⟨b1, b2⟩ := codes_bd hc
  obtain ⟨f0, r1, r2, r3, r4, r5⟩ := h
  exact ⟨f0.tr f.k.e, r1, by rw [f.1 60 (by omega)]; exact r2, by rw [f.1 60 (by omega)]; exact r3, r4, h2⟩
/-- adding to the code behind a fault -/
theorem k_addE {I0 : Nat → Nat → Int32} {L0 : Nat → Nat → Int64} {e : Int32 × Nat} {v : Int32} {o : Nat} {a : Int32} (hc : c ∈ aw_codes) (h : KRes c T I0 L0 (.error e) v I L) (hQ : ∀ I', KRes c T I0 L0 (.error e) v I' L → Q none (aw_s I' L D)) : aw_m X d y_Cd_add [.ref c, .int (nI (opC o)), .int a] (aw_s I L D) Q := by
  obtain ⟨S, hS⟩ := h.2.2.2.2.2
  exact k_add hc hS (fun I' k f => hQ I' (h.upd hc f ⟨_, k⟩))
theorem k_patE {I0 : Nat → Nat → Int32} {L0 : Nat → Nat → Int64} {e : Int32 × Nat} {v : Int32} {j : Nat} {x : Int32} (hc : c ∈ aw_codes) (h : KRes c T I0 L0 (.error e) v I L) (hx : x = I c 4) (hQ : ∀ I', KRes c T I0 L0 (.error e) v I' L → Q none (aw_s I' L D)) : aw_m X d y_Cd_change [.ref c, .int (nI (min j 600)), .int x] (aw_s I L D) Q := by
  obtain ⟨S, hS⟩ := h.2.2.2.2.2
  rw [hx, hS.2.1]
  exact k_pat hc hS rfl (fun I' k f => hQ I' (h.upd hc f ⟨_, k⟩))
theorem k_closing {o : Nat} {a : Int32} (hc : c ∈ aw_codes) (hT : tOK T) (hD : D 6 = c) (h : KP c T S I L) (hQ : ∀ v I' L', KRes c T I L (cls T o a S) v I' L' → Q (some (.int v)) (aw_s I' L' D)) : aw_m X (d + 2) y_Ps_closing [.ref 60, .int (nI (opC o)), .int a] (aw_s I L D) Q :=
  aw_go rfl rfl (b_Ps_closing_0 hD hc (k_add hc h (fun I1 k1 f1 => b_Ps_closing_9 (k_sign hc hT k1 (by decide) (by decide) (fun v I2 L2 r => b_Ps_closing_15 r.e01 (hQ v I2 L2 (r.tr f1.k)))))))
theorem k_unitFault (h : KP c T S I L) (hQ : Q (some (.int (uFt T (ti S)))) (aw_s I L D)) : aw_m X d y_Ps_unitFault [.ref 60] (aw_s I L D) Q := by
  have B0 := @b_Ps_unitFault_0 X d Q I L D
  rw [h.tok.1, h.tok.2.2.1] at B0
  have key : ∀ r, uFt T (ti S) = r → Q (some (.int r)) (aw_s I L D) := fun r e => e ▸ hQ
  refine aw_go rfl rfl (B0 (fun q => key _ ?_) (fun q q2 q3 => key _ ?_) (fun q q2 q3 => key _ ?_) (fun q q2 q3 => key _ ?_) (fun q q2 q3 q4 => key _ ?_) (fun q q2 q3 q4 => key _ ?_))
  · rw [uFt, if_pos q]
  · rw [uFt, if_neg q, if_pos q2, if_pos q3]
  · rw [uFt, if_neg q, if_pos q2, if_neg q3]
  · rw [uFt, if_neg q, if_neg q2, if_pos q3]
  · rw [uFt, if_neg q, if_neg q2, if_neg q3, if_pos q4]
  · rw [uFt, if_neg q, if_neg q2, if_neg q3, if_neg q4]
/-- another unit -/
theorem KP.unU (hc : c ∈ aw_codes) (h : KP c T S I L) (hu : cU S < 150) : KP c T (unU S) (aw_u I c 7 (I c 7 + 1)) L ∧ FRC c I (aw_u I c 7 (I c 7 + 1)) L L := by
  obtain ⟨b1, b2⟩ := codes_bd hc
  obtain ⟨a0, a1, a2, a3, a4, a5, a6, a7, a8, a9, a10, a11, a12, a13, a14⟩ := h
  refine ⟨⟨a0.fr (au_o (by omega)) (au_o (by omega)) (au_o (by omega)) (au_o (by omega)), by rw [au_k (by decide)]; exact a1, by rw [au_k (by decide)]; exact a2, by rw [au_k (by decide)]; exact a3, ?_, by rw [au_k (by decide)]; exact a5, by rw [au_k (by decide)]; exact a6, a7, fun j hj => ?_, fun j hj => ?_, fun j hj => ?_, fun j hj => ?_, a12, ?_, a14⟩, ⟨fun o ho => au_o (by omega), fun _ _ _ => rfl⟩⟩
  · rw [au_s, a4, nI_1]; rfl
  · rw [au_o (by omega), au_o (by omega)]; exact a8 j hj
  · rw [au_o (by omega)]; exact a9 j hj
  · rw [au_o (by omega)]; exact a10 j hj
  · rw [au_o (by omega)]; exact a11 j hj
  · exact hu
theorem k_addNumber {a : Int32} (hc : c ∈ aw_codes) (h : KP c T S I L) (hQ : ∀ I', KP c T (adN a S) I' L → FRC c I I' L L → Q none (aw_s I' L D)) : aw_m X (d + 1) y_Cd_addNumber [.ref c, .int a] (aw_s I L D) Q := by
  obtain ⟨b1, b2⟩ := codes_bd hc
  obtain ⟨e1, e2, e3, e4⟩ := codes_ne hc
  have B0 := @b_Cd_addNumber_0 X d Q I L D c a hc
  have h' := h
  obtain ⟨a0, a1, a2, a3, a4, a5, a6, a7, a8, a9, a10, a11, a12⟩ := h
  have p0 : ¬ nI (min (cM S) 20) < 0 := nI_pos (by omega)
  have p1 : ((20 : Int32) ≤ nI (min (cM S) 20)) = (20 ≤ min (cM S) 20) := nI_le' (a := 20) (by decide) (by omega)
  rw [au_o e3, a5, a1, nI_clamp (show min (cM S) 20 < 2 ^ 31 by omega), nI_1, p1] at B0
  have key : ∀ I1, KP c T (noN S) I1 L → FRC c I I1 L L → aw_z X (d + 1) y_Cd_addNumber Q 42 [some (.ref c), some (.int a)] [] (aw_s I1 L D) :=
    fun I1 k1 f1 => b_Cd_addNumber_42 hc (k_add (o := 2) hc k1 (fun I2 k2 f2 => b_Cd_addNumber_48 (hQ I2 k2 ⟨fun o ho => (f2.1 o ho).trans (f1.1 o ho), fun o k hk => (f2.2 o k hk).trans (f1.2 o k hk)⟩)))
  refine aw_go rfl rfl (B0 (fun q => absurd q p0) (fun _ q => ?_) (fun _ q => aw_in_nI (by omega) (by decide)) (fun _ q => ?_))
  · refine key I ⟨a0, a1, a2, a3, a4, ?_, a6, a7, a8, fun j hj => ?_, a10, a11, a12⟩ FRC.rf
    · show I c 8 = nI (min (cM S + 1) 20)
      rw [a5, show min (cM S) 20 = min (cM S + 1) 20 by omega]
    · have hj : j < min (cM S + 1) 20 := hj
      show I (c + 3) j = nI (min (va_up (cA S) (cM S) (cn S) j) 600)
      rw [up_n _ _ (by omega)]
      exact a9 j (by omega)
  · have em : min (cM S) 20 = cM S := by omega
    rw [em] at a9 ⊢
    refine key _ ⟨a0.fr (by rw [au_o (by omega), au_o (by omega)]) (by rw [au_o (by omega), au_o (by omega)]) (by rw [au_o (by omega), au_o (by omega)]) (by rw [au_o (by omega), au_o (by omega)]), ?_, ?_, ?_, ?_, ?_, ?_, a7, fun j hj => ?_, fun j hj => ?_, fun j hj => ?_, fun j hj => ?_, a12⟩ ⟨fun o ho => by rw [au_o (by omega), au_o (by omega)], fun _ _ _ => rfl⟩
    · rw [au_k (by decide), au_o (by omega)]; exact a1
    · rw [au_k (by decide), au_o (by omega)]; exact a2
    · rw [au_k (by decide), au_o (by omega)]; exact a3
    · rw [au_k (by decide), au_o (by omega)]; exact a4
    · show _ = nI (min (cM S + 1) 20)
      rw [au_s, show min (cM S + 1) 20 = cM S + 1 by omega]
    · rw [au_k (by decide), au_o (by omega)]; exact a6
    · rw [au_o (by omega), au_o (by omega), au_o (by omega), au_o (by omega)]; exact a8 j hj
    · have hj : j < min (cM S + 1) 20 := hj
      show _ = nI (min (va_up (cA S) (cM S) (cn S) j) 600)
      rw [au_o (by omega)]
      by_cases g : j = cM S
      · subst g; rw [up_s, au_s]
      · rw [up_n _ _ g, au_k g]; exact a9 j (by omega)
    · rw [au_o (by omega), au_o (by omega)]; exact a10 j hj
    · rw [au_o (by omega), au_o (by omega)]; exact a11 j hj
end KPA
