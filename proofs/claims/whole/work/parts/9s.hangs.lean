/-! PART 9s: hangs of both -/
theorem aw_o_id {α : Type} (f : Nat → Nat → α) (o : Nat) : aw_o f o (f o) = f := by
  funext x
  by_cases h : x = o
  · subst h; rw [aw_o_s]
  · rw [aw_o_n _ _ h]
/-- runs of the reference, and what is written into one object -/
def MFh (o : Nat) (I0 I : Nat → Nat → Int32) (L0 L : Nat → Nat → Int64) : Prop := MFr (aw_o I0 o (I o)) I L0 L
theorem MFh.rf {o : Nat} {I : Nat → Nat → Int32} {L : Nat → Nat → Int64} : MFh o I I L L := by
  show MFr (aw_o I o (I o)) I L L
  rw [aw_o_id]; exact MFr.rf
theorem MFr.o {o : Nat} {I0 I : Nat → Nat → Int32} {L0 L : Nat → Nat → Int64} (h : MFr I0 I L0 L) (ho : 89 ≤ o) (g : Nat → Int32) : MFr (aw_o I0 o g) (aw_o I o g) L0 L := by
  obtain ⟨a, b, c, e⟩ := h
  refine ⟨fun x h1 h2 h3 h4 h5 h6 => ?_, fun k h1 h2 h3 h4 h5 => ?_, c, e⟩
  · by_cases q : x = o
    · subst q; rw [aw_o_s, aw_o_s]
    · rw [aw_o_n _ _ q, aw_o_n _ _ q]; exact a x h1 h2 h3 h4 h5 h6
  · rw [aw_o_n _ _ (show (69 : Nat) ≠ o by omega), aw_o_n _ _ (show (69 : Nat) ≠ o by omega)]; exact b k h1 h2 h3 h4 h5
theorem aw_o_o {α : Type} (f : Nat → Nat → α) (o : Nat) (g g' : Nat → α) : aw_o (aw_o f o g) o g' = aw_o f o g' := by
  funext x
  by_cases h : x = o
  · subst h; rw [aw_o_s, aw_o_s]
  · rw [aw_o_n _ _ h, aw_o_n _ _ h, aw_o_n _ _ h]
theorem MFh.tr {o : Nat} {I0 I1 I2 : Nat → Nat → Int32} {L0 L1 L2 : Nat → Nat → Int64} (ho : 89 ≤ o) (a : MFh o I0 I1 L0 L1) (b : MFr I1 I2 L1 L2) : MFh o I0 I2 L0 L2 := by
  show MFr (aw_o I0 o (I2 o)) I2 L0 L2
  rw [b.1 o (by omega) (by omega) (by omega) (by omega) (by omega) (by omega)]
  exact MFr.tr a b
theorem MFh.put {o k : Nat} {v : Int32} {I0 I1 : Nat → Nat → Int32} {L0 L1 : Nat → Nat → Int64} (ho : 89 ≤ o) (a : MFh o I0 I1 L0 L1) : MFh o I0 (aw_u I1 o k v) L0 L1 := by
  show MFr (aw_o I0 o (aw_u I1 o k v o)) (aw_u I1 o k v) L0 L1
  have t := MFr.o a ho (aw_u I1 o k v o)
  rw [aw_o_o] at t
  have e : aw_o I1 o (aw_u I1 o k v o) = aw_u I1 o k v := by
    rw [aw_u_o, aw_o_s]
  rw [e] at t; exact t
theorem MIn.o {S : PT} {s B T O o : Nat} {I : Nat → Nat → Int32} (h : MIn S s B T O I) (ho : 89 ≤ o) (g : Nat → Int32) : MIn S s B T O (aw_o I o g) := by
  obtain ⟨a, b, k, e, ⟨s1, s2, s3⟩, h48⟩ := h
  have f : ∀ x, x ≤ 88 → aw_o I o g x = I x := fun x hx => aw_o_n _ _ (by omega)
  exact ⟨a, b, k.ks (KSl.same (fun x p q => f x (by omega))) a.1.1 a.2.1, e, ⟨by rw [f 69 (by decide)]; exact s1, by rw [f 69 (by decide)]; exact s2, by rw [f 69 (by decide)]; exact s3⟩, by rw [f 69 (by decide)]; exact h48⟩
theorem MIn.u {S : PT} {s B T O o k : Nat} {v : Int32} {I : Nat → Nat → Int32} (h : MIn S s B T O I) (ho : 89 ≤ o) : MIn S s B T O (aw_u I o k v) := by
  rw [aw_u_o]; exact h.o ho _
/-- what a call leaves that runs rows and writes into one object of its own -/
def FRh (o : Nat) (I I' : Nat → Nat → Int32) (L L' : Nat → Nat → Int64) : Prop := FRn (aw_o I o (I' o)) I' L L'
theorem KFr.o {o : Nat} {I0 I : Nat → Nat → Int32} {L0 L : Nat → Nat → Int64} (h : KFr I0 I L0 L) (ho : 11 ≤ o) (g : Nat → Int32) : KFr (aw_o I0 o g) (aw_o I o g) L0 L := by
  obtain ⟨a, b, c⟩ := h
  refine ⟨fun x h1 h2 h3 h4 h5 h6 => ?_, ?_, c⟩
  · by_cases q : x = o
    · subst q; rw [aw_o_s, aw_o_s]
    · rw [aw_o_n _ _ q, aw_o_n _ _ q]; exact a x h1 h2 h3 h4 h5 h6
  · rw [aw_o_n _ _ (show (4 : Nat) ≠ o by omega), aw_o_n _ _ (show (4 : Nat) ≠ o by omega)]; exact b
theorem FRA.o {o : Nat} {I0 I : Nat → Nat → Int32} (h : FRA I0 I) (ho : 79 ≤ o) (g : Nat → Int32) : FRA (aw_o I0 o g) (aw_o I o g) := by
  obtain ⟨a, b, c, e, f⟩ := h
  have n0 : ∀ x, x ≤ 78 → aw_o I0 o g x = I0 x := fun x hx => aw_o_n _ _ (by omega)
  have n1 : ∀ x, x ≤ 78 → aw_o I o g x = I x := fun x hx => aw_o_n _ _ (by omega)
  refine ⟨fun x h1 h2 h3 => ?_, fun k h1 h2 => by rw [n0 69 (by decide), n1 69 (by decide)]; exact b k h1 h2, by rw [n1 69 (by decide)]; exact c, ?_, ?_⟩
  · by_cases q : x = o
    · subst q; rw [aw_o_s, aw_o_s]
    · rw [aw_o_n _ _ q, aw_o_n _ _ q]; exact a x h1 h2 h3
  · exact ((KSl.same (fun x _ q => (n0 x (by omega)).symm)).tr e).tr (KSl.same (fun x _ q => n1 x (by omega)))
  · exact ((KSl.same (fun x _ q => (n0 x (by omega)).symm)).tr f).tr (KSl.same (fun x _ q => n1 x (by omega)))
theorem FRh.mk1 {o : Nat} (ho : 89 ≤ o) {I I1 I2 I3 : Nat → Nat → Int32} {L L1 L3 : Nat → Nat → Int64} (a : KFr I I1 L L1) (b : FRA I1 I2) (c : MFh o I2 I3 L1 L3) : FRh o I I3 L L3 :=
  FRn.mk1 (a.o (by omega) (I3 o)) (b.o (by omega) (I3 o)) c
theorem RP.h {o : Nat} (ho : 79 ≤ o) {pg : Nat → PT} {I I' : Nat → Nat → Int32} {L L' : Nat → Nat → Int64} {D : Nat → Nat} (h : RP pg I L D) (f : FRh o I I' L L') (h32 : I' 69 32 = 1) (hm : ∀ j, j < 4 → MCd (pg j) j I') : RP pg I' L' D := by
  have e : ∀ x, x ≤ 78 → aw_o I o (I' o) x = I x := fun x hx => aw_o_n _ _ (by omega)
  exact RP.told (I := aw_o I o (I' o)) (L := L) (h.fr (fun x p q => e x (by omega)) (fun _ _ _ => rfl) (by rw [e 69 (by decide)]) (fun x p q => e x (by omega))) (FRn.run f) h32 hm
section HANGS
variable {X : aw_X} {d d2 : Nat} {Q : Option Value → aw_H → Prop} {I : Nat → Nat → Int32} {L : Nat → Nat → Int64} {D : Nat → Nat} {S : PT} {c s B T O F l : Nat} {v1 v2 v3 : Int32}
theorem szl {B T O l : Nat} (hk : SZok B T O) (hl : l < T) : B * l + B ≤ B * (T + O) := by
  have : B * (l + 1) ≤ B * (T + O) := Nat.mul_le_mul_left _ (by omega)
  rwa [Nat.mul_succ] at this
theorem unit_e {B T O l : Nat} (hk : SZok B T O) (hl : l < T) : (1 : Int32) <<< ((nI B * nI l) &&& 31) = nI (2 ^ (B * l)) := by
  have := szl hk hl
  have h12 := hk.2.2.2.2.2
  rw [pk_mul, show (1 : Int32) = nI 1 from rfl, shl_nI (by omega), Nat.one_mul]
theorem l_AW_hangs {E : Nat → PE} (f0 : 0 < F) (f4 : F ≤ 40) (hl : l < T) (hE : ∀ r, RT1 S B T O F r (-1) (E r)) {I0 : Nat → Nat → Int32} {L0 : Nat → Nat → Int64} {P' : Nat → Prop} (hP' : P' = fun r => ltr (2 ^ (B * l)) (2 ^ B) r = 0 ∧ ∃ v, 1 ≤ v ∧ v < 2 ^ B ∧ p_out (E (r + v * 2 ^ (B * l))) ≠ p_out (E r))
    (hQ : ∀ res, isFst P' (2 ^ (B * (T + O))) res → ∀ I' L', KFr I0 I' L0 L' → Q (some (.int res)) (aw_s I' L' D)) :
    ∀ (m k : Nat) (I : Nat → Nat → Int32) (L : Nat → Nat → Int64), k + m = 2 ^ (B * (T + O)) → KIn S c B T O I L → KFr I0 I L0 L → (∀ w, w < k → ¬ P' w) →
      aw_z X (d + 8) y_AW_hangs Q 53 [some (.ref 0), none, none, some (.int (nI F)), some (.ref c), some (.int (nI (2 ^ (B * l)))), some (.int (nI k)), none] [] (aw_s I L D) := by
  intro m
  induction m with
  | zero =>
    intro k I L e h f hw
    have hR := rows_lt h.2.2.2.1
    refine b_AW_hangs_53 (c_Sz_rows h.2.2.2.1 h.2.2.2.2.1 h.2.2.2.2.2.1 h.2.2.2.2.2.2 (b_AW_hangs_62 (fun _ => hQ (-1) (Or.inr ⟨fun v hv => hw v (by omega), rfl⟩) I L f) (fun q => absurd ?_ q)))
    rw [nI_leI (by omega) (by omega)]; omega
  | succ m ih =>
    intro k I L e h f hw
    have hk := h.2.2.2.1
    have hR := rows_lt hk
    have hs := szl hk hl
    refine b_AW_hangs_53 (c_Sz_rows hk h.2.2.2.2.1 h.2.2.2.2.2.1 h.2.2.2.2.2.2 (b_AW_hangs_62 (fun q => ?_) (fun _ => c_Sz_gr hk.1 hk.2.1 h.2.2.2.2.1 (b_AW_hangs_76 (fun q => ?_) (fun q => ?_)))))
    · rw [nI_leI (by omega) (by omega)] at q; omega
    · have q : ¬ (nI k &&& (nI (2 ^ (B * l)) * mk B) = 0) := q
      rw [k_ltr (by omega)] at q
      refine b_AW_hangs_86 (fun _ => ?_) (fun x => absurd rfl x)
      rw [nI_1]
      refine ih (k + 1) I L (by omega) h f (fun w hw' => ?_)
      by_cases g : w = k
      · subst g; rw [hP']; exact fun x => q x.1
      · exact hw w (by omega)
    · have q : (nI k &&& (nI (2 ^ (B * l)) * mk B) = 0) := q
      rw [k_ltr (by omega)] at q
      have bk : bre (2 ^ (B * l)) (2 ^ B) k = k := by
        have := bre_add (2 ^ (B * l)) (2 ^ B) k
        rw [q, Nat.zero_mul] at this; exact this
      have hx : ∀ v, v < 2 ^ B → k + v * 2 ^ (B * l) < 2 ^ (B * (T + O)) := fun v hv => by
        have := bre_lt (a := B * l) (B := B) (r := k) (v := v) (R := B * (T + O)) (by omega) hs hv
        rwa [bk] at this
      refine b_AW_hangs_86 (fun x => absurd x (by decide)) (fun _ => c_AW_endsUnlike (d := d) h f0 f4 hx hE (fun p I1 L1 f1 => b_AW_hangs_104 (fun x => absurd x (by decide)) (fun _ => ?_)) (fun p I1 L1 f1 => b_AW_hangs_104 (fun _ => ?_) (fun x => absurd rfl x)))
      · exact hQ (nI k) (Or.inl ⟨k, by omega, by rw [hP']; exact ⟨q, p⟩, hw, rfl⟩) I1 L1 (f.tr f1)
      · rw [nI_1]
        refine ih (k + 1) I1 L1 (by omega) (h.fr f1) (f.tr f1) (fun w hw' => ?_)
        by_cases g : w = k
        · subst g; rw [hP']; exact fun x => p x.2
        · exact hw w (by omega)
theorem l_M_hin {E : Nat → PE} (hk : SZok B T O) (hl : l < T) (hE : ∀ r, p_end B F (E r)) {r : Nat} (hr : r < 2 ^ (B * (T + O))) {v1 v3 : Int32}
    (h33 : I 69 33 = nI B) (hI : ∀ j, j < 2 ^ (B * (T + O)) → I 103 j = p_outM (E j))
    (hQ1 : (∃ v, v < 2 ^ B ∧ p_out (E (bre (2 ^ (B * l)) (2 ^ B) r + v * 2 ^ (B * l))) ≠ p_out (E r)) → Q (some (.int (nI r))) (aw_s I L D))
    (hK : ¬ (∃ v, v < 2 ^ B ∧ p_out (E (bre (2 ^ (B * l)) (2 ^ B) r + v * 2 ^ (B * l))) ≠ p_out (E r)) → aw_z X (d + 5) y_M_hangs Q 62 [some (.ref 69), none, some (.int (nI l)), none, some (.int (nI (r + 1))), none, none] [] (aw_s I L D)) :
    ∀ (m k : Nat), k + m = 2 ^ B → (∀ v, v < k → ¬ p_out (E (bre (2 ^ (B * l)) (2 ^ B) r + v * 2 ^ (B * l))) ≠ p_out (E r)) →
      aw_z X (d + 5) y_M_hangs Q 92 [some (.ref 69), none, some (.int (nI l)), none, some (.int (nI r)), some (.int (nI (bre (2 ^ (B * l)) (2 ^ B) r))), some (.int (nI k))] [] (aw_s I L D) := by
  have p6 : 2 ^ B ≤ 64 := Nat.pow_le_pow_right (n := 2) (by decide) hk.2.1
  have p0 := Nat.two_pow_pos B
  have hR := rows_lt hk
  have hs := szl hk hl
  have h12 := hk.2.2.2.2.2
  intro m
  induction m with
  | zero =>
    intro k e hv
    have lt : mk B < nI k := by
      show nI (2 ^ B - 1) < nI k
      rw [nI_ltI (by omega) (by omega)]; omega
    refine b_M_hangs_92 (c_M_mask hk.1 hk.2.1 h33 (b_M_hangs_98 (fun _ => ?_) (fun q => absurd lt q) (fun q => absurd lt q) (fun q => absurd lt q) (fun q => absurd lt q)))
    rw [nI_1]
    exact hK (fun ⟨v, a, b⟩ => hv v (by omega) b)
  | succ m ih =>
    intro k e hv
    have nlt : ¬ mk B < nI k := by
      show ¬ nI (2 ^ B - 1) < nI k
      rw [nI_ltI (by omega) (by omega)]; omega
    have hkB : k < 2 ^ B := by omega
    have b1 := bre_lt (a := B * l) (B := B) (r := r) (v := k) (R := B * (T + O)) hr hs hkB
    have ea : nI (bre (2 ^ (B * l)) (2 ^ B) r) ||| (nI k <<< ((I 69 33 * nI l) &&& 31)) = nI (bre (2 ^ (B * l)) (2 ^ B) r + k * 2 ^ (B * l)) := by
      rw [h33, pk_mul, shl_nI (by omega), nI_or, bre_put hkB]
    obtain ⟨x, hx, e1, e2, h64⟩ := out_val hk.2.1 (hE (bre (2 ^ (B * l)) (2 ^ B) r + k * 2 ^ (B * l)))
    obtain ⟨y, hy, e3, e4, h65⟩ := out_val hk.2.1 (hE r)
    have key : (p_outM (E (bre (2 ^ (B * l)) (2 ^ B) r + k * 2 ^ (B * l))) = p_outM (E r)) ↔ (p_out (E (bre (2 ^ (B * l)) (2 ^ B) r + k * 2 ^ (B * l))) = p_out (E r)) := by
      rw [e1, e2, e3, e4]; exact out_inj hx h64 hy h65
    refine b_M_hangs_92 (c_M_mask hk.1 hk.2.1 h33 (b_M_hangs_98 (fun q => absurd q nlt) (fun _ => ?_) (fun _ => aw_in_nI (by omega) (by decide)) (fun _ q => ?_) (fun _ q => ?_)))
    · rw [ea]; exact aw_in_nI (by omega) (by decide)
    · rw [ea, nI_clamp (by omega), nI_clamp (by omega), hI _ b1, hI r hr, key] at q
      rw [nI_1]
      refine ih (k + 1) (by omega) (fun v hv' => ?_)
      by_cases g : v = k
      · subst g; exact fun z => z q
      · exact hv v (by omega)
    · rw [ea, nI_clamp (by omega), nI_clamp (by omega), hI _ b1, hI r hr, key] at q
      exact hQ1 ⟨k, hkB, q⟩
theorem l_M_hout {E : Nat → PE} (hk : SZok B T O) (hl : l < T) (hE : ∀ r, p_end B F (E r)) (sz : SZ I B T O) (hI : ∀ j, j < 2 ^ (B * (T + O)) → I 103 j = p_outM (E j)) {P : Nat → Prop} (hP : P = fun r => ∃ v, v < 2 ^ B ∧ p_out (E (bre (2 ^ (B * l)) (2 ^ B) r + v * 2 ^ (B * l))) ≠ p_out (E r))
    (hQ : ∀ res, isFst P (2 ^ (B * (T + O))) res → Q (some (.int res)) (aw_s I L D)) :
    ∀ (m k : Nat), k + m = 2 ^ (B * (T + O)) → (∀ w, w < k → ¬ P w) →
      aw_z X (d + 5) y_M_hangs Q 62 [some (.ref 69), none, some (.int (nI l)), none, some (.int (nI k)), none, none] [] (aw_s I L D) := by
  have hR := rows_lt hk
  have h12 := hk.2.2.2.2.2
  have hs := szl hk hl
  intro m
  induction m with
  | zero =>
    intro k e hw
    refine b_M_hangs_62 (c_M_rows hk sz (b_M_hangs_68 (fun _ => hQ (-1) (Or.inr ⟨fun v hv => hw v (by omega), rfl⟩)) (fun q => absurd ?_ q)))
    rw [nI_leI (by omega) (by omega)]; omega
  | succ m ih =>
    intro k e hw
    refine b_M_hangs_62 (c_M_rows hk sz (b_M_hangs_68 (fun q => ?_) (fun _ => c_M_mask hk.1 hk.2.1 sz.1 (b_M_hangs_77 ?_))))
    · rw [nI_leI (by omega) (by omega)] at q; omega
    · have ea : nI k &&& ((mk B <<< ((I 69 33 * nI l) &&& 31)) ^^^ -1) = nI (bre (2 ^ (B * l)) (2 ^ B) k) := by
        rw [sz.1, pk_mul]
        show nI k &&& ((nI (2 ^ B - 1) <<< (nI (B * l) &&& 31)) ^^^ -1) = _
        rw [shl_nI (by omega), m_bre]
      rw [ea]
      refine l_M_hin (d := d) hk hl hE (by omega) sz.1 hI (v1 := 0) (v3 := 0) (fun p => hQ (nI k) (Or.inl ⟨k, by omega, by rw [hP]; exact p, hw, rfl⟩)) (fun p => ih (k + 1) (by omega) (fun w hw' => ?_)) (2 ^ B) 0 (by omega) (fun v hv => absurd hv (Nat.not_lt_zero v))
      by_cases g : w = k
      · subst g; rw [hP]; exact p
      · exact hw w (by omega)
theorem l_M_hfill {E : Nat → PE} (f0 : 0 < F) (f4 : F ≤ 40) (hE : ∀ r, RT1 S B T O F r (-1) (E r)) {I0 : Nat → Nat → Int32} {L0 : Nat → Nat → Int64} (hK : ∀ I' L', MFh 103 I0 I' L0 L' → MIn S s B T O I' → (∀ j, j < 2 ^ (B * (T + O)) → I' 103 j = p_outM (E j)) → aw_z X (d + 5) y_M_hangs Q 62 [some (.ref 69), none, some (.int (nI l)), none, some (.int 0), none, none] [] (aw_s I' L' D)) :
    ∀ (m k : Nat) (I : Nat → Nat → Int32) (L : Nat → Nat → Int64), k + m = 2 ^ (B * (T + O)) → MIn S s B T O I → MFh 103 I0 I L0 L → (∀ j, j < k → I 103 j = p_outM (E j)) →
      aw_z X (d + 5) y_M_hangs Q 29 [some (.ref 69), some (.int (nI s)), some (.int (nI l)), some (.int (nI F)), some (.int (nI k)), none, none] [] (aw_s I L D) := by
  intro m
  induction m with
  | zero =>
    intro k I L e h f hj
    have hR := rows_lt h.2.2.2.1
    refine b_M_hangs_29 (c_M_rows h.2.2.2.1 h.2.2.2.2.1 (b_M_hangs_35 (fun _ => hK I L f h (fun j hj' => hj j (by omega))) (fun q => absurd ?_ q)))
    rw [nI_leI (by omega) (by omega)]; omega
  | succ m ih =>
    intro k I L e h f hj
    have hR := rows_lt h.2.2.2.1
    refine b_M_hangs_29 (c_M_rows h.2.2.2.1 h.2.2.2.2.1 (b_M_hangs_35 (fun q => ?_) (fun _ => m_outcome h f0 f4 (hE k) (fun I1 L1 f1 => b_M_hangs_52 (aw_in_nI (by omega) (by decide)) ?_))))
    · rw [nI_leI (by omega) (by omega)] at q; omega
    · rw [nI_clamp (by omega), nI_1]
      refine ih (k + 1) _ L1 (by omega) ((h.fr f1).u (by decide)) ((f.tr (by decide) f1).put (by decide)) (fun j hj' => ?_)
      by_cases g : j = k
      · subst g; rw [au_s]
      · rw [au_k g, f1.1 103 (by decide) (by decide) (by decide) (by decide) (by decide) (by decide)]; exact hj j (by omega)
theorem q_hangs {pg : Nat → PT} (hP : RP pg I L D) (hS : RSz I) (h48 : I 69 48 = 0) (hQ : ∀ r I1 L1,
      (∀ (Q2 : Option Value → aw_H → Prop), (∀ I2 L2, RP pg I2 L2 D → I2 69 0 = 0 → FRh 103 I I2 L L2 → Q2 (some (.int r)) (aw_s I2 L2 D)) → aw_m X (d2 + 5) y_M_hangs [.ref 69, .int v1, .int v2, .int v3] (aw_s I1 L1 D) Q2) → Q (some (.int r)) (aw_s I1 L1 D)) :
    aw_m X (d + 8) y_AW_hangs [.ref 0, .int v1, .int v2, .int v3] (aw_s I L D) Q := by
  obtain ⟨B, T, O, hk, s1, s2, s3, sz⟩ := hS
  obtain ⟨hD, hpg, hsl, hbo⟩ := id hP
  have hR := rows_lt hk
  have hT : T ≤ 3 := hk.2.2.2.1
  have hpg' : ∀ j, j < 4 → PG (pg j) := fun j hj => (hpg j hj).1
  have e34 : nI T - 1 = nI (T - 1) := by rw [show (1 : Int32) = nI 1 from rfl, pk_sub hk.2.2.1]
  -- the reference, where something is not told
  have mbad : ((v1 < 0 ∨ (4 : Int32) ≤ v1) ∨ (v2 < 0 ∨ nI T ≤ v2) ∨ (v3 < 1 ∨ (40 : Int32) < v3)) → Q (some (.int (-2))) (aw_s I L D) := fun hx => by
    refine hQ (-2) I L (fun Q2 hQ2 => aw_go rfl rfl (b_M_hangs_0 (c_M_areTold (d := d2 + 3) hsl hpg' (fun I' e32 hm f ht => ?_) (fun I' e32 hm f _ => ?_))))
    · have fr : FRh 103 I I' L L := FRh.mk1 (by decide) KFr.rf f MFh.rf
      have fin : Q2 (some (.int (-2))) (aw_s I' L D) := hQ2 I' L (hP.h (by decide) fr e32 hm) f.2.2.1 fr
      obtain ⟨s, F, hs, e1, f0, f4, e3⟩ := ht
      refine b_M_hangs_6 (fun x => absurd x (by decide)) (fun _ => c_M_isIn (b_M_hangs_20 (fun x => ?_) (fun _ => fin)))
      exfalso
      rw [pb_t, isInB, Classical.not_not, f.2.1 34 (by decide) (by decide), sz.2.1, e34] at x
      rcases hx with g | g | g
      · rw [e1] at g; exact absurd g (told_p hs)
      · rcases g with g | g
        · exact x.1 g
        · obtain ⟨n, rfl, hn⟩ := i32_nat x.1
          have x2 := x.2
          rw [nI_ltI (by omega) hn] at x2
          rw [nI_leI (by omega) hn] at g
          have := hk.2.2.1
          omega
      · rw [e3] at g; exact absurd g (told_f f0 f4)
    · have fr : FRh 103 I I' L L := FRh.mk1 (by decide) KFr.rf f MFh.rf
      exact b_M_hangs_6 (fun _ => hQ2 I' L (hP.h (by decide) fr e32 hm) f.2.2.1 fr) (fun x => absurd rfl x)
  rcases i32_4 v1 with h1 | ⟨k, hk4, rfl⟩
  · exact aw_go rfl rfl (b_AW_hangs_0 (c_AW_programAt0 h1 (b_AW_hangs_5a (mbad (Or.inl h1)))))
  refine aw_go rfl rfl (b_AW_hangs_0 (c_AW_programAt hk4 (b_AW_hangs_5 (fun x => mbad (Or.inr (Or.inl (Or.inl x)))) (fun _ x => mbad (Or.inr (Or.inl (Or.inr (by rw [← s2]; exact x))))) (fun n2 m2 => ?_))))
  rcases i32_F v3 with h3 | ⟨F, f0, f4, rfl⟩
  · exact c_AW_isFuel0 h3 (b_AW_hangs_31 (fun x => absurd rfl x) (fun _ => mbad (Or.inr (Or.inr h3))))
  refine c_AW_isFuel f0 f4 (b_AW_hangs_31 (fun _ => ?_) (fun x => absurd x (by decide)))
  obtain ⟨l, rfl, hl0⟩ := i32_nat n2
  have hl : l < T := by rw [s2, nI_leI (by omega) hl0] at m2; omega
  rw [s1, unit_e hk hl]
  obtain ⟨E, hE⟩ := runs_ex (F := F) (T := T) (O := O) (rule := -1) (hpg' k hk4) hk f0 (fun h => absurd (by decide) h)
  have kin : KIn (pg k) (D k) B T O I L := ⟨hpg' k hk4, hD.1 k (by omega), (hpg k hk4).2, hk, s1, s2, s3⟩
  refine l_AW_hangs (d := d) (S := pg k) (E := E) f0 f4 hl (fun r => (hE r).1) (I0 := I) (L0 := L) rfl (fun res hres I1 L1 fk => hQ res I1 L1 (fun Q2 hQ2 => ?_)) (2 ^ (B * (T + O))) 0 I L (by omega) kin KFr.rf (fun w hw => absurd hw (Nat.not_lt_zero w))
  have hi : ∀ o, 11 ≤ o → I1 o = I o := fun o h => fk.1 o (by omega) (by omega) (by omega) (by omega) (by omega) (by omega)
  have sl1 : MSl pg I1 := hsl.fr hpg' (by rw [hi 69 (by decide)]) (fun o x y => hi o (by omega))
  refine aw_go rfl rfl (b_M_hangs_0 (c_M_areTold (d := d2 + 3) sl1 hpg' (fun I2 e32 hm f ht => ?_) (fun I2 e32 hm f hx => ?_)))
  · have x69 : ∀ x, x ≠ 0 → x ≠ 32 → I2 69 x = I 69 x := fun x p q => by rw [f.2.1 x p q, hi 69 (by decide)]
    have sz' : SZ I2 B T O := ⟨by rw [x69 33 (by decide) (by decide)]; exact sz.1, by rw [x69 34 (by decide) (by decide)]; exact sz.2.1, by rw [x69 35 (by decide) (by decide)]; exact sz.2.2⟩
    have min' : MIn (pg k) k B T O I2 := ⟨hpg' k hk4, by omega, hm k hk4, hk, sz', by rw [x69 48 (by decide) (by decide)]; exact h48⟩
    refine b_M_hangs_6 (fun x => absurd x (by decide)) (fun _ => c_M_isIn (b_M_hangs_20 (fun _ => ?_) (fun x => ?_)))
    · refine l_M_hfill (d := d2) (S := pg k) (E := E) f0 f4 (fun r => (hE r).1) (I0 := I2) (L0 := L1) (fun I3 L3 fm m3 hj => ?_) (2 ^ (B * (T + O))) 0 I2 L1 (by omega) min' MFh.rf (fun j hj => absurd hj (Nat.not_lt_zero j))
      have fr := FRh.mk1 (by decide) fk f fm
      have md : ∀ o, 71 ≤ o → o ≤ 78 → I3 o = I2 o := fun o p q => by
        rw [fm.1 o (by omega) (by omega) (by omega) (by omega) (by omega) (by omega), aw_o_n _ _ (by omega)]
      have m69 : ∀ x, x = 0 ∨ x = 32 → I3 69 x = I2 69 x := fun x hx => by
        rw [fm.2.1 x (by omega) (by omega) (by omega) (by omega) (by omega), aw_o_n _ _ (by decide)]
      have fin : Q2 (some (.int res)) (aw_s I3 L3 D) := hQ2 I3 L3 (hP.h (by decide) fr (by rw [m69 32 (Or.inr rfl)]; exact e32) (fun j hj => (hm j hj).ks (KSl.same md) (hpg' j hj).1.1 (hpg' j hj).2.1)) (by rw [m69 0 (Or.inl rfl)]; exact f.2.2.1) fr
      refine l_M_hout (d := d2) (E := E) (F := F) hk hl (fun r => (hE r).2) m3.2.2.2.2.1 hj rfl (fun res2 hres2 => ?_) (2 ^ (B * (T + O))) 0 (by omega) (fun w hw => absurd hw (Nat.not_lt_zero w))
      have ee := hang_one (f := fun r => p_out (E r)) (U := 2 ^ (B * l)) (V := 2 ^ B) (Nat.two_pow_pos _) (Nat.two_pow_pos B) hres2 hres
      rw [ee]; exact fin
    · rw [pb_t, isInB, x69 34 (by decide) (by decide), sz.2.1, e34] at x
      exact absurd ⟨n2, by rw [nI_ltI (by omega) hl0]; omega⟩ x
  · exact absurd hx (fun g => g.elim (told_p hk4) (told_f f0 f4))
end HANGS
