/-! PART h5 (by gen_run.py): the law runs a piece -/
theorem at_ne {o0 : Nat} (ho : o0 ∈ aw_ta72) : 70 ≠ o0 ∧ 71 ≠ o0 := by
  have : o0 = 72 ∨ o0 = 73 := by simpa [aw_ta72] using ho
  omega
section LRUN
variable {X : aw_X} {d : Nat} {Q : Option Value → aw_H → Prop} {I : Nat → Nat → Int32} {L : Nat → Nat → Int64} {D : Nat → Nat} {o0 B F m p np n s bg : Nat} {nm cl : Nat → Int32} {ds : List Bool}
/-- the run ends with a piece -/
theorem l_ends {I0 : Nat → Nat → Int32} {en sp : Int32} (ho : o0 ∈ aw_ta72) (hD : D 7 = 2) (hf : ∀ o, o ≠ o0 → I o = I0 o) (hA : AtS (I o0) (nm, cl, bg, ds)) (hQ : ∀ I', (∀ o, o ≠ o0 → I' o = I0 o) → AtE (I' o0) (en, sp, (nm, cl, bg, ds)) → Q none (aw_s I' L D)) : aw_m X d y_Law_ends [.ref o0, .int en, .int sp] (aw_s I L D) Q :=
  aw_go rfl rfl (b_Law_ends_0 ho hD (hQ _ (fun o q => by rw [au_o q, au_o q]; exact hf o q) (by rw [aw_u_same, aw_u_same]; exact hA.e)))
theorem b1_fr : ∀ o, o ≠ o0 → (aw_u I o0 19 (I o0 19 + 1)) o = I o := fun o q => by rw [au_o q]
theorem b1_st (hA : AtS (I o0) (nm, cl, bg, ds)) : AtS ((aw_u I o0 19 (I o0 19 + 1)) o0) (nm, cl, bg + 1, ds) := by rw [aw_u_same]; exact hA.b
theorem at_227 {f : Nat → Int32} {I1 : Nat → Nat → Int32} {v : Int32} (e : I1 o0 = va_up (va_up (va_up f 19 (f 19 + 1)) 20 (f 20 ||| ((1 : Int32) <<< (f 18 &&& 31)))) 2 v) (hA : AtS f (nm, cl, bg, ds)) (hl : ds.length < 31) : AtS ((aw_u (aw_u I1 o0 18 (I1 o0 18 + 1)) o0 19 (I1 o0 19 + 1)) o0) (va_up nm 2 v, cl, bg + 2, ds ++ [true]) := by
  rw [aw_u_same, aw_u_same, e]
  have g := ((hA.b.yes hl).n (k := 2) (v := v) (by decide)).b
  rw [ap_c (i := 18) (j := 2) (by decide)] at g
  exact g
theorem b1_16 (h16 : I o0 16 = -1) : (aw_u I o0 19 (I o0 19 + 1)) o0 16 = -1 := by rw [au_k (by decide)]; exact h16
theorem lr_0 (ho : o0 ∈ aw_ta72) (hD : D 7 = 2) (hB : 2 ≤ B ∧ B ≤ 6) (hF : F ≤ 30) (hp : p < np) (hnp : np ≤ 5) (hs : s ≤ 100) (hK : I 70 p = nI 0) (hV : I 71 p = nI n) (h16 : I o0 16 = -1) (hA : AtS (I o0) (nm, cl, bg, ds)) (hb : LB B F m (nm, cl, bg, ds))
    (hin : ∀ st', lwP (mk B) F 0 n s (nm, cl, bg, ds) = .inl st' → ∀ I', (∀ o, o ≠ o0 → I' o = I o) → AtS (I' o0) st' → I' o0 16 = -1 → aw_z X (d + 1) y_Law_run Q 59 [some (.ref o0), some (.ref 70), some (.ref 71), some (.int (nI np)), none, none, some (.int (nI F)), some (.int (mk B)), some (.int (nI (s + pcN 0))), some (.int (nI (p + 1))), none, none, none] [] (aw_s I' L D))
    (hen : ∀ en sp st', lwP (mk B) F 0 n s (nm, cl, bg, ds) = .inr (en, sp, st') → 0 ≤ en → ∀ I' v8, (∀ o, o ≠ o0 → I' o = I o) → AtE (I' o0) (en, sp, st') → aw_z X (d + 1) y_Law_run Q 59 [some (.ref o0), some (.ref 70), some (.ref 71), some (.int (nI np)), none, none, some (.int (nI F)), some (.int (mk B)), some (.int v8), some (.int (nI (p + 1))), none, none, none] [] (aw_s I' L D)) :
    aw_z X (d + 1) y_Law_run Q 59 [some (.ref o0), some (.ref 70), some (.ref 71), some (.int (nI np)), none, none, some (.int (nI F)), some (.int (mk B)), some (.int (nI s)), some (.int (nI p)), none, none, none] [] (aw_s I L D) := by
  obtain ⟨o70, o71⟩ := at_ne ho
  have hle : ¬ nI np ≤ nI p := by rw [nI_leI (by omega) (by omega)]; omega
  have h16n : ¬ 0 ≤ I o0 16 := by rw [h16]; decide
  have hA' := hA
  obtain ⟨a0, a1, a2, a3, a4, a8, a18, a19, a20⟩ := hA'
  obtain ⟨b1, b2, b3, b4⟩ := id hb
  have B0 := @b_Law_run_59 X d Q I L D o0 (nI np) (nI F) (mk B) (nI s) (nI p) ho hD
  have eK : aw_u I o0 19 (I o0 19 + 1) 70 (nI p).toNatClampNeg = nI 0 := by rw [au_o o70, nI_clamp (by omega)]; exact hK
  have eV : I 71 (nI p).toNatClampNeg = nI n := by rw [nI_clamp (by omega)]; exact hV
  have e3 : nI s + 1 + 2 = nI (s + 3) := by rw [nI_1, show (2 : Int32) = nI 2 from rfl, nI_add]
  rw [eK, eV, e3, nI_1 p, nI_1 s, a0, a1, a2, a3] at B0
  exact B0 (fun q => absurd q hle) (fun _ q => absurd q h16n) (fun _ _ => aw_in_nI (by omega) (by decide)) (fun _ _ => aw_in_nI (by omega) (by decide)) (fun _ _ _ => hin _ rfl _ (fun o q => by rw [au_o q, au_o q]) (by rw [aw_u_same, aw_u_same]; exact hA.b.n (k := 1) (by decide)) (by rw [au_k (by decide), au_k (by decide)]; exact h16)) (fun _ _  q _ _ _ => absurd rfl q) (fun _ _  q _ _ _ => absurd rfl q) (fun _ _  q _ _ => absurd rfl q) (fun _ _  q _ _ => absurd rfl q) (fun _ _  q _ _ _ _ => absurd rfl q) (fun _ _  q _ _ _ _ => absurd rfl q) (fun _ _  q _ _ _ _ _ => absurd rfl q) (fun _ _  q _ _ _ _ _ => absurd rfl q) (fun _ _  q _ _ _ _ _ _ => absurd rfl q) (fun _ _  q _ _ _ _ _ _ => absurd rfl q) (fun _ _  q _ _ _ _ _ _ => absurd rfl q) (fun _ _  q _ _ _ _ _ _ _ => absurd rfl q) (fun _ _  q _ _ _ _ _ _ _ => absurd rfl q) (fun _ _  q _ _ _ _ _ _ _ => absurd rfl q) (fun _ _  q _ _ _ _ _ _ _ => absurd rfl q) (fun _ _  q _ _ _ _ _ _ _ => absurd rfl q) (fun _ _  q _ _ _ _ _ _ _ => absurd rfl q)
theorem lr_1 (ho : o0 ∈ aw_ta72) (hD : D 7 = 2) (hB : 2 ≤ B ∧ B ≤ 6) (hF : F ≤ 30) (hp : p < np) (hnp : np ≤ 5) (hs : s ≤ 100) (hK : I 70 p = nI 1) (hV : I 71 p = nI n) (h16 : I o0 16 = -1) (hA : AtS (I o0) (nm, cl, bg, ds)) (hb : LB B F m (nm, cl, bg, ds))
    (hin : ∀ st', lwP (mk B) F 1 n s (nm, cl, bg, ds) = .inl st' → ∀ I', (∀ o, o ≠ o0 → I' o = I o) → AtS (I' o0) st' → I' o0 16 = -1 → aw_z X (d + 1) y_Law_run Q 59 [some (.ref o0), some (.ref 70), some (.ref 71), some (.int (nI np)), none, none, some (.int (nI F)), some (.int (mk B)), some (.int (nI (s + pcN 1))), some (.int (nI (p + 1))), none, none, none] [] (aw_s I' L D))
    (hen : ∀ en sp st', lwP (mk B) F 1 n s (nm, cl, bg, ds) = .inr (en, sp, st') → 0 ≤ en → ∀ I' v8, (∀ o, o ≠ o0 → I' o = I o) → AtE (I' o0) (en, sp, st') → aw_z X (d + 1) y_Law_run Q 59 [some (.ref o0), some (.ref 70), some (.ref 71), some (.int (nI np)), none, none, some (.int (nI F)), some (.int (mk B)), some (.int v8), some (.int (nI (p + 1))), none, none, none] [] (aw_s I' L D)) :
    aw_z X (d + 1) y_Law_run Q 59 [some (.ref o0), some (.ref 70), some (.ref 71), some (.int (nI np)), none, none, some (.int (nI F)), some (.int (mk B)), some (.int (nI s)), some (.int (nI p)), none, none, none] [] (aw_s I L D) := by
  obtain ⟨o70, o71⟩ := at_ne ho
  have hle : ¬ nI np ≤ nI p := by rw [nI_leI (by omega) (by omega)]; omega
  have h16n : ¬ 0 ≤ I o0 16 := by rw [h16]; decide
  have hA' := hA
  obtain ⟨a0, a1, a2, a3, a4, a8, a18, a19, a20⟩ := hA'
  obtain ⟨b1, b2, b3, b4⟩ := id hb
  have B0 := @b_Law_run_59 X d Q I L D o0 (nI np) (nI F) (mk B) (nI s) (nI p) ho hD
  have eK : aw_u I o0 19 (I o0 19 + 1) 70 (nI p).toNatClampNeg = nI 1 := by rw [au_o o70, nI_clamp (by omega)]; exact hK
  have eV : I 71 (nI p).toNatClampNeg = nI n := by rw [nI_clamp (by omega)]; exact hV
  have e3 : nI s + 1 + 2 = nI (s + 3) := by rw [nI_1, show (2 : Int32) = nI 2 from rfl, nI_add]
  rw [eK, eV, e3, nI_1 p, nI_1 s, a0, a1, a2, a3] at B0
  have lwF : ds.length = F → lwP (mk B) F 1 n s (nm, cl, bg, ds) = .inr (5, nI s, (nm, cl, bg + 1, ds)) := fun q => if_pos q
  have lwT : ds.length ≠ F → nm 0 < nI n &&& mk B → lwP (mk B) F 1 n s (nm, cl, bg, ds) = .inl (va_up nm 2 ((nm 2 + 1) &&& mk B), cl, bg + 2, ds ++ [true]) := fun q r => (if_neg q).trans (if_pos r)
  have lwN : ds.length ≠ F → ¬ nm 0 < nI n &&& mk B → lwP (mk B) F 1 n s (nm, cl, bg, ds) = .inl (va_up nm 2 ((nm 2 * 2) &&& mk B), cl, bg + 2, ds ++ [false]) := fun q r => (if_neg q).trans (if_neg r)
  have e18 : (I o0 18 = nI F) = (ds.length = F) := by rw [a18]; exact propext (nI_eq (by omega) (by omega))
  simp only [e18] at B0
  exact B0 (fun q => absurd q hle) (fun _ q => absurd q h16n) (fun _ _ => aw_in_nI (by omega) (by decide)) (fun _ _ => aw_in_nI (by omega) (by decide)) (fun _ _  q => absurd q (by decide)) (fun _ _ _ _ => fun q r => b_Law_run_227 ho hD (by rw [nI_1 p]; exact hin _ (lwN q (Int32.not_lt.mpr r)) _ (fun o z => by rw [au_o z, au_o z, au_o z, au_o z]) (by rw [aw_u_same, aw_u_same, aw_u_same, aw_u_same]; exact ((hA.b.n (k := 2) (by decide)).no).b) (by rw [au_k (by decide), au_k (by decide), au_k (by decide), au_k (by decide)]; exact h16))) (fun _ _ _ _ => fun q r => b_Law_run_227 ho hD (by rw [nI_1 p]; exact hin _ (lwT q (Int32.not_le.mp r)) _ (fun o z => by rw [au_o z, au_o z, au_o z, au_o z, au_o z]) (at_227 (by rw [aw_u_same, aw_u_same, aw_u_same]) hA (by omega)) (by rw [au_k (by decide), au_k (by decide), au_k (by decide), au_k (by decide), au_k (by decide)]; exact h16))) (fun _ _ _ _ => fun q => (l_ends ho hD b1_fr (b1_st hA) (fun I1 f1 g1 => b_Law_run_178 ho (by rw [nI_1 p]; exact hen 5 (nI s) _ (lwF q) (by decide) I1 _ f1 g1)))) (fun _ _ _ q _ => absurd rfl q) (fun _ _ _ q _ _ _ => absurd rfl q) (fun _ _ _ q _ _ _ => absurd rfl q) (fun _ _ _ q _ _ _ _ => absurd rfl q) (fun _ _ _ q _ _ _ _ => absurd rfl q) (fun _ _ _ q _ _ _ _ _ => absurd rfl q) (fun _ _ _ q _ _ _ _ _ => absurd rfl q) (fun _ _ _ q _ _ _ _ _ => absurd rfl q) (fun _ _ _ q _ _ _ _ _ _ => absurd rfl q) (fun _ _ _ q _ _ _ _ _ _ => absurd rfl q) (fun _ _ _ q _ _ _ _ _ _ => absurd rfl q) (fun _ _ _ q _ _ _ _ _ _ => absurd rfl q) (fun _ _ _ q _ _ _ _ _ _ => absurd rfl q) (fun _ _ _ q _ _ _ _ _ _ => absurd rfl q)
theorem lr_2l (ho : o0 ∈ aw_ta72) (hD : D 7 = 2) (hB : 2 ≤ B ∧ B ≤ 6) (hF : F ≤ 30) (hp : p < np) (hnp : np ≤ 5) {I0 : Nat → Nat → Int32} {R : Sum LSt (Int32 × Int32 × LSt)} {x : Int32}
    (hin : ∀ st', R = .inl st' → ∀ I', (∀ o, o ≠ o0 → I' o = I0 o) → AtS (I' o0) st' → I' o0 16 = -1 → aw_z X (d + 1) y_Law_run Q 59 [some (.ref o0), some (.ref 70), some (.ref 71), some (.int (nI np)), none, none, some (.int (nI F)), some (.int (mk B)), some (.int (nI (s + 3))), some (.int (nI (p + 1))), none, none, none] [] (aw_s I' L D))
    (hen : ∀ en sp st', R = .inr (en, sp, st') → 0 ≤ en → ∀ I' v8, (∀ o, o ≠ o0 → I' o = I0 o) → AtE (I' o0) (en, sp, st') → aw_z X (d + 1) y_Law_run Q 59 [some (.ref o0), some (.ref 70), some (.ref 71), some (.int (nI np)), none, none, some (.int (nI F)), some (.int (mk B)), some (.int v8), some (.int (nI (p + 1))), none, none, none] [] (aw_s I' L D)) :
    ∀ (f : Nat) (nm cl : Nat → Int32) (bg : Nat) (ds : List Bool) (I : Nat → Nat → Int32), F + 1 ≤ f + ds.length → ds.length ≤ F → lwW (mk B) F x s f (nm, cl, bg, ds) = R → (∀ o, o ≠ o0 → I o = I0 o) → AtS (I o0) (nm, cl, bg, ds) → I o0 16 = -1 →
      aw_z X (d + 1) y_Law_run Q 249 [some (.ref o0), some (.ref 70), some (.ref 71), some (.int (nI np)), none, none, some (.int (nI F)), some (.int (mk B)), some (.int (nI (s + 3))), some (.int (nI p)), some (.int x), some (.int (nI s)), none] [] (aw_s I L D) := by
  intro f
  induction f with
  | zero => intro nm cl bg ds I hf hl; omega
  | succ f ih =>
    intro nm cl bg ds I hf hl hR hfr hA h16
    have h16n : ¬ 0 ≤ I o0 16 := by rw [h16]; decide
    have hA' := hA
    obtain ⟨a0, a1, a2, a3, a4, a8, a18, a19, a20⟩ := hA'
    have e18 : (I o0 18 = nI F) = (ds.length = F) := by rw [a18]; exact propext (nI_eq (by omega) (by omega))
    have B0 := @b_Law_run_249 X d Q I L D o0 (nI np) (nI F) (mk B) (nI (s + 3)) (nI p) x (nI s) ho hD
    rw [e18, nI_1 p, a0, a2, a3] at B0
    have hR : (if ds.length = F then Sum.inr (5, nI s, (nm, cl, bg, ds)) else if nm 2 < x then lwW (mk B) F x s f (va_up (va_up nm 2 ((nm 2 + 1) &&& mk B)) 3 ((nm 3 + nm 0) &&& mk B), cl, bg + 3, ds ++ [true]) else .inl (nm, cl, bg, ds ++ [false])) = R := hR
    refine B0 (fun q => absurd q h16n) (fun _ q r => ?_) (fun _ q r => ?_) (fun _ q => ?_)
    · rw [if_neg q, if_pos r] at hR
      refine ih _ cl (bg + 3) (ds ++ [true]) _ (by rw [len_s]; omega) (by rw [len_s]; omega) hR (fun o z => by rw [au_o z, au_o z, au_o z, au_o z, au_o z]; exact hfr o z) ?_ (by rw [au_k (by decide), au_k (by decide), au_k (by decide), au_k (by decide), au_k (by decide)]; exact h16)
      rw [aw_u_same, aw_u_same, aw_u_same, aw_u_same, aw_u_same]
      have g := ((hA.yes (by omega)).n (k := 2) (v := (nm 2 + 1) &&& mk B) (by decide)).n (k := 3) (v := (nm 3 + nm 0) &&& mk B) (by decide)
      obtain ⟨c0, c1, c2, c3, c4, c8, c18, c19, c20⟩ := g
      exact ⟨by rw [ap_n (by decide)]; exact c0, by rw [ap_n (by decide)]; exact c1, by rw [ap_n (by decide)]; exact c2, by rw [ap_n (by decide)]; exact c3, by rw [ap_n (by decide)]; exact c4, fun j hj => by rw [ap_n (by omega)]; exact c8 j hj, by rw [ap_n (by decide)]; exact c18, by rw [ap_s, a19, show (3 : Int32) = nI 3 from rfl, nI_add], by rw [ap_n (by decide)]; exact c20⟩
    · rw [if_neg q, if_neg r] at hR
      exact hin _ hR.symm _ (fun o z => by rw [au_o z]; exact hfr o z) (by rw [aw_u_same]; exact hA.no) (by rw [au_k (by decide)]; exact h16)
    · rw [if_pos q] at hR
      exact l_ends ho hD hfr hA (fun I1 f1 g1 => b_Law_run_272 ho (by rw [nI_1 p]; exact hen 5 (nI s) _ hR.symm (by decide) I1 _ f1 g1))
theorem lr_2 (ho : o0 ∈ aw_ta72) (hD : D 7 = 2) (hB : 2 ≤ B ∧ B ≤ 6) (hF : F ≤ 30) (hp : p < np) (hnp : np ≤ 5) (hs : s ≤ 100) (hK : I 70 p = nI 2) (hV : I 71 p = nI n) (h16 : I o0 16 = -1) (hA : AtS (I o0) (nm, cl, bg, ds)) (hb : LB B F m (nm, cl, bg, ds))
    (hin : ∀ st', lwP (mk B) F 2 n s (nm, cl, bg, ds) = .inl st' → ∀ I', (∀ o, o ≠ o0 → I' o = I o) → AtS (I' o0) st' → I' o0 16 = -1 → aw_z X (d + 1) y_Law_run Q 59 [some (.ref o0), some (.ref 70), some (.ref 71), some (.int (nI np)), none, none, some (.int (nI F)), some (.int (mk B)), some (.int (nI (s + pcN 2))), some (.int (nI (p + 1))), none, none, none] [] (aw_s I' L D))
    (hen : ∀ en sp st', lwP (mk B) F 2 n s (nm, cl, bg, ds) = .inr (en, sp, st') → 0 ≤ en → ∀ I' v8, (∀ o, o ≠ o0 → I' o = I o) → AtE (I' o0) (en, sp, st') → aw_z X (d + 1) y_Law_run Q 59 [some (.ref o0), some (.ref 70), some (.ref 71), some (.int (nI np)), none, none, some (.int (nI F)), some (.int (mk B)), some (.int v8), some (.int (nI (p + 1))), none, none, none] [] (aw_s I' L D)) :
    aw_z X (d + 1) y_Law_run Q 59 [some (.ref o0), some (.ref 70), some (.ref 71), some (.int (nI np)), none, none, some (.int (nI F)), some (.int (mk B)), some (.int (nI s)), some (.int (nI p)), none, none, none] [] (aw_s I L D) := by
  obtain ⟨o70, o71⟩ := at_ne ho
  have hle : ¬ nI np ≤ nI p := by rw [nI_leI (by omega) (by omega)]; omega
  have h16n : ¬ 0 ≤ I o0 16 := by rw [h16]; decide
  have hA' := hA
  obtain ⟨a0, a1, a2, a3, a4, a8, a18, a19, a20⟩ := hA'
  obtain ⟨b1, b2, b3, b4⟩ := id hb
  have B0 := @b_Law_run_59 X d Q I L D o0 (nI np) (nI F) (mk B) (nI s) (nI p) ho hD
  have eK : aw_u I o0 19 (I o0 19 + 1) 70 (nI p).toNatClampNeg = nI 2 := by rw [au_o o70, nI_clamp (by omega)]; exact hK
  have eV : I 71 (nI p).toNatClampNeg = nI n := by rw [nI_clamp (by omega)]; exact hV
  have e3 : nI s + 1 + 2 = nI (s + 3) := by rw [nI_1, show (2 : Int32) = nI 2 from rfl, nI_add]
  rw [eK, eV, e3, nI_1 p, nI_1 s, a0, a1, a2, a3] at B0
  exact B0 (fun q => absurd q hle) (fun _ q => absurd q h16n) (fun _ _ => aw_in_nI (by omega) (by decide)) (fun _ _ => aw_in_nI (by omega) (by decide)) (fun _ _  q => absurd q (by decide)) (fun _ _ _ q _ _ => absurd q (by decide)) (fun _ _ _ q _ _ => absurd q (by decide)) (fun _ _ _ q _ => absurd q (by decide)) (fun _ _ _ _ _ => lr_2l ho hD hB hF hp hnp (I0 := I) hin hen (F + 1) nm cl (bg + 1) ds _ (by omega) b4 rfl b1_fr (b1_st hA) (b1_16 h16)) (fun _ _ _ _ q _ _ => absurd rfl q) (fun _ _ _ _ q _ _ => absurd rfl q) (fun _ _ _ _ q _ _ _ => absurd rfl q) (fun _ _ _ _ q _ _ _ => absurd rfl q) (fun _ _ _ _ q _ _ _ _ => absurd rfl q) (fun _ _ _ _ q _ _ _ _ => absurd rfl q) (fun _ _ _ _ q _ _ _ _ => absurd rfl q) (fun _ _ _ _ q _ _ _ _ _ => absurd rfl q) (fun _ _ _ _ q _ _ _ _ _ => absurd rfl q) (fun _ _ _ _ q _ _ _ _ _ => absurd rfl q) (fun _ _ _ _ q _ _ _ _ _ => absurd rfl q) (fun _ _ _ _ q _ _ _ _ _ => absurd rfl q) (fun _ _ _ _ q _ _ _ _ _ => absurd rfl q)
theorem lr_3 (ho : o0 ∈ aw_ta72) (hD : D 7 = 2) (hB : 2 ≤ B ∧ B ≤ 6) (hF : F ≤ 30) (hp : p < np) (hnp : np ≤ 5) (hs : s ≤ 100) (hK : I 70 p = nI 3) (hV : I 71 p = nI n) (h16 : I o0 16 = -1) (hA : AtS (I o0) (nm, cl, bg, ds)) (hb : LB B F m (nm, cl, bg, ds))
    (hin : ∀ st', lwP (mk B) F 3 n s (nm, cl, bg, ds) = .inl st' → ∀ I', (∀ o, o ≠ o0 → I' o = I o) → AtS (I' o0) st' → I' o0 16 = -1 → aw_z X (d + 1) y_Law_run Q 59 [some (.ref o0), some (.ref 70), some (.ref 71), some (.int (nI np)), none, none, some (.int (nI F)), some (.int (mk B)), some (.int (nI (s + pcN 3))), some (.int (nI (p + 1))), none, none, none] [] (aw_s I' L D))
    (hen : ∀ en sp st', lwP (mk B) F 3 n s (nm, cl, bg, ds) = .inr (en, sp, st') → 0 ≤ en → ∀ I' v8, (∀ o, o ≠ o0 → I' o = I o) → AtE (I' o0) (en, sp, st') → aw_z X (d + 1) y_Law_run Q 59 [some (.ref o0), some (.ref 70), some (.ref 71), some (.int (nI np)), none, none, some (.int (nI F)), some (.int (mk B)), some (.int v8), some (.int (nI (p + 1))), none, none, none] [] (aw_s I' L D)) :
    aw_z X (d + 1) y_Law_run Q 59 [some (.ref o0), some (.ref 70), some (.ref 71), some (.int (nI np)), none, none, some (.int (nI F)), some (.int (mk B)), some (.int (nI s)), some (.int (nI p)), none, none, none] [] (aw_s I L D) := by
  obtain ⟨o70, o71⟩ := at_ne ho
  have hle : ¬ nI np ≤ nI p := by rw [nI_leI (by omega) (by omega)]; omega
  have h16n : ¬ 0 ≤ I o0 16 := by rw [h16]; decide
  have hA' := hA
  obtain ⟨a0, a1, a2, a3, a4, a8, a18, a19, a20⟩ := hA'
  obtain ⟨b1, b2, b3, b4⟩ := id hb
  have B0 := @b_Law_run_59 X d Q I L D o0 (nI np) (nI F) (mk B) (nI s) (nI p) ho hD
  have eK : aw_u I o0 19 (I o0 19 + 1) 70 (nI p).toNatClampNeg = nI 3 := by rw [au_o o70, nI_clamp (by omega)]; exact hK
  have eV : I 71 (nI p).toNatClampNeg = nI n := by rw [nI_clamp (by omega)]; exact hV
  have e3 : nI s + 1 + 2 = nI (s + 3) := by rw [nI_1, show (2 : Int32) = nI 2 from rfl, nI_add]
  rw [eK, eV, e3, nI_1 p, nI_1 s, a0, a1, a2, a3] at B0
  have lwT : nm 1 = nI n &&& mk B → lwP (mk B) F 3 n s (nm, cl, bg, ds) = .inr (1, nI s, (nm, cl, bg + 1, ds)) := fun q => if_pos q
  have lwN : ¬ nm 1 = nI n &&& mk B → lwP (mk B) F 3 n s (nm, cl, bg, ds) = .inl (nm, cl, bg + 1, ds) := fun q => if_neg q
  exact B0 (fun q => absurd q hle) (fun _ q => absurd q h16n) (fun _ _ => aw_in_nI (by omega) (by decide)) (fun _ _ => aw_in_nI (by omega) (by decide)) (fun _ _  q => absurd q (by decide)) (fun _ _ _ q _ _ => absurd q (by decide)) (fun _ _ _ q _ _ => absurd q (by decide)) (fun _ _ _ q _ => absurd q (by decide)) (fun _ _ _ _ q => absurd q (by decide)) (fun _ _ _ _ _ _ => fun q => hin _ (lwN q) _ b1_fr (b1_st hA) (b1_16 h16)) (fun _ _ _ _ _ _ => fun q => (l_ends ho hD b1_fr (b1_st hA) (fun I1 f1 g1 => b_Law_run_365 ho (by rw [nI_1 p]; exact hen 1 (nI s) _ (lwT q) (by decide) I1 _ f1 g1)))) (fun _ _ _ _ _ q _ _ => absurd rfl q) (fun _ _ _ _ _ q _ _ => absurd rfl q) (fun _ _ _ _ _ q _ _ _ => absurd rfl q) (fun _ _ _ _ _ q _ _ _ => absurd rfl q) (fun _ _ _ _ _ q _ _ _ => absurd rfl q) (fun _ _ _ _ _ q _ _ _ _ => absurd rfl q) (fun _ _ _ _ _ q _ _ _ _ => absurd rfl q) (fun _ _ _ _ _ q _ _ _ _ => absurd rfl q) (fun _ _ _ _ _ q _ _ _ _ => absurd rfl q) (fun _ _ _ _ _ q _ _ _ _ => absurd rfl q) (fun _ _ _ _ _ q _ _ _ _ => absurd rfl q)
theorem lr_4 (ho : o0 ∈ aw_ta72) (hD : D 7 = 2) (hB : 2 ≤ B ∧ B ≤ 6) (hF : F ≤ 30) (hp : p < np) (hnp : np ≤ 5) (hs : s ≤ 100) (hK : I 70 p = nI 4) (hV : I 71 p = nI n) (h16 : I o0 16 = -1) (hA : AtS (I o0) (nm, cl, bg, ds)) (hb : LB B F m (nm, cl, bg, ds))
    (hin : ∀ st', lwP (mk B) F 4 n s (nm, cl, bg, ds) = .inl st' → ∀ I', (∀ o, o ≠ o0 → I' o = I o) → AtS (I' o0) st' → I' o0 16 = -1 → aw_z X (d + 1) y_Law_run Q 59 [some (.ref o0), some (.ref 70), some (.ref 71), some (.int (nI np)), none, none, some (.int (nI F)), some (.int (mk B)), some (.int (nI (s + pcN 4))), some (.int (nI (p + 1))), none, none, none] [] (aw_s I' L D))
    (hen : ∀ en sp st', lwP (mk B) F 4 n s (nm, cl, bg, ds) = .inr (en, sp, st') → 0 ≤ en → ∀ I' v8, (∀ o, o ≠ o0 → I' o = I o) → AtE (I' o0) (en, sp, st') → aw_z X (d + 1) y_Law_run Q 59 [some (.ref o0), some (.ref 70), some (.ref 71), some (.int (nI np)), none, none, some (.int (nI F)), some (.int (mk B)), some (.int v8), some (.int (nI (p + 1))), none, none, none] [] (aw_s I' L D)) :
    aw_z X (d + 1) y_Law_run Q 59 [some (.ref o0), some (.ref 70), some (.ref 71), some (.int (nI np)), none, none, some (.int (nI F)), some (.int (mk B)), some (.int (nI s)), some (.int (nI p)), none, none, none] [] (aw_s I L D) := by
  obtain ⟨o70, o71⟩ := at_ne ho
  have hle : ¬ nI np ≤ nI p := by rw [nI_leI (by omega) (by omega)]; omega
  have h16n : ¬ 0 ≤ I o0 16 := by rw [h16]; decide
  have hA' := hA
  obtain ⟨a0, a1, a2, a3, a4, a8, a18, a19, a20⟩ := hA'
  obtain ⟨b1, b2, b3, b4⟩ := id hb
  have B0 := @b_Law_run_59 X d Q I L D o0 (nI np) (nI F) (mk B) (nI s) (nI p) ho hD
  have eK : aw_u I o0 19 (I o0 19 + 1) 70 (nI p).toNatClampNeg = nI 4 := by rw [au_o o70, nI_clamp (by omega)]; exact hK
  have eV : I 71 (nI p).toNatClampNeg = nI n := by rw [nI_clamp (by omega)]; exact hV
  have e3 : nI s + 1 + 2 = nI (s + 3) := by rw [nI_1, show (2 : Int32) = nI 2 from rfl, nI_add]
  rw [eK, eV, e3, nI_1 p, nI_1 s, a0, a1, a2, a3] at B0
  have lwT : nm 0 ≤ nI n &&& mk B → lwP (mk B) F 4 n s (nm, cl, bg, ds) = .inr (4, nI s, (nm, cl, bg + 1, ds)) := fun q => if_pos q
  have lwN : ¬ nm 0 ≤ nI n &&& mk B → lwP (mk B) F 4 n s (nm, cl, bg, ds) = .inl (nm, cl, bg + 1, ds) := fun q => if_neg q
  exact B0 (fun q => absurd q hle) (fun _ q => absurd q h16n) (fun _ _ => aw_in_nI (by omega) (by decide)) (fun _ _ => aw_in_nI (by omega) (by decide)) (fun _ _  q => absurd q (by decide)) (fun _ _ _ q _ _ => absurd q (by decide)) (fun _ _ _ q _ _ => absurd q (by decide)) (fun _ _ _ q _ => absurd q (by decide)) (fun _ _ _ _ q => absurd q (by decide)) (fun _ _ _ _ _ q _ => absurd q (by decide)) (fun _ _ _ _ _ q _ => absurd q (by decide)) (fun _ _ _ _ _ _ _ => fun q => hin _ (lwN (Int32.not_le.mpr q)) _ b1_fr (b1_st hA) (b1_16 h16)) (fun _ _ _ _ _ _ _ => fun q => (l_ends ho hD b1_fr (b1_st hA) (fun I1 f1 g1 => b_Law_run_383 ho (by rw [nI_1 p]; exact hen 4 (nI s) _ (lwT (Int32.not_lt.mp q)) (by decide) I1 _ f1 g1)))) (fun _ _ _ _ _ _ q _ _ => absurd rfl q) (fun _ _ _ _ _ _ q _ _ => absurd rfl q) (fun _ _ _ _ _ _ q _ _ => absurd rfl q) (fun _ _ _ _ _ _ q _ _ _ => absurd rfl q) (fun _ _ _ _ _ _ q _ _ _ => absurd rfl q) (fun _ _ _ _ _ _ q _ _ _ => absurd rfl q) (fun _ _ _ _ _ _ q _ _ _ => absurd rfl q) (fun _ _ _ _ _ _ q _ _ _ => absurd rfl q) (fun _ _ _ _ _ _ q _ _ _ => absurd rfl q)
theorem lr_5 (ho : o0 ∈ aw_ta72) (hD : D 7 = 2) (hB : 2 ≤ B ∧ B ≤ 6) (hF : F ≤ 30) (hp : p < np) (hnp : np ≤ 5) (hs : s ≤ 100) (hK : I 70 p = nI 5) (hV : I 71 p = nI n) (h16 : I o0 16 = -1) (hA : AtS (I o0) (nm, cl, bg, ds)) (hb : LB B F m (nm, cl, bg, ds))
    (hin : ∀ st', lwP (mk B) F 5 n s (nm, cl, bg, ds) = .inl st' → ∀ I', (∀ o, o ≠ o0 → I' o = I o) → AtS (I' o0) st' → I' o0 16 = -1 → aw_z X (d + 1) y_Law_run Q 59 [some (.ref o0), some (.ref 70), some (.ref 71), some (.int (nI np)), none, none, some (.int (nI F)), some (.int (mk B)), some (.int (nI (s + pcN 5))), some (.int (nI (p + 1))), none, none, none] [] (aw_s I' L D))
    (hen : ∀ en sp st', lwP (mk B) F 5 n s (nm, cl, bg, ds) = .inr (en, sp, st') → 0 ≤ en → ∀ I' v8, (∀ o, o ≠ o0 → I' o = I o) → AtE (I' o0) (en, sp, st') → aw_z X (d + 1) y_Law_run Q 59 [some (.ref o0), some (.ref 70), some (.ref 71), some (.int (nI np)), none, none, some (.int (nI F)), some (.int (mk B)), some (.int v8), some (.int (nI (p + 1))), none, none, none] [] (aw_s I' L D)) :
    aw_z X (d + 1) y_Law_run Q 59 [some (.ref o0), some (.ref 70), some (.ref 71), some (.int (nI np)), none, none, some (.int (nI F)), some (.int (mk B)), some (.int (nI s)), some (.int (nI p)), none, none, none] [] (aw_s I L D) := by
  obtain ⟨o70, o71⟩ := at_ne ho
  have hle : ¬ nI np ≤ nI p := by rw [nI_leI (by omega) (by omega)]; omega
  have h16n : ¬ 0 ≤ I o0 16 := by rw [h16]; decide
  have hA' := hA
  obtain ⟨a0, a1, a2, a3, a4, a8, a18, a19, a20⟩ := hA'
  obtain ⟨b1, b2, b3, b4⟩ := id hb
  have B0 := @b_Law_run_59 X d Q I L D o0 (nI np) (nI F) (mk B) (nI s) (nI p) ho hD
  have eK : aw_u I o0 19 (I o0 19 + 1) 70 (nI p).toNatClampNeg = nI 5 := by rw [au_o o70, nI_clamp (by omega)]; exact hK
  have eV : I 71 (nI p).toNatClampNeg = nI n := by rw [nI_clamp (by omega)]; exact hV
  have e3 : nI s + 1 + 2 = nI (s + 3) := by rw [nI_1, show (2 : Int32) = nI 2 from rfl, nI_add]
  rw [eK, eV, e3, nI_1 p, nI_1 s, a0, a1, a2, a3] at B0
  have lwT : nm 1 = 0 → lwP (mk B) F 5 n s (nm, cl, bg, ds) = .inr (2, nI s, (nm, cl, bg + 1, ds)) := fun q => if_pos q
  have lwN : ¬ nm 1 = 0 → lwP (mk B) F 5 n s (nm, cl, bg, ds) = .inl (va_up nm 3 (nm 0 / nm 1), cl, bg + 1, ds) := fun q => if_neg q
  exact B0 (fun q => absurd q hle) (fun _ q => absurd q h16n) (fun _ _ => aw_in_nI (by omega) (by decide)) (fun _ _ => aw_in_nI (by omega) (by decide)) (fun _ _  q => absurd q (by decide)) (fun _ _ _ q _ _ => absurd q (by decide)) (fun _ _ _ q _ _ => absurd q (by decide)) (fun _ _ _ q _ => absurd q (by decide)) (fun _ _ _ _ q => absurd q (by decide)) (fun _ _ _ _ _ q _ => absurd q (by decide)) (fun _ _ _ _ _ q _ => absurd q (by decide)) (fun _ _ _ _ _ _ q _ => absurd q (by decide)) (fun _ _ _ _ _ _ q _ => absurd q (by decide)) (fun _ _ _ _ _ _ _ _ => fun q => q) (fun _ _ _ _ _ _ _ _ => fun q => hin _ (lwN q) _ (fun o q => by rw [au_o q, au_o q]) (by rw [aw_u_same, aw_u_same]; exact hA.b.n (k := 3) (by decide)) (by rw [au_k (by decide), au_k (by decide)]; exact h16)) (fun _ _ _ _ _ _ _ _ => fun q => (l_ends ho hD b1_fr (b1_st hA) (fun I1 f1 g1 => b_Law_run_399 ho (by rw [nI_1 p]; exact hen 2 (nI s) _ (lwT q) (by decide) I1 _ f1 g1)))) (fun _ _ _ _ _ _ _ q _ _ => absurd rfl q) (fun _ _ _ _ _ _ _ q _ _ => absurd rfl q) (fun _ _ _ _ _ _ _ q _ _ => absurd rfl q) (fun _ _ _ _ _ _ _ q _ _ => absurd rfl q) (fun _ _ _ _ _ _ _ q _ _ => absurd rfl q) (fun _ _ _ _ _ _ _ q _ _ => absurd rfl q)
theorem lr_6 (ho : o0 ∈ aw_ta72) (hD : D 7 = 2) (hB : 2 ≤ B ∧ B ≤ 6) (hF : F ≤ 30) (hp : p < np) (hnp : np ≤ 5) (hs : s ≤ 100) (hK : I 70 p = nI 6) (hV : I 71 p = nI n) (h16 : I o0 16 = -1) (hA : AtS (I o0) (nm, cl, bg, ds)) (hb : LB B F m (nm, cl, bg, ds))
    (hin : ∀ st', lwP (mk B) F 6 n s (nm, cl, bg, ds) = .inl st' → ∀ I', (∀ o, o ≠ o0 → I' o = I o) → AtS (I' o0) st' → I' o0 16 = -1 → aw_z X (d + 1) y_Law_run Q 59 [some (.ref o0), some (.ref 70), some (.ref 71), some (.int (nI np)), none, none, some (.int (nI F)), some (.int (mk B)), some (.int (nI (s + pcN 6))), some (.int (nI (p + 1))), none, none, none] [] (aw_s I' L D))
    (hen : ∀ en sp st', lwP (mk B) F 6 n s (nm, cl, bg, ds) = .inr (en, sp, st') → 0 ≤ en → ∀ I' v8, (∀ o, o ≠ o0 → I' o = I o) → AtE (I' o0) (en, sp, st') → aw_z X (d + 1) y_Law_run Q 59 [some (.ref o0), some (.ref 70), some (.ref 71), some (.int (nI np)), none, none, some (.int (nI F)), some (.int (mk B)), some (.int v8), some (.int (nI (p + 1))), none, none, none] [] (aw_s I' L D)) :
    aw_z X (d + 1) y_Law_run Q 59 [some (.ref o0), some (.ref 70), some (.ref 71), some (.int (nI np)), none, none, some (.int (nI F)), some (.int (mk B)), some (.int (nI s)), some (.int (nI p)), none, none, none] [] (aw_s I L D) := by
  obtain ⟨o70, o71⟩ := at_ne ho
  have hle : ¬ nI np ≤ nI p := by rw [nI_leI (by omega) (by omega)]; omega
  have h16n : ¬ 0 ≤ I o0 16 := by rw [h16]; decide
  have hA' := hA
  obtain ⟨a0, a1, a2, a3, a4, a8, a18, a19, a20⟩ := hA'
  obtain ⟨b1, b2, b3, b4⟩ := id hb
  have B0 := @b_Law_run_59 X d Q I L D o0 (nI np) (nI F) (mk B) (nI s) (nI p) ho hD
  have eK : aw_u I o0 19 (I o0 19 + 1) 70 (nI p).toNatClampNeg = nI 6 := by rw [au_o o70, nI_clamp (by omega)]; exact hK
  have eV : I 71 (nI p).toNatClampNeg = nI n := by rw [nI_clamp (by omega)]; exact hV
  have e3 : nI s + 1 + 2 = nI (s + 3) := by rw [nI_1, show (2 : Int32) = nI 2 from rfl, nI_add]
  rw [eK, eV, e3, nI_1 p, nI_1 s, a0, a1, a2, a3] at B0
  obtain ⟨j, hj, ej⟩ := mk_rg hB.2 (nm 1 + (nI n &&& mk B))
  have p6 : 2 ^ B ≤ 64 := Nat.pow_le_pow_right (n := 2) (by decide) hB.2
  have lwT : ¬ nI j ≤ 7 → lwP (mk B) F 6 n s (nm, cl, bg, ds) = .inr (3, nI s, (nm, cl, bg + 1, ds)) := fun q => by
    show (if 7 < (nm 1 + (nI n &&& mk B)) &&& mk B then _ else _) = _
    rw [ej, if_pos (Int32.not_le.mp q)]
  have lwN : nI j ≤ 7 → lwP (mk B) F 6 n s (nm, cl, bg, ds) = .inl (nm, va_up cl j (nm 0), bg + 1, ds) := fun q => by
    show (if 7 < (nm 1 + (nI n &&& mk B)) &&& mk B then _ else _) = _
    rw [ej, if_neg (Int32.not_lt.mpr q), nI_clamp (by omega)]
  have j7 : nI j ≤ 7 → j < 8 := fun q => by rw [show (7 : Int32) = nI 7 from rfl, nI_leI (by omega) (by decide)] at q; omega
  rw [ej, show (8 : Int32) + nI j = nI (8 + j) from nI_add 8 j, nI_clamp (show 8 + j < 2 ^ 31 by omega)] at B0
  exact B0 (fun q => absurd q hle) (fun _ q => absurd q h16n) (fun _ _ => aw_in_nI (by omega) (by decide)) (fun _ _ => aw_in_nI (by omega) (by decide)) (fun _ _  q => absurd q (by decide)) (fun _ _ _ q _ _ => absurd q (by decide)) (fun _ _ _ q _ _ => absurd q (by decide)) (fun _ _ _ q _ => absurd q (by decide)) (fun _ _ _ _ q => absurd q (by decide)) (fun _ _ _ _ _ q _ => absurd q (by decide)) (fun _ _ _ _ _ q _ => absurd q (by decide)) (fun _ _ _ _ _ _ q _ => absurd q (by decide)) (fun _ _ _ _ _ _ q _ => absurd q (by decide)) (fun _ _ _ _ _ _ _ q _ => absurd q (by decide)) (fun _ _ _ _ _ _ _ q _ => absurd q (by decide)) (fun _ _ _ _ _ _ _ q _ => absurd q (by decide)) (fun _ _ _ _ _ _ _ _ _ => fun q => aw_in_nI (by have := j7 q; omega) (by decide)) (fun _ _ _ _ _ _ _ _ _ => fun q => hin _ (lwN q) _ (fun o q => by rw [au_o q, au_o q]) (by rw [aw_u_same, aw_u_same]; exact hA.b.c (j7 q)) (by rw [au_k (by have := j7 q; omega), au_k (by decide)]; exact h16)) (fun _ _ _ _ _ _ _ _ _ => fun q => (l_ends ho hD b1_fr (b1_st hA) (fun I1 f1 g1 => b_Law_run_440 ho (by rw [nI_1 p]; exact hen 3 (nI s) _ (lwT q) (by decide) I1 _ f1 g1)))) (fun _ _ _ _ _ _ _ _ q _ => absurd rfl q) (fun _ _ _ _ _ _ _ _ q _ => absurd rfl q) (fun _ _ _ _ _ _ _ _ q _ => absurd rfl q)
theorem lr_7 (ho : o0 ∈ aw_ta72) (hD : D 7 = 2) (hB : 2 ≤ B ∧ B ≤ 6) (hF : F ≤ 30) (hp : p < np) (hnp : np ≤ 5) (hs : s ≤ 100) (hK : I 70 p = nI 7) (hV : I 71 p = nI n) (h16 : I o0 16 = -1) (hA : AtS (I o0) (nm, cl, bg, ds)) (hb : LB B F m (nm, cl, bg, ds))
    (hin : ∀ st', lwP (mk B) F 7 n s (nm, cl, bg, ds) = .inl st' → ∀ I', (∀ o, o ≠ o0 → I' o = I o) → AtS (I' o0) st' → I' o0 16 = -1 → aw_z X (d + 1) y_Law_run Q 59 [some (.ref o0), some (.ref 70), some (.ref 71), some (.int (nI np)), none, none, some (.int (nI F)), some (.int (mk B)), some (.int (nI (s + pcN 7))), some (.int (nI (p + 1))), none, none, none] [] (aw_s I' L D))
    (hen : ∀ en sp st', lwP (mk B) F 7 n s (nm, cl, bg, ds) = .inr (en, sp, st') → 0 ≤ en → ∀ I' v8, (∀ o, o ≠ o0 → I' o = I o) → AtE (I' o0) (en, sp, st') → aw_z X (d + 1) y_Law_run Q 59 [some (.ref o0), some (.ref 70), some (.ref 71), some (.int (nI np)), none, none, some (.int (nI F)), some (.int (mk B)), some (.int v8), some (.int (nI (p + 1))), none, none, none] [] (aw_s I' L D)) :
    aw_z X (d + 1) y_Law_run Q 59 [some (.ref o0), some (.ref 70), some (.ref 71), some (.int (nI np)), none, none, some (.int (nI F)), some (.int (mk B)), some (.int (nI s)), some (.int (nI p)), none, none, none] [] (aw_s I L D) := by
  obtain ⟨o70, o71⟩ := at_ne ho
  have hle : ¬ nI np ≤ nI p := by rw [nI_leI (by omega) (by omega)]; omega
  have h16n : ¬ 0 ≤ I o0 16 := by rw [h16]; decide
  have hA' := hA
  obtain ⟨a0, a1, a2, a3, a4, a8, a18, a19, a20⟩ := hA'
  obtain ⟨b1, b2, b3, b4⟩ := id hb
  have B0 := @b_Law_run_59 X d Q I L D o0 (nI np) (nI F) (mk B) (nI s) (nI p) ho hD
  have eK : aw_u I o0 19 (I o0 19 + 1) 70 (nI p).toNatClampNeg = nI 7 := by rw [au_o o70, nI_clamp (by omega)]; exact hK
  have eV : I 71 (nI p).toNatClampNeg = nI n := by rw [nI_clamp (by omega)]; exact hV
  have e3 : nI s + 1 + 2 = nI (s + 3) := by rw [nI_1, show (2 : Int32) = nI 2 from rfl, nI_add]
  rw [eK, eV, e3, nI_1 p, nI_1 s, a0, a1, a2, a3] at B0
  obtain ⟨j, hj, ej⟩ := mk_rg hB.2 (nI n)
  have p6 : 2 ^ B ≤ 64 := Nat.pow_le_pow_right (n := 2) (by decide) hB.2
  have lwT : ¬ nI j ≤ 7 → lwP (mk B) F 7 n s (nm, cl, bg, ds) = .inr (3, nI s, (nm, cl, bg + 1, ds)) := fun q => by
    show (if 7 < nI n &&& mk B then _ else _) = _
    rw [ej, if_pos (Int32.not_le.mp q)]
  have lwN : nI j ≤ 7 → lwP (mk B) F 7 n s (nm, cl, bg, ds) = .inl (va_up nm 7 ((cl j + nm 3) &&& mk B), cl, bg + 1, ds) := fun q => by
    show (if 7 < nI n &&& mk B then _ else _) = _
    rw [ej, if_neg (Int32.not_lt.mpr q), nI_clamp (by omega)]
  have j7 : nI j ≤ 7 → j < 8 := fun q => by rw [show (7 : Int32) = nI 7 from rfl, nI_leI (by omega) (by decide)] at q; omega
  rw [ej, show (8 : Int32) + nI j = nI (8 + j) from nI_add 8 j, nI_clamp (show 8 + j < 2 ^ 31 by omega)] at B0
  exact B0 (fun q => absurd q hle) (fun _ q => absurd q h16n) (fun _ _ => aw_in_nI (by omega) (by decide)) (fun _ _ => aw_in_nI (by omega) (by decide)) (fun _ _  q => absurd q (by decide)) (fun _ _ _ q _ _ => absurd q (by decide)) (fun _ _ _ q _ _ => absurd q (by decide)) (fun _ _ _ q _ => absurd q (by decide)) (fun _ _ _ _ q => absurd q (by decide)) (fun _ _ _ _ _ q _ => absurd q (by decide)) (fun _ _ _ _ _ q _ => absurd q (by decide)) (fun _ _ _ _ _ _ q _ => absurd q (by decide)) (fun _ _ _ _ _ _ q _ => absurd q (by decide)) (fun _ _ _ _ _ _ _ q _ => absurd q (by decide)) (fun _ _ _ _ _ _ _ q _ => absurd q (by decide)) (fun _ _ _ _ _ _ _ q _ => absurd q (by decide)) (fun _ _ _ _ _ _ _ _ q _ => absurd q (by decide)) (fun _ _ _ _ _ _ _ _ q _ => absurd q (by decide)) (fun _ _ _ _ _ _ _ _ q _ => absurd q (by decide)) (fun _ _ _ _ _ _ _ _ _ => fun q => aw_in_nI (by have := j7 q; omega) (by decide)) (fun _ _ _ _ _ _ _ _ _ => fun q => by
    have jj := j7 q
    rw [au_k (show 8 + j ≠ 19 by omega), a8 j jj]
    exact hin _ (lwN q) _ (fun o q => by rw [au_o q, au_o q]) (by rw [aw_u_same, aw_u_same]; exact hA.b.hh) (by rw [au_k (by decide), au_k (by decide)]; exact h16)) (fun _ _ _ _ _ _ _ _ _ => fun q => (l_ends ho hD b1_fr (b1_st hA) (fun I1 f1 g1 => b_Law_run_470 ho (by rw [nI_1 p]; exact hen 3 (nI s) _ (lwT q) (by decide) I1 _ f1 g1))))
end LRUN
