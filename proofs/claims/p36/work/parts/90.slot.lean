/-! PART 90: programs that were told: numbers and their places; the class's program -/
/-- each number's place holds it -/
def NV (S : PT) : Prop := ∀ j, j < cM S → cA S j < cn S ∧ (cP S (cA S j)).1 = 2
def Qn (S S' : PT) : Prop := NV S → NV S'
theorem NV.e1 {S : PT} {o : Nat} {a : Int32} (h : NV S) : NV (em o a S) := fun j hj => by
  obtain ⟨a1, a2⟩ := h j hj
  have e : cP (em o a S) (cA S j) = cP S (cA S j) := (Pre.em (S := S) (o := o) (a := a)).2.1 _ a1
  exact ⟨Nat.lt_succ_of_lt a1, (congrArg Prod.fst e).trans a2⟩
theorem NV.ptt {S : PT} {k : Nat} (h : NV S) : NV (pat k S) := fun j hj => by
  obtain ⟨a1, a2⟩ := h j hj
  exact ⟨a1, (up_op _).trans a2⟩
theorem NV.n1 {S : PT} {v : Int32} (h : NV S) : NV (adN v S) := fun j hj => by
  have hj : j < cM S + 1 := hj
  by_cases g : j = cM S
  · have e : cA (adN v S) j = cn S := by subst g; exact up_s _ _ _
    rw [e]
    exact ⟨Nat.lt_succ_self _, by rw [show cP (adN v S) (cn S) = (2, v) from em_P (S := noN S)]⟩
  · have e : cA (adN v S) j = cA S j := up_n _ _ g
    obtain ⟨a1, a2⟩ := h j (by omega)
    rw [e]
    have e2 : cP (adN v S) (cA S j) = cP S (cA S j) := (Pre.em (S := noN S) (o := 2) (a := v)).2.1 _ a1
    exact ⟨Nat.lt_succ_of_lt a1, (congrArg Prod.fst e2).trans a2⟩
theorem Qn_GQ : GQ Qn := ⟨fun _ h => h, fun x y h => y (x h), fun _ h => h, fun _ h => h, fun _ _ h => h.n1, fun k S h => (NV.e1 h : NV (em _ _ S)), fun _ _ _ _ _ _ _ _ h => h.e1, fun _ _ h => h.ptt⟩
theorem GR_prl {Q : PT → PT → Prop} (G : GQ Q) (h24 : ∀ S, Q S (em 24 0 S)) (hR : ∀ v x S, Q S (seR v x S)) (T : TD) : ∀ f, GR Q (prl T f)
  | 0 => GR_id G
  | f + 1 => fun S S' e => by
    rw [prl] at e
    split at e
    · split at e
      · split at e
        · obtain ⟨S3, e1, e2⟩ := pb_inv e
          exact G.tr (G.adv S) (G.tr (G.adv _) (G.tr (GR_blo G (k := 10) (GR_bkI G T 10) _ _ e1) (G.tr (h24 S3) (G.tr (hR _ _ _) (GR_prl G h24 hR T f _ _ e2)))))
        · cases e
      · cases e
    · cases e; exact G.rf S
theorem NV_rdP {T : TD} {S' : PT} (e : rdP T PT0 = .ok S') : NV S' := by
  obtain ⟨S1, e1, e2⟩ := pb_inv e
  obtain ⟨S2, e3, e4⟩ := pb_inv e2
  cases e4
  have n0 : NV PT0 := fun j hj => absurd hj (Nat.not_lt_zero _)
  have n1 : NV S1 := GR_prl Qn_GQ (fun _ h => h.e1) (fun _ _ _ h => h) T 501 _ _ e1 n0
  have n2 : NV S2 := GR_stl Qn_GQ T 501 _ _ e3 n1
  exact n2.e1
theorem cn_rdP {T : TD} {S' : PT} (hT : tFul T) (e : rdP T PT0 = .ok S') : cn S' ≤ ti S' + 1 := by
  obtain ⟨S1, e1, e2⟩ := pb_inv e
  obtain ⟨S2, e3, e4⟩ := pb_inv e2
  cases e4
  have a := (Mo_prl T 501 _ _ e1).1
  have b := (Mo_stl T 501 _ _ e3).1
  have a0 : cn PT0 = 0 ∧ ti PT0 = 0 := ⟨rfl, rfl⟩
  have b0 : cn (seB S1) = cn S1 ∧ ti (seB S1) = ti S1 := ⟨rfl, rfl⟩
  show cn S2 + 1 ≤ ti S2 + 1
  omega
/-- a program: its orders, how many steps, numbers -/
def PG (S : PT) : Prop := p_WF (cP S) (cn S) (cB S) (cT S) (cG S) ∧ cS S ≤ 60 ∧ NV S ∧ cM S ≤ 600 ∧ BA S
/-- a number is an order -/
def Qm (S S' : PT) : Prop := cM S' + cn S ≤ cM S + cn S'
theorem Qm_GQ : GQ Qm := ⟨fun S => Nat.le_refl _, fun {a b c} x y => by
  have x : cM b + cn a ≤ cM a + cn b := x
  have y : cM c + cn b ≤ cM b + cn c := y
  show cM c + cn a ≤ cM a + cn c
  omega, fun S => Nat.le_refl _, fun S => Nat.le_refl _, fun v S => by
  show cM S + 1 + cn S ≤ cM S + (cn S + 1)
  omega, fun k S => by
  show cM S + cn S ≤ cM S + (cn S + 1)
  omega, fun o a S _ _ _ _ _ => by
  show cM S + cn S ≤ cM S + (cn S + 1)
  omega, fun j S => Nat.le_refl _⟩
theorem cM_rdP {T : TD} {S' : PT} (e : rdP T PT0 = .ok S') : cM S' ≤ cn S' := by
  obtain ⟨S1, e1, e2⟩ := pb_inv e
  obtain ⟨S2, e3, e4⟩ := pb_inv e2
  cases e4
  have h24 : ∀ S, Qm S (em 24 0 S) := fun S => by
    show cM S + cn S ≤ cM S + (cn S + 1)
    omega
  have hse : ∀ v x S, Qm S (seR v x S) := fun _ _ S => Nat.le_refl _
  have n1 : Qm PT0 S1 := GR_prl Qm_GQ h24 hse T 501 _ _ e1
  have n2 : Qm (seB S1) S2 := GR_stl Qm_GQ T 501 _ _ e3
  unfold Qm at n1 n2
  have z1 : cn PT0 = 0 := rfl
  have z2 : cM PT0 = 0 := rfl
  have z3 : cn (seB S1) = cn S1 := rfl
  have z4 : cM (seB S1) = cM S1 := rfl
  rw [z1, z2] at n1
  rw [z3, z4] at n2
  show cM S2 ≤ cn S2 + 1
  omega
theorem rdP_PG {T : TD} {S' : PT} (hT : tFul T) (e : rdP T PT0 = .ok S') (h1 : ti S' ≤ T.1) (h2 : cS S' ≤ 60) : PG S' := by
  have := cn_rdP hT e
  have : T.1 ≤ 500 := hT.1.1
  exact ⟨W_rdP hT e (by omega) h2, h2, NV_rdP e, Nat.le_trans (cM_rdP e) (by omega), BA_rdP e⟩
/-- the class's code holds a program -/
def KCd (S : PT) (c : Nat) (I : Nat → Nat → Int32) (L : Nat → Nat → Int64) : Prop := CodeC (cP S) (cn S) c I ∧ I c 5 = nI (cB S) ∧ I c 6 = nI (cS S) ∧ I c 8 = nI (min (cM S) 20) ∧ L c 10 = whL (cW S) (cS S) ∧ ∀ j, j < min (cM S) 20 → I (c + 3) j = nI (cA S j)
theorem KCd.fr {S : PT} {c : Nat} {I I' : Nat → Nat → Int32} {L L' : Nat → Nat → Int64} (h : KCd S c I L) (hI : ∀ o, c ≤ o → o ≤ c + 4 → I' o = I o) (hL : L' c 10 = L c 10) : KCd S c I' L' := by
  obtain ⟨a1, a2, a3, a4, a5, a6⟩ := h
  have e := fun k hk => hI (c + k) (Nat.le_add_right _ _) (Nat.add_le_add_left (m := 4) hk c)
  have e0 : I' c = I c := e 0 (by decide)
  exact ⟨a1.fr (by rw [e0]) (e 1 (by decide)) (e 2 (by decide)), by rw [e0]; exact a2, by rw [e0]; exact a3, by rw [e0]; exact a4, hL.trans a5, fun j hj => by rw [e 3 (by decide)]; exact a6 j hj⟩
theorem KP.cd {c : Nat} {T : TD} {S : PT} {I : Nat → Nat → Int32} {L : Nat → Nat → Int64} (h : KP c T S I L) (g : PG S) : KCd S c I L := by
  obtain ⟨-, a1, a2, a3, a4, a5, a6, a7, a8, a9, -⟩ := h
  have h6 := g.1.1
  have hb := g.1.2.1
  have em : min (cn S) 600 = cn S := by omega
  rw [em] at a1 a8
  refine ⟨CodeC.all a1 a8, by rw [a2]; exact congrArg nI (by omega), a3, a5, a7, fun j hj => ?_⟩
  rw [a9 j hj]
  have := (g.2.2.1 j (by omega)).1
  exact congrArg nI (by omega)
/-- tokens, and marks of the end behind them -/
def fulT (T : TD) : TD := (T.1, fun j => if j ≤ T.1 then tK T j else 1, T.2.2)
theorem fulT_K {T : TD} {j : Nat} (h : j ≤ T.1) : tK (fulT T) j = tK T j := if_pos h
theorem fulT_toks {bt : Nat → Int32} {z : Nat} {T : TD} {ps : Nat → Nat} (h : isToks bt z T.1 ps (tK T) (tV T) (tP T)) : isToks bt z (fulT T).1 ps (tK (fulT T)) (tV (fulT T)) (tP (fulT T)) := by
  obtain ⟨h1, h2, h3, h4, h5⟩ := h
  refine ⟨h1, fun j hj => ?_, fun j hj => ?_, ?_, h5⟩
  · rw [fulT_K (show j ≤ T.1 from hj)]; exact h2 j hj
  · rw [fulT_K (show j ≤ T.1 from Nat.le_of_lt hj)]; exact h3 j hj
  · rw [fulT_K (show (fulT T).1 ≤ T.1 from Nat.le_refl _)]; exact h4
theorem fulT_ful {bt : Nat → Int32} {z : Nat} {T : TD} {ps : Nat → Nat} (h : isToks bt z T.1 ps (tK T) (tV T) (tP T)) : tFul (fulT T) := ⟨(fulT_toks h).ok, fun j hj => if_neg (Nat.not_le.mpr hj)⟩
theorem KP.ful {c : Nat} {T : TD} {S : PT} {I : Nat → Nat → Int32} {L : Nat → Nat → Int64} (h : KP c T S I L) : KP c (fulT T) S I L := by
  obtain ⟨⟨h1, h2, h3, h4, h5, h6⟩, hr⟩ := h
  refine ⟨⟨h1, h2, ?_, h4, h5, fun j hj => ?_⟩, hr⟩
  · rw [fulT_K h1]; exact h3
  · rw [fulT_K (show j ≤ T.1 from hj)]; exact h6 j hj
