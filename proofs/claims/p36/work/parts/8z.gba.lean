/-! PART 8z: what each step that begins is numbered -/
/-- what is an order stays one of its kind -/
def Qop (S S' : PT) : Prop := cn S ≤ cn S' ∧ ∀ i, i < cn S → (cP S' i).1 = (cP S i).1
theorem Qop_em {S : PT} {o : Nat} {a : Int32} : Qop S (em o a S) := ⟨Nat.le_succ _, fun i hi => by rw [(Pre.em (S := S) (o := o) (a := a)).2.1 i hi]⟩
theorem Qop_GQ : GQ Qop := ⟨fun S => ⟨Nat.le_refl _, fun _ _ => rfl⟩, fun {a b c} x y => ⟨Nat.le_trans x.1 y.1, fun i hi => (y.2 i (Nat.lt_of_lt_of_le hi x.1)).trans (x.2 i hi)⟩, fun S => ⟨Nat.le_refl _, fun _ _ => rfl⟩, fun S => ⟨Nat.le_refl _, fun _ _ => rfl⟩, fun v S => Qop_em (S := noN S), fun k S => Qop_em, fun o a S _ _ _ _ _ => Qop_em, fun j S => ⟨Nat.le_refl _, fun i _ => up_op i⟩⟩
/-- a relation that every step of the reading keeps; only branches and jumps are mended -/
def GU (Q : PT → PT → Prop) : Prop := (∀ S, Q S S) ∧ (∀ {a b c : PT}, Q a b → Q b c → Q a c) ∧ (∀ S, Q S (adv S)) ∧ (∀ S, Q S (unU S)) ∧ (∀ v S, Q S (adN v S)) ∧ (∀ k S, Q S (bst k S)) ∧ (∀ o a S, o < 26 → o ≠ 0 → o ≠ 1 → o ≠ 2 → o ≠ 24 → Q S (em o a S)) ∧ (∀ j S, ((cP S j).1 = 21 ∨ (cP S j).1 = 22) → Q S (pat j S))
theorem GU.rf {Q : PT → PT → Prop} (G : GU Q) (S : PT) : Q S S := G.1 S
theorem GU.tr {Q : PT → PT → Prop} (G : GU Q) {a b c : PT} (x : Q a b) (y : Q b c) : Q a c := G.2.1 x y
theorem GU.adv {Q : PT → PT → Prop} (G : GU Q) (S : PT) : Q S (adv S) := G.2.2.1 S
theorem GU.unU {Q : PT → PT → Prop} (G : GU Q) (S : PT) : Q S (unU S) := G.2.2.2.1 S
theorem GU.adN {Q : PT → PT → Prop} (G : GU Q) (v : Int32) (S : PT) : Q S (adN v S) := G.2.2.2.2.1 v S
theorem GU.bst {Q : PT → PT → Prop} (G : GU Q) (k : Int32) (S : PT) : Q S (bst k S) := G.2.2.2.2.2.1 k S
theorem GU.em {Q : PT → PT → Prop} (G : GU Q) (o : Nat) (a : Int32) (S : PT) (h1 : o < 26) (h2 : o ≠ 0) (h3 : o ≠ 1) (h4 : o ≠ 2) (h5 : o ≠ 24) : Q S (em o a S) := G.2.2.2.2.2.2.1 o a S h1 h2 h3 h4 h5
theorem GU.ptt {Q : PT → PT → Prop} (G : GU Q) (j : Nat) (S : PT) (h : (cP S j).1 = 21 ∨ (cP S j).1 = 22) : Q S (pat j S) := G.2.2.2.2.2.2.2 j S h
theorem GU_sgn {Q : PT → PT → Prop} (G : GU Q) (T : TD) (ch : Int32) : GR Q (sgn T ch) := fun S S' e => by
  obtain ⟨rfl, -⟩ := sgn_ok e
  exact G.adv S
theorem GU_opn {Q : PT → PT → Prop} (G : GU Q) (T : TD) (ch : Int32) (k : Nat) : GR Q (opn T ch k) := fun S S' e => by
  obtain ⟨rfl, -⟩ := opn_ok e
  exact G.adv S
theorem GU_pb {Q : PT → PT → Prop} (G : GU Q) {R f : PT → PR} (h : GR Q R) (hf : GR Q f) : GR Q (fun S => pb (R S) f) := fun S S' e => by
  obtain ⟨S1, e1, e2⟩ := pb_inv e
  exact G.tr (h _ _ e1) (hf _ _ e2)
theorem GU_id {Q : PT → PT → Prop} (G : GU Q) : GR Q (fun S => .ok S) := fun S S' e => by cases e; exact G.rf S
theorem GU_cls {Q : PT → PT → Prop} (G : GU Q) (T : TD) {o : Nat} (a : Int32) (h : o < 26 ∧ o ≠ 0 ∧ o ≠ 1 ∧ o ≠ 2 ∧ o ≠ 24) : GR Q (cls T o a) := fun S S' e => G.tr (G.em o a S h.1 h.2.1 h.2.2.1 h.2.2.2.1 h.2.2.2.2) (GU_sgn G T 59 (em o a S) S' e)
theorem GU_plc {Q : PT → PT → Prop} (G : GU Q) {T : TD} {k : Nat} {inn : PT → PR} (h : GR Q inn) : GR Q (plc T k inn) := GU_pb G (GU_opn G T 91 k) (GU_pb G h (GU_sgn G T 93))
theorem GU_unF {Q : PT → PT → Prop} (G : GU Q) {T : TD} {k : Nat} {inn : PT → PR} (h : GR Q inn) : GR Q (unF T k inn) := fun S S' e => by
  unfold unF at e
  split at e
  · cases e
  · split at e
    · cases e
    · split at e
      · exact G.tr (G.unU S) (GU_pb G (GU_opn G T 40 k) (GU_pb G h (GU_sgn G T 41)) _ S' e)
      · split at e
        · obtain ⟨S1, g1, g2⟩ := pb_inv e
          cases g2
          exact G.tr (G.unU S) (G.tr (G.adv _) (G.tr (GU_plc G h _ S1 g1) (G.em _ _ _ (by decide) (by decide) (by decide) (by decide) (by decide))))
        · split at e
          · cases e
            exact G.tr (G.unU S) (G.tr (G.adv _) (G.adN _ _))
          · cases e
            exact G.tr (G.unU S) (G.tr (G.adv _) (G.em _ _ _ (by decide) (by decide) (by decide) (by decide) (by decide)))
theorem GU_olp {Q : PT → PT → Prop} (G : GU Q) {T : TD} {c1 c2 : Int32} {o1 o2 : Nat} {u : PT → PR} (ho : (3 ≤ o1 ∧ o1 < 24) ∧ (3 ≤ o2 ∧ o2 < 24)) (h : GR Q u) : ∀ f, GR Q (olp T c1 c2 o1 o2 u f)
  | 0 => GU_id G
  | f + 1 => fun S S' e => by
    rw [olp] at e
    split at e
    · obtain ⟨S1, g1, g2⟩ := pb_inv e
      have hx : 3 ≤ (if tK T (ti S) = c1 then o1 else o2) ∧ (if tK T (ti S) = c1 then o1 else o2) < 24 := by split <;> omega
      exact G.tr (G.adv S) (G.tr (h _ _ g1) (G.tr (G.em _ _ _ (by omega) (by omega) (by omega) (by omega) (by omega)) (GU_olp G ho h f _ _ g2)))
    · cases e; exact G.rf S
theorem GU_rdI {Q : PT → PT → Prop} (G : GU Q) (T : TD) : ∀ k, GR Q (rdI T k)
  | 0 => GU_id G
  | k + 1 => GU_pb G (GU_pb G (GU_unF G (k := k) (GU_rdI G T k)) (GU_olp G (by decide) (GU_unF G (k := k) (GU_rdI G T k)) 501)) (GU_olp G (by decide) (GU_pb G (GU_unF G (k := k) (GU_rdI G T k)) (GU_olp G (by decide) (GU_unF G (k := k) (GU_rdI G T k)) 501)) 501)
theorem GU_tst {Q : PT → PT → Prop} (G : GU Q) (T : TD) (k : Nat) : GR Q (tst T k) := fun S S' e => by
  obtain ⟨S1, g1, g2⟩ := pb_inv e
  split at g2
  · obtain ⟨S2, g3, g4⟩ := pb_inv g2
    cases g4
    have hx : 9 ≤ rlo T (ti S1) ∧ rlo T (ti S1) ≤ 12 := by unfold rlo; (repeat' split) <;> omega
    exact G.tr (GU_rdI G T (k + 1) _ _ g1) (G.tr (G.adv S1) (G.tr (GU_rdI G T (k + 1) _ _ g3) (G.em _ _ _ (by omega) (by omega) (by omega) (by omega) (by omega))))
  · cases g2
theorem GU_or {Q : PT → PT → Prop} (G : GU Q) (o : Nat) (h : o = 13 ∨ o = 14) (S : PT) : Q S (em o 0 S) := G.em _ _ _ (by omega) (by omega) (by omega) (by omega) (by omega)
theorem GU_clp {Q : PT → PT → Prop} (G : GU Q) (T : TD) (k : Nat) : ∀ (f : Nat) (w : Bool), GR Q (clp T k f w)
  | 0, w => fun S S' e => by
    rw [clp] at e
    cases w <;> cases e
    · exact G.rf S
    · exact GU_or G 14 (Or.inr rfl) S
  | f + 1, w => fun S S' e => by
    rw [clp] at e
    have hw : Q S (if w = true then em 14 0 S else S) := by
      split
      · exact GU_or G 14 (Or.inr rfl) S
      · exact G.rf S
    split at e
    · obtain ⟨S1, g1, g2⟩ := pb_inv e
      exact G.tr hw (G.tr (G.adv _) (G.tr (GU_tst G T k _ _ g1) (GU_clp G T k f true _ _ g2)))
    · split at e
      · obtain ⟨S1, g1, g2⟩ := pb_inv e
        exact G.tr (G.adv _) (G.tr (GU_tst G T k _ _ g1) (G.tr (GU_or G 13 (Or.inl rfl) S1) (GU_clp G T k f w _ _ g2)))
      · cases e
        exact hw
theorem GU_cnd {Q : PT → PT → Prop} (G : GU Q) (T : TD) (k : Nat) : GR Q (cnd T k) := GU_pb G (GU_tst G T k) (GU_clp G T k 501 false)
theorem GU_blp {Q : PT → PT → Prop} (G : GU Q) {T : TD} {s : PT → PR} (h : GR Q s) : ∀ f, GR Q (blp T s f)
  | 0 => GU_id G
  | f + 1 => fun S S' e => by
    rw [blp] at e
    split at e
    · cases e; exact G.rf S
    · obtain ⟨S1, g1, g2⟩ := pb_inv e
      exact G.tr (h _ _ g1) (GU_blp G h f _ _ g2)
theorem GU_blo {Q : PT → PT → Prop} (G : GU Q) {T : TD} {k : Nat} {s : PT → PR} (h : GR Q s) : GR Q (blo T k s) := GU_pb G (GU_opn G T 123 k) (GU_pb G (GU_blp G h 501) (GU_sgn G T 125))
theorem GU_21 {Q : PT → PT → Prop} (G : GU Q) (S : PT) : Q S (em 21 0 S) := G.em _ _ _ (by decide) (by decide) (by decide) (by decide) (by decide)
theorem GU_22 {Q : PT → PT → Prop} (G : GU Q) (a : Int32) (S : PT) : Q S (em 22 a S) := G.em _ _ _ (by decide) (by decide) (by decide) (by decide) (by decide)
theorem GU_brs {Q : PT → PT → Prop} (G : GU Q) {T : TD} {b : PT → PR} (h : GR Q b) (ho : GR Qop b) : GR Q (brs T b) := fun S S' e => by
  obtain ⟨S2, g1, g2⟩ := pb_inv e
  have o2 : (cP S2 (cn S)).1 = 21 := by
    rw [(ho _ _ g1).2 (cn S) (Nat.lt_succ_self _)]
    show (cP (em 21 0 S) (cn S)).1 = 21
    rw [em_P]
  have c2 : cn S + 1 ≤ cn S2 := (ho _ _ g1).1
  split at g2
  · obtain ⟨S5, g3, g4⟩ := pb_inv g2
    cases g4
    have p1 : (cP (em 22 0 (adv S2)) (cn S)).1 = 21 := by
      rw [(Pre.em (S := adv S2) (o := 22) (a := 0)).2.1 (cn S) (by show cn S < cn S2; omega)]; exact o2
    have p2 : (cP S5 (cn S2)).1 = 22 := by
      rw [(ho _ _ g3).2 (cn S2) (Nat.lt_succ_self _)]
      show (cP (pat (cn S) (em 22 0 (adv S2))) (cn S2)).1 = 22
      rw [show (cP (pat (cn S) (em 22 0 (adv S2))) (cn S2)).1 = (cP (em 22 0 (adv S2)) (cn S2)).1 from up_op _]
      show (cP (em 22 0 (adv S2)) (cn (adv S2))).1 = 22
      rw [em_P]
    exact G.tr (GU_21 G S) (G.tr (h _ _ g1) (G.tr (G.adv S2) (G.tr (GU_22 G 0 _) (G.tr (G.ptt (cn S) _ (Or.inl p1)) (G.tr (h _ _ g3) (G.ptt _ _ (Or.inr p2)))))))
  · cases g2
    exact G.tr (GU_21 G S) (G.tr (h _ _ g1) (G.ptt _ _ (Or.inl o2)))
theorem GU_lop {Q : PT → PT → Prop} (G : GU Q) {b : PT → PR} {beg : Nat} (h : GR Q b) (ho : GR Qop b) : GR Q (lop b beg) := fun S S' e => by
  obtain ⟨S2, g1, g2⟩ := pb_inv e
  cases g2
  have o2 : (cP S2 (cn S)).1 = 21 := by
    rw [(ho _ _ g1).2 (cn S) (Nat.lt_succ_self _)]
    show (cP (em 21 0 S) (cn S)).1 = 21
    rw [em_P]
  have c2 : cn S + 1 ≤ cn S2 := (ho _ _ g1).1
  exact G.tr (GU_21 G S) (G.tr (h _ _ g1) (G.tr (GU_22 G _ _) (G.ptt _ _ (Or.inl (by
    rw [(Pre.em (S := S2) (o := 22) (a := nI (min beg 600))).2.1 (cn S) (by omega)]; exact o2)))))
theorem GU_cld {Q : PT → PT → Prop} (G : GU Q) (T : TD) : GR Q (cld T) := fun S S' e => by
  unfold cld at e
  split at e
  · split at e
    · cases e
    · exact G.tr (G.adv S) (GU_cls G T _ (by decide) (adv S) S' e)
  · cases e
theorem GU_ask {Q : PT → PT → Prop} (G : GU Q) (T : TD) : GR Q (ask T) := fun S S' e => by
  obtain ⟨S1, g1, g2⟩ := pb_inv e
  exact G.tr (GU_sgn G T 2 _ _ g1) (GU_cls G T _ (by decide) _ _ g2)
theorem GU_stF {Q : PT → PT → Prop} (G : GU Q) {T : TD} {k : Nat} {b : PT → PR} (h : GR Q b) (ho : GR Qop b) : GR Q (stF T k b) := fun S S' e => by
  have key : ∀ (K : Int32) (R : PT → PR), GR Q R → R (adv (bst K S)) = .ok S' → Q S S' := fun K R hR g => G.tr (G.bst K S) (G.tr (G.adv _) (hR _ _ g))
  by_cases hs : isSt (tK T (ti S))
  · by_cases h60 : 60 ≤ cS S
    · rw [stF_60 hs h60] at e; cases e
    · rw [stF_pos hs h60] at e
      split at e
      · exact key 8 _ (GU_pb G (GU_cnd G T k) (GU_brs G h ho)) e
      · split at e
        · exact key 10 _ (GU_pb G (GU_cnd G T k) (GU_lop G h ho)) e
        · split at e
          · exact key 0 _ (GU_pb G (GU_cnd G T k) (GU_cls G T 0 (by decide))) e
          · split at e
            · exact key 0 _ (GU_pb G (GU_cnd G T k) (GU_cls G T 0 (by decide))) e
            · split at e
              · exact key 0 _ (GU_pb G (GU_sgn G T 61) (GU_pb G (GU_rdI G T (k + 1)) (GU_cls G T _ (by decide)))) e
              · split at e
                · exact key 0 _ (GU_pb G (GU_plc G (GU_rdI G T k)) (GU_pb G (GU_sgn G T 61) (GU_pb G (GU_rdI G T (k + 1)) (GU_cls G T 0 (by decide))))) e
                · split at e
                  · exact key 0 _ (GU_cld G T) e
                  · split at e
                    · exact key 0 _ (GU_ask G T) e
                    · exact key 0 _ (GU_cls G T 0 (by decide)) e
  · rw [stF_neg hs] at e; cases e
theorem GU_bkI {Q : PT → PT → Prop} (G : GU Q) (T : TD) : ∀ k, GR Q (bkI T k)
  | 0 => GU_id G
  | k + 1 => GU_stF G (GU_blo G (GU_bkI G T k)) (GR_blo Qop_GQ (GR_bkI Qop_GQ T k))
theorem GU_stl {Q : PT → PT → Prop} (G : GU Q) (T : TD) : ∀ f, GR Q (stl T f)
  | 0 => GU_id G
  | f + 1 => fun S S' e => by
    rw [stl] at e
    split at e
    · cases e; exact G.rf S
    · obtain ⟨S1, g1, g2⟩ := pb_inv e
      exact G.tr (GU_bkI G T 11 _ _ g1) (GU_stl G T f _ _ g2)
theorem GU_prl {Q : PT → PT → Prop} (G : GU Q) (h24 : ∀ S, Q S (em 24 0 S)) (hR : ∀ v x S, Q S (seR v x S)) (T : TD) : ∀ f, GR Q (prl T f)
  | 0 => GU_id G
  | f + 1 => fun S S' e => by
    rw [prl] at e
    split at e
    · split at e
      · split at e
        · obtain ⟨S3, e1, e2⟩ := pb_inv e
          exact G.tr (G.adv S) (G.tr (G.adv _) (G.tr (GU_blo G (k := 10) (GU_bkI G T 10) _ _ e1) (G.tr (h24 S3) (G.tr (hR _ _ _) (GU_prl G h24 hR T f _ _ e2)))))
        · cases e
      · cases e
    · cases e; exact G.rf S
/-- each step's number is below how many there are -/
def BA (S : PT) : Prop := ∀ pc, pc < cn S → (cP S pc).1 = 0 ∨ (cP S pc).1 = 1 → ∃ s, s < cS S ∧ (cP S pc).2 = nI s
def Qb (S S' : PT) : Prop := BA S → BA S'
theorem BA_em {S : PT} {o : Nat} {a : Int32} (ho : o ≠ 0) (h1 : o ≠ 1) (h : BA S) : BA (em o a S) := fun pc hpc hx => by
  have hpc : pc < cn S + 1 := hpc
  by_cases g : pc = cn S
  · subst g; rw [em_P] at hx; exact absurd hx (fun q => q.elim ho h1)
  · have e := (Pre.em (S := S) (o := o) (a := a)).2.1 pc (by omega)
    rw [e] at hx ⊢
    exact h pc (by omega) hx
theorem BA_bst {k : Int32} {S : PT} (h : BA S) : BA (bst k S) := fun pc hpc hx => by
  have hpc : pc < cn S + 1 := hpc
  have eP : cP (bst k S) = cP (em (if k = 8 ∨ k = 10 then 1 else 0) (nI (cS S)) S) := rfl
  have eS' : cS (bst k S) = cS S + 1 := rfl
  rw [eP] at hx ⊢
  rw [eS']
  by_cases g : pc = cn S
  · subst g; rw [em_P]; exact ⟨cS S, Nat.lt_succ_self _, rfl⟩
  · have e := (Pre.em (S := S) (o := if k = 8 ∨ k = 10 then 1 else 0) (a := nI (cS S))).2.1 pc (by omega)
    rw [e] at hx ⊢
    obtain ⟨s, s1, s2⟩ := h pc (by omega) hx
    exact ⟨s, by omega, s2⟩
theorem BA_pat {j : Nat} {S : PT} (hj : (cP S j).1 = 21 ∨ (cP S j).1 = 22) (h : BA S) : BA (pat j S) := fun pc hpc hx => by
  have eP : cP (pat j S) = va_up (cP S) j ((cP S j).1, nI (min (cn S) 600)) := rfl
  rw [eP] at hx ⊢
  by_cases g : pc = j
  · subst g
    rw [up_s] at hx
    exfalso
    rcases hj with q | q <;> rw [show ((cP S pc).1, nI (min (cn S) 600)).1 = (cP S pc).1 from rfl, q] at hx <;> omega
  · rw [up_n _ _ g] at hx ⊢
    exact h pc hpc hx
theorem Qb_GU : GU Qb := ⟨fun _ h => h, fun x y h => y (x h), fun _ h => h, fun _ h => h, fun v S h => BA_em (S := noN S) (by decide) (by decide) h, fun k S h => BA_bst h, fun o a S _ h0 h1 _ _ h => BA_em h0 h1 h, fun j S hj h => BA_pat hj h⟩
theorem BA_rdP {T : TD} {S' : PT} (e : rdP T PT0 = .ok S') : BA S' := by
  obtain ⟨S1, e1, e2⟩ := pb_inv e
  obtain ⟨S2, e3, e4⟩ := pb_inv e2
  cases e4
  have n0 : BA PT0 := fun j hj => absurd hj (Nat.not_lt_zero _)
  have n1 : BA S1 := GU_prl Qb_GU (fun S h => BA_em (by decide) (by decide) h) (fun _ _ _ h => h) T 501 _ _ e1 n0
  have n2 : BA S2 := GU_stl Qb_GU T 501 (seB S1) _ e3 n1
  exact BA_em (by decide) (by decide) n2
