/-! PART 89: what the grammar writes down is well formed: a whole program -/
/-- a relation that every step of the reading keeps -/
def GQ (Q : PT → PT → Prop) : Prop := (∀ S, Q S S) ∧ (∀ {a b c : PT}, Q a b → Q b c → Q a c) ∧ (∀ S, Q S (adv S)) ∧ (∀ S, Q S (unU S)) ∧ (∀ v S, Q S (adN v S)) ∧ (∀ k S, Q S (bst k S)) ∧ (∀ o a S, o < 26 → o ≠ 0 → o ≠ 1 → o ≠ 2 → o ≠ 24 → Q S (em o a S)) ∧ (∀ j S, Q S (pat j S))
theorem GQ.rf {Q : PT → PT → Prop} (G : GQ Q) (S : PT) : Q S S := G.1 S
theorem GQ.tr {Q : PT → PT → Prop} (G : GQ Q) {a b c : PT} (x : Q a b) (y : Q b c) : Q a c := G.2.1 x y
theorem GQ.adv {Q : PT → PT → Prop} (G : GQ Q) (S : PT) : Q S (adv S) := G.2.2.1 S
theorem GQ.unU {Q : PT → PT → Prop} (G : GQ Q) (S : PT) : Q S (unU S) := G.2.2.2.1 S
theorem GQ.adN {Q : PT → PT → Prop} (G : GQ Q) (v : Int32) (S : PT) : Q S (adN v S) := G.2.2.2.2.1 v S
theorem GQ.bst {Q : PT → PT → Prop} (G : GQ Q) (k : Int32) (S : PT) : Q S (bst k S) := G.2.2.2.2.2.1 k S
theorem GQ.em {Q : PT → PT → Prop} (G : GQ Q) (o : Nat) (a : Int32) (S : PT) (h1 : o < 26) (h2 : o ≠ 0) (h3 : o ≠ 1) (h4 : o ≠ 2) (h5 : o ≠ 24) : Q S (em o a S) := G.2.2.2.2.2.2.1 o a S h1 h2 h3 h4 h5
theorem GQ.ptt {Q : PT → PT → Prop} (G : GQ Q) (j : Nat) (S : PT) : Q S (pat j S) := G.2.2.2.2.2.2.2 j S
def GR (Q : PT → PT → Prop) (R : PT → PR) : Prop := ∀ S S', R S = .ok S' → Q S S'
theorem GR_sgn {Q : PT → PT → Prop} (G : GQ Q) (T : TD) (ch : Int32) : GR Q (sgn T ch) := fun S S' e => by
  obtain ⟨rfl, -⟩ := sgn_ok e
  exact G.adv S
theorem GR_opn {Q : PT → PT → Prop} (G : GQ Q) (T : TD) (ch : Int32) (k : Nat) : GR Q (opn T ch k) := fun S S' e => by
  obtain ⟨rfl, -⟩ := opn_ok e
  exact G.adv S
theorem GR_pb {Q : PT → PT → Prop} (G : GQ Q) {R f : PT → PR} (h : GR Q R) (hf : GR Q f) : GR Q (fun S => pb (R S) f) := fun S S' e => by
  obtain ⟨S1, e1, e2⟩ := pb_inv e
  exact G.tr (h _ _ e1) (hf _ _ e2)
theorem GR_id {Q : PT → PT → Prop} (G : GQ Q) : GR Q (fun S => .ok S) := fun S S' e => by cases e; exact G.rf S
theorem GR_cls {Q : PT → PT → Prop} (G : GQ Q) (T : TD) {o : Nat} (a : Int32) (h : o < 26 ∧ o ≠ 0 ∧ o ≠ 1 ∧ o ≠ 2 ∧ o ≠ 24) : GR Q (cls T o a) := fun S S' e => G.tr (G.em o a S h.1 h.2.1 h.2.2.1 h.2.2.2.1 h.2.2.2.2) (GR_sgn G T 59 (em o a S) S' e)
theorem GR_plc {Q : PT → PT → Prop} (G : GQ Q) {T : TD} {k : Nat} {inn : PT → PR} (h : GR Q inn) : GR Q (plc T k inn) := GR_pb G (GR_opn G T 91 k) (GR_pb G h (GR_sgn G T 93))
theorem GR_unF {Q : PT → PT → Prop} (G : GQ Q) {T : TD} {k : Nat} {inn : PT → PR} (h : GR Q inn) : GR Q (unF T k inn) := fun S S' e => by
  unfold unF at e
  split at e
  · cases e
  · split at e
    · cases e
    · split at e
      · exact G.tr (G.unU S) (GR_pb G (GR_opn G T 40 k) (GR_pb G h (GR_sgn G T 41)) _ S' e)
      · split at e
        · obtain ⟨S1, g1, g2⟩ := pb_inv e
          cases g2
          exact G.tr (G.unU S) (G.tr (G.adv _) (G.tr (GR_plc G h _ S1 g1) (G.em _ _ _ (by decide) (by decide) (by decide) (by decide) (by decide))))
        · split at e
          · cases e
            exact G.tr (G.unU S) (G.tr (G.adv _) (G.adN _ _))
          · cases e
            exact G.tr (G.unU S) (G.tr (G.adv _) (G.em _ _ _ (by decide) (by decide) (by decide) (by decide) (by decide)))
theorem GR_olp {Q : PT → PT → Prop} (G : GQ Q) {T : TD} {c1 c2 : Int32} {o1 o2 : Nat} {u : PT → PR} (ho : (3 ≤ o1 ∧ o1 < 24) ∧ (3 ≤ o2 ∧ o2 < 24)) (h : GR Q u) : ∀ f, GR Q (olp T c1 c2 o1 o2 u f)
  | 0 => GR_id G
  | f + 1 => fun S S' e => by
    rw [olp] at e
    split at e
    · obtain ⟨S1, g1, g2⟩ := pb_inv e
      have hx : 3 ≤ (if tK T (ti S) = c1 then o1 else o2) ∧ (if tK T (ti S) = c1 then o1 else o2) < 24 := by split <;> omega
      exact G.tr (G.adv S) (G.tr (h _ _ g1) (G.tr (G.em _ _ _ (by omega) (by omega) (by omega) (by omega) (by omega)) (GR_olp G ho h f _ _ g2)))
    · cases e; exact G.rf S
theorem GR_rdI {Q : PT → PT → Prop} (G : GQ Q) (T : TD) : ∀ k, GR Q (rdI T k)
  | 0 => GR_id G
  | k + 1 => GR_pb G (GR_pb G (GR_unF G (k := k) (GR_rdI G T k)) (GR_olp G (by decide) (GR_unF G (k := k) (GR_rdI G T k)) 501)) (GR_olp G (by decide) (GR_pb G (GR_unF G (k := k) (GR_rdI G T k)) (GR_olp G (by decide) (GR_unF G (k := k) (GR_rdI G T k)) 501)) 501)
theorem GR_tst {Q : PT → PT → Prop} (G : GQ Q) (T : TD) (k : Nat) : GR Q (tst T k) := fun S S' e => by
  obtain ⟨S1, g1, g2⟩ := pb_inv e
  split at g2
  · obtain ⟨S2, g3, g4⟩ := pb_inv g2
    cases g4
    have hx : 9 ≤ rlo T (ti S1) ∧ rlo T (ti S1) ≤ 12 := by unfold rlo; (repeat' split) <;> omega
    exact G.tr (GR_rdI G T (k + 1) _ _ g1) (G.tr (G.adv S1) (G.tr (GR_rdI G T (k + 1) _ _ g3) (G.em _ _ _ (by omega) (by omega) (by omega) (by omega) (by omega))))
  · cases g2
theorem GR_or {Q : PT → PT → Prop} (G : GQ Q) (o : Nat) (h : o = 13 ∨ o = 14) (S : PT) : Q S (em o 0 S) := G.em _ _ _ (by omega) (by omega) (by omega) (by omega) (by omega)
theorem GR_clp {Q : PT → PT → Prop} (G : GQ Q) (T : TD) (k : Nat) : ∀ (f : Nat) (w : Bool), GR Q (clp T k f w)
  | 0, w => fun S S' e => by
    rw [clp] at e
    cases w <;> cases e
    · exact G.rf S
    · exact GR_or G 14 (Or.inr rfl) S
  | f + 1, w => fun S S' e => by
    rw [clp] at e
    have hw : Q S (if w = true then em 14 0 S else S) := by
      split
      · exact GR_or G 14 (Or.inr rfl) S
      · exact G.rf S
    split at e
    · obtain ⟨S1, g1, g2⟩ := pb_inv e
      exact G.tr hw (G.tr (G.adv _) (G.tr (GR_tst G T k _ _ g1) (GR_clp G T k f true _ _ g2)))
    · split at e
      · obtain ⟨S1, g1, g2⟩ := pb_inv e
        exact G.tr (G.adv _) (G.tr (GR_tst G T k _ _ g1) (G.tr (GR_or G 13 (Or.inl rfl) S1) (GR_clp G T k f w _ _ g2)))
      · cases e
        exact hw
theorem GR_cnd {Q : PT → PT → Prop} (G : GQ Q) (T : TD) (k : Nat) : GR Q (cnd T k) := GR_pb G (GR_tst G T k) (GR_clp G T k 501 false)
theorem GR_blp {Q : PT → PT → Prop} (G : GQ Q) {T : TD} {s : PT → PR} (h : GR Q s) : ∀ f, GR Q (blp T s f)
  | 0 => GR_id G
  | f + 1 => fun S S' e => by
    rw [blp] at e
    split at e
    · cases e; exact G.rf S
    · obtain ⟨S1, g1, g2⟩ := pb_inv e
      exact G.tr (h _ _ g1) (GR_blp G h f _ _ g2)
theorem GR_blo {Q : PT → PT → Prop} (G : GQ Q) {T : TD} {k : Nat} {s : PT → PR} (h : GR Q s) : GR Q (blo T k s) := GR_pb G (GR_opn G T 123 k) (GR_pb G (GR_blp G h 501) (GR_sgn G T 125))
theorem GR_21 {Q : PT → PT → Prop} (G : GQ Q) (S : PT) : Q S (em 21 0 S) := G.em _ _ _ (by decide) (by decide) (by decide) (by decide) (by decide)
theorem GR_22 {Q : PT → PT → Prop} (G : GQ Q) (a : Int32) (S : PT) : Q S (em 22 a S) := G.em _ _ _ (by decide) (by decide) (by decide) (by decide) (by decide)
theorem GR_brs {Q : PT → PT → Prop} (G : GQ Q) {T : TD} {b : PT → PR} (h : GR Q b) : GR Q (brs T b) := fun S S' e => by
  obtain ⟨S2, g1, g2⟩ := pb_inv e
  split at g2
  · obtain ⟨S5, g3, g4⟩ := pb_inv g2
    cases g4
    exact G.tr (GR_21 G S) (G.tr (h _ _ g1) (G.tr (G.adv S2) (G.tr (GR_22 G 0 _) (G.tr (G.ptt (cn S) _) (G.tr (h _ _ g3) (G.ptt _ _))))))
  · cases g2
    exact G.tr (GR_21 G S) (G.tr (h _ _ g1) (G.ptt _ _))
theorem GR_lop {Q : PT → PT → Prop} (G : GQ Q) {b : PT → PR} {beg : Nat} (h : GR Q b) : GR Q (lop b beg) := fun S S' e => by
  obtain ⟨S2, g1, g2⟩ := pb_inv e
  cases g2
  exact G.tr (GR_21 G S) (G.tr (h _ _ g1) (G.tr (GR_22 G _ _) (G.ptt _ _)))
theorem GR_cld {Q : PT → PT → Prop} (G : GQ Q) (T : TD) : GR Q (cld T) := fun S S' e => by
  unfold cld at e
  split at e
  · split at e
    · cases e
    · exact G.tr (G.adv S) (GR_cls G T _ (by decide) (adv S) S' e)
  · cases e
theorem GR_ask {Q : PT → PT → Prop} (G : GQ Q) (T : TD) : GR Q (ask T) := fun S S' e => by
  obtain ⟨S1, g1, g2⟩ := pb_inv e
  exact G.tr (GR_sgn G T 2 _ _ g1) (GR_cls G T _ (by decide) _ _ g2)
theorem GR_stF {Q : PT → PT → Prop} (G : GQ Q) {T : TD} {k : Nat} {b : PT → PR} (h : GR Q b) : GR Q (stF T k b) := fun S S' e => by
  have key : ∀ (K : Int32) (R : PT → PR), GR Q R → R (adv (bst K S)) = .ok S' → Q S S' := fun K R hR g => G.tr (G.bst K S) (G.tr (G.adv _) (hR _ _ g))
  by_cases hs : isSt (tK T (ti S))
  · by_cases h60 : 60 ≤ cS S
    · rw [stF_60 hs h60] at e; cases e
    · rw [stF_pos hs h60] at e
      split at e
      · exact key 8 _ (GR_pb G (GR_cnd G T k) (GR_brs G h)) e
      · split at e
        · exact key 10 _ (GR_pb G (GR_cnd G T k) (GR_lop G h)) e
        · split at e
          · exact key 0 _ (GR_pb G (GR_cnd G T k) (GR_cls G T 0 (by decide))) e
          · split at e
            · exact key 0 _ (GR_pb G (GR_cnd G T k) (GR_cls G T 0 (by decide))) e
            · split at e
              · exact key 0 _ (GR_pb G (GR_sgn G T 61) (GR_pb G (GR_rdI G T (k + 1)) (GR_cls G T _ (by decide)))) e
              · split at e
                · exact key 0 _ (GR_pb G (GR_plc G (GR_rdI G T k)) (GR_pb G (GR_sgn G T 61) (GR_pb G (GR_rdI G T (k + 1)) (GR_cls G T 0 (by decide))))) e
                · split at e
                  · exact key 0 _ (GR_cld G T) e
                  · split at e
                    · exact key 0 _ (GR_ask G T) e
                    · exact key 0 _ (GR_cls G T 0 (by decide)) e
  · rw [stF_neg hs] at e; cases e
theorem GR_bkI {Q : PT → PT → Prop} (G : GQ Q) (T : TD) : ∀ k, GR Q (bkI T k)
  | 0 => GR_id G
  | k + 1 => GR_stF G (GR_blo G (GR_bkI G T k))
theorem GR_stl {Q : PT → PT → Prop} (G : GQ Q) (T : TD) : ∀ f, GR Q (stl T f)
  | 0 => GR_id G
  | f + 1 => fun S S' e => by
    rw [stl] at e
    split at e
    · cases e; exact G.rf S
    · obtain ⟨S1, g1, g2⟩ := pb_inv e
      exact G.tr (GR_bkI G T 11 _ _ g1) (GR_stl G T f _ _ g2)
/-- what is written is in one part -/
def Qg (S S' : PT) : Prop := cn S ≤ cn S' ∧ (∀ i, i ≤ cn S → cG S' i = cG S i) ∧ (∀ i, cn S ≤ i → i ≤ cn S' → cG S' i = cG S (cn S))
theorem Qg_sm {S S' : PT} (h : cn S' = cn S) (hg : cG S' = cG S) : Qg S S' := ⟨by omega, fun i _ => by rw [hg], fun i a b => by rw [hg, show i = cn S by omega]⟩
theorem Qg_em {S S' : PT} (h : cn S' = cn S + 1) (hg : ∀ i, cG S' i = va_up (cG S) (cn S + 1) (cG S (cn S)) i) : Qg S S' := ⟨by omega, fun i hi => (hg i).trans (up_n _ _ (by omega)), fun i a b => by
  rcases (show i = cn S ∨ i = cn S + 1 by omega) with rfl | rfl
  · exact (hg _).trans (up_n _ _ (by omega))
  · exact (hg _).trans (up_s _ _ _)⟩
theorem Qg_GQ : GQ Qg := ⟨fun S => Qg_sm rfl rfl,
  fun {a b c} x y => ⟨Nat.le_trans x.1 y.1, fun i hi => (y.2.1 i (Nat.le_trans hi x.1)).trans (x.2.1 i hi), fun i h1 h2 => by
    by_cases g : i ≤ cn b
    · exact (y.2.1 i g).trans (x.2.2 i h1 g)
    · exact (y.2.2 i (by omega) h2).trans (x.2.2 (cn b) x.1 (Nat.le_refl _))⟩,
  fun S => Qg_sm rfl rfl,
  fun S => Qg_sm rfl rfl,
  fun v S => Qg_em rfl (fun i => rfl),
  fun k S => Qg_em rfl (fun i => by
    show va_up (cG S) (cn S + 1) (cG S (cn S) + (if (if k = 8 ∨ k = 10 then 1 else 0) = 24 then 1 else 0)) i = _
    rw [if_neg (by split <;> decide)]; rfl),
  fun o a S _ _ _ _ h => Qg_em rfl (fun i => by
    show va_up (cG S) (cn S + 1) (cG S (cn S) + (if o = 24 then 1 else 0)) i = _
    rw [if_neg h]; rfl),
  fun j S => Qg_sm rfl rfl⟩
/-- procs: parts ahead are of lower numbers -/
theorem G_prl {T : TD} (hT : tFul T) : ∀ (f : Nat) (S S' : PT), prl T f S = .ok S' → cn S' ≤ 600 → cG S (cn S) = np (cR S) → (∀ i, i < cn S → cG S i < np (cR S)) → cG S' (cn S') = np (cR S') ∧ (∀ i, i < cn S' → cG S' i < np (cR S'))
  | 0, S, S', e, _, h1, h2 => by cases e; exact ⟨h1, h2⟩
  | f + 1, S, S', e, h6, h1, h2 => by
    rw [prl] at e
    split at e
    · split at e
      · next q3 =>
        split at e
        · next hR =>
          obtain ⟨S3, e1, e2⟩ := pb_inv e
          obtain ⟨v, hv, eV⟩ := hT.1.2.2.2.2.2.1 (ti S + 1) (hT.le (by rw [q3]; decide)) q3
          rw [eV, nI_clamp (show v < 2 ^ 31 by omega)] at hR e2
          have cR3 : cR S3 = cR S := (Mb_blo (T := T) (k := 10) (Mb_bkI T 10) _ _ e1).2.2.2
          have qg : Qg (adv (adv S)) S3 := GR_blo Qg_GQ (T := T) (k := 10) (GR_bkI Qg_GQ T 10) _ _ e1
          obtain ⟨q1, q2, q4⟩ := qg
          have c1 : cn (adv (adv S)) = cn S := rfl
          have g1 : cG (adv (adv S)) = cG S := rfl
          rw [c1] at q1
          rw [c1, g1] at q2 q4
          have mc := (Ma_prl hT f _ _ e2 h6).2.2
          have mc : cn S3 + 1 ≤ cn S' := mc
          have hn : np (va_up (cR S3) v (nI (min (cn S) 600))) = np (cR S) + 1 := by rw [cR3]; exact (np_up hv hR (nI_m1 (by omega))).1
          have e6 : cR (seR v (nI (min (cn S) 600)) (em 24 0 S3)) = va_up (cR S3) v (nI (min (cn S) 600)) := rfl
          refine G_prl hT f _ S' e2 h6 ?_ ?_
          · rw [e6, hn]
            show cG (em 24 0 S3) (cn S3 + 1) = _
            rw [em_G, q4 (cn S3) q1 (Nat.le_refl _), h1]; rfl
          · intro i hi
            have hi : i < cn S3 + 1 := hi
            rw [e6, hn]
            show cG (em 24 0 S3) i < _
            rw [show cG (em 24 0 S3) i = cG S3 i from up_n _ _ (by omega)]
            by_cases g : i < cn S
            · rw [q2 i (by omega)]; exact Nat.lt_succ_of_lt (h2 i g)
            · rw [q4 i (by omega) (by omega), h1]; exact Nat.lt_succ_self _
        · cases e
      · cases e
    · cases e; exact ⟨h1, h2⟩
/-- ahead of the main part: it is a part of its own -/
theorem W_seB {g : Nat} {S : PT} (h : Wf (fun _ => False) g false [] S) (hp : PRC g S) (hG : ∀ i, i < cn S → cG S i < g) (hg : g ≤ 4) : Wf (fun _ => False) 4 false [] (seB S) ∧ PRC 4 (seB S) := by
  obtain ⟨h1, h2, h3, h4⟩ := h
  have hs : ∀ i, i < cn S → cG (seB S) i = cG S i := fun i hi => up_n _ _ (by omega)
  refine ⟨⟨fun pc hpc hA => ?_, h2, up_s _ _ _, h4⟩, fun v hv => ?_⟩
  · have hpc : pc < cn S := hpc
    obtain ⟨k1, k2, k3, k4⟩ := h1 pc hpc hA
    have gp := hG pc hpc
    have nn : ∀ t, t ≤ cn S → cG S t = cG S pc → cG (seB S) t = cG (seB S) pc := fun t ht e => by
      rcases Nat.lt_or_ge t (cn S) with z | z
      · rw [hs t z, hs pc hpc, e]
      · have : t = cn S := by omega
        subst this
        exfalso; omega
    refine ⟨k1, by rw [hs pc hpc]; exact k2, fun x => ?_, ?_⟩
    · obtain ⟨b1, b2, b3⟩ := k3 x
      exact ⟨b1, nn _ b1 b2, b3⟩
    · show (match (cP S pc).1 with | _ => _)
      generalize hr : cP S pc = r at k4
      have hr2 : cP (seB S) pc = r := hr
      simp only [hr2]
      obtain ⟨o, a⟩ := r
      dsimp only at k4 ⊢
      split at k4
      all_goals (try dsimp only)
      all_goals first | exact k4 | skip
      · obtain ⟨b1, b2, b3, t, b4, b5, b6, b7, b8, b9, b10⟩ := k4
        exact ⟨b1, b2, b3, t, b4, b5, b6, b7, nn t b6 b8, b9, b10⟩
      · obtain ⟨b1, t, b4, b6, b7, b8, b9⟩ := k4
        exact ⟨b1, t, b4, b6, b7, nn t b6 b8, b9⟩
      · obtain ⟨b1, b2, t, b4, b6, b7, b8, b9⟩ := k4
        exact ⟨b1, b2, t, b4, b6, b7, by rw [hs t b6, hs pc hpc]; exact b8, b9⟩
      · exact ⟨k4.1, by rw [hs pc hpc]; exact k4.2⟩
  · rcases hp v hv with q | ⟨t, a1, a2, a3, a4, a5, a6⟩
    · exact Or.inl q
    · exact Or.inr ⟨t, a1, a2, a3, by rw [hs t a2]; omega, a5, a6⟩
theorem okl_end {P P' : Nat → Nat × Int32} {n : Nat} {ty ty' : Nat → List Bool} {sg sg' : Nat → Nat} {pc : Nat} (h : okl P n ty sg pc) (hpc : pc < n) (hP : ∀ i, i < n → P' i = P i) (hn : P' n = (25, 0)) (ht : ∀ i, i ≤ n → ty' i = ty i) (hs : ∀ i, i ≤ n → sg' i = sg i) : p_ok P' (n + 1) ty' sg' pc := by
  have dc : ∀ t, t ≤ n → p_dc P' t = p_dc P t := fun t htn => p_dc_c t (fun i hi => by rw [hP i (by omega)])
  have op : ∀ t, t ≤ n → (t < n → (P t).1 ≠ 23) → (P' t).1 ≠ 23 := fun t a b => by
    by_cases g : t < n
    · rw [hP t g]; exact b g
    · have : t = n := by omega
      subst this; rw [hn]; show (25 : Nat) ≠ 23; decide
  have t1 := ht pc (by omega)
  have s1 := hs pc (by omega)
  have t3 := ht (pc + 1) (by omega)
  obtain ⟨h1, h2, h3, h4⟩ := h
  refine ⟨by rw [t1]; exact h1, by rw [s1]; exact h2, ?_, ?_⟩
  · rw [hP pc hpc]
    intro x
    obtain ⟨b1, b2, b3⟩ := h3 x
    exact ⟨by omega, by rw [hs (pc + 1) (by omega), s1]; exact b2, fun y => op (pc + 1) (by omega) (fun z => b3 z y)⟩
  · rw [hP pc hpc]
    generalize P pc = r at h4 ⊢
    obtain ⟨o, a⟩ := r
    dsimp only at h4 ⊢
    split at h4
    all_goals (try dsimp only)
    all_goals (try rw [t1]) <;> (try rw [t3])
    all_goals first | exact h4 | exact False.elim h4 | skip
    · obtain ⟨b1, b2, b3, t, b4, b5, b6, b7, b8, b9, b10⟩ := h4
      exact ⟨b1, b2, by rw [dc pc (by omega)]; exact b3, t, b4, b5, by omega, by rw [ht t b6]; exact b7, by rw [hs t b6, s1]; exact b8, op t b6 b9, by rw [dc t b6]; exact b10⟩
    · obtain ⟨b1, t, b4, b6, b7, b8, b9, b10, b11⟩ := h4
      refine ⟨b1, t, b4, by omega, by rw [ht t b6]; exact b7, by rw [hs t b6, s1]; exact b8, op t b6 b9, by rw [dc t b6]; exact b10, ?_⟩
      rcases b11 with g | ⟨g, g2⟩
      · exact Or.inl g
      · exact Or.inr (by rw [hP t g]; exact g2)
    · obtain ⟨b1, b2, t, b4, b6, b7, b8, b9, b10⟩ := h4
      exact ⟨b1, b2, t, b4, by omega, by rw [ht t (by omega)]; exact b7, by rw [hs t (by omega), s1]; exact b8, by rw [hP t b6]; exact b9, by rw [dc t (by omega)]; exact b10⟩
    · exact ⟨h4.1, by rw [s1]; exact h4.2⟩
/-- a whole program is well formed -/
theorem W_rdP {T : TD} (hT : tFul T) {S' : PT} (e : rdP T PT0 = .ok S') (h6 : cn S' ≤ 600) (hS : cS S' ≤ 60) : p_WF (cP S') (cn S') (cB S') (cT S') (cG S') := by
  obtain ⟨S1, e1, e2⟩ := pb_inv e
  obtain ⟨S2, e3, e4⟩ := pb_inv e2
  cases e4
  have h6' : cn S2 + 1 ≤ 600 := h6
  have qs := GR_stl Qg_GQ T 501 _ _ e3
  have m12 : cn S1 ≤ cn S2 := qs.1
  have w0 : Wf (fun _ => False) (np (cR PT0)) false [] PT0 := ⟨fun pc hpc => absurd hpc (Nat.not_lt_zero _), rfl, rfl, rfl⟩
  have r0 : PRC (np (cR PT0)) PT0 := fun v _ => Or.inl rfl
  obtain ⟨w1, r1, -⟩ := W_prl hT 501 PT0 S1 e1 w0 r0 (by omega)
  obtain ⟨-, g1⟩ := G_prl hT 501 PT0 S1 e1 (by omega) rfl (fun i hi => absurd hi (Nat.not_lt_zero _))
  have a1 := Ma_prl hT 501 PT0 S1 e1 (by omega)
  obtain ⟨w2, r2⟩ := W_seB w1 r1 g1 (np_le _)
  obtain ⟨w3, p3, q3⟩ := W_stl hT 501 4 (seB S1) S2 e3 w2 (Nat.le_refl _) r2 (by omega)
  have a2 := Ma_stl T 501 _ _ e3
  have cB2 : cB S2 = cn S1 := (Mb_stl T 501 _ _ e3).1
  obtain ⟨v1, v2, v3, v4⟩ := w3
  have E : Pre S2 (em 25 0 S2) := Pre.em
  have eT : cT (em 25 0 S2) (cn S2) = [] := (E.2.2 _ (Nat.le_refl _)).1.trans v2
  have eG : cG (em 25 0 S2) (cn S2) = 4 := (E.2.2 _ (Nat.le_refl _)).2.trans v3
  have eP : cP (em 25 0 S2) (cn S2) = (25, 0) := em_P
  have inv : INV (fun _ => False) (em 25 0 S2) := v1.em (by decide) (fun _ => ⟨by rw [eT]; decide, by rw [eG]; decide, fun x => absurd (by rw [eP]) x.2.2.2, by rw [eP]; exact eT⟩)
  have cBe : cB (em 25 0 S2) = cn S1 := cB2
  have cne : cn (em 25 0 S2) = cn S2 + 1 := rfl
  have P13 : Pre (seB S1) (em 25 0 S2) := p3.tr E
  have c1 : cn (seB S1) = cn S1 := rfl
  rw [cBe, cne]
  refine ⟨h6', by omega, ?_, ?_, ?_, ?_, ?_, fun pc hpc => ?_⟩
  · rw [(P13.2.2 (cn S1) (by omega)).1]; exact w2.2.1
  · rw [(P13.2.2 (cn S1) (by omega)).2]; exact w2.2.2.1
  · rw [P13.dc (t := cn S1) (by omega)]; exact w2.2.2.2
  · by_cases g : cn S1 < cn S2
    · rw [E.2.1 _ g]
      rcases q3 (by omega) with z | z
      · exact Or.inl z
      · exact Or.inr (Or.inl z)
    · have : cn S1 = cn S2 := by omega
      rw [this, eP]; exact Or.inr (Or.inr rfl)
  · show ac (em 25 0 S2) ≤ 125
    rw [ac_em, if_pos (by decide)]
    have s0 : cS PT0 = 0 := rfl
    have z0 : ac PT0 = 0 := rfl
    have n0 : np (cR PT0) = 0 := rfl
    have n4 := np_le (cR S1)
    have b1 : cS (seB S1) = cS S1 := rfl
    have b2 : ac (seB S1) = ac S1 := rfl
    have b3 : cS (em 25 0 S2) = cS S2 := rfl
    rw [s0, z0, n0] at a1
    rw [b1, b2] at a2
    rw [b3] at hS
    omega
  · rcases Nat.lt_or_ge pc (cn S2) with g | g
    · exact okl_end (v1 pc g id) g E.2.1 eP (fun i hi => (E.2.2 i hi).1) (fun i hi => (E.2.2 i hi).2)
    · have : pc = cn S2 := by omega
      subst this
      refine ⟨by rw [eT]; decide, by rw [eG]; decide, fun x => absurd (by rw [eP]) x.2.2.2, ?_⟩
      rw [eP]; exact eT
