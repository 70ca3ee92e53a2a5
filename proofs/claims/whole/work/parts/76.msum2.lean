/-! PART 76: the reference's reading: a sum is the grammar's sum -/
section MS2
variable {X : aw_X} {d : Nat} {Q : Option Value → aw_H → Prop} {D : Nat → Nat} {C : MC} {bs : List (Nat × Nat × Nat)}
theorem Q293_1 {I : Nat → Nat → Int32} {L : Nat → Nat → Int64} (h : aw_z X (d + 4) y_M_readSum Q 14 [some (.ref 69), some (.int 0), none, none] [] (aw_s I L D)) : Q293 X d Q (some (.int 1)) (aw_s I L D) := b_M_readSum_293 (fun _ => h) (fun x => absurd x (by decide))
theorem Q293_0 {I : Nat → Nat → Int32} {L : Nat → Nat → Int64} (h : Q (some (.int 0)) (aw_s I L D)) : Q293 X d Q (some (.int 0)) (aw_s I L D) := b_M_readSum_293 (fun x => absurd rfl x) (fun _ => h)
/-- a unit at level k is read as the grammar's: from anywhere in the reference's sum -/
def MUp (X : aw_X) (d : Nat) (D : Nat → Nat) (C : MC) (bs : List (Nat × Nat × Nat)) (Q : Option Value → aw_H → Prop) (k : Nat) : Prop :=
  ∀ (p : List Nat) (S : PT) (Q' : Option Value → aw_H → Prop), (∀ o, o ∈ p → o ≤ 27) → p.length + 3 * k ≤ 36 → cn S ≤ ti S + mDl C →
    (∀ I L, aw_z X (d + 4) y_M_readSum Q 14 [some (.ref 69), some (.int (0 : Int32)), none, none] [] (aw_s I L D) → Q' (some (.int 1)) (aw_s I L D)) → (∀ I L, Q (some (.int 0)) (aw_s I L D) → Q' (some (.int 0)) (aw_s I L D)) →
    (∀ S', unF (mTd C) k (rdI (mTd C) k) S = .ok S' → HDp X d D C bs Q S' p k) → (∀ e, unF (mTd C) k (rdI (mTd C) k) S = .error e → FLp D C Q e) →
    ∀ I L, MP C S p k bs I L → aw_z X (d + 3) y_M_readUnit Q' 0 [some (.ref 69), none] [] (aw_s I L D)
/-- a sum at level k -/
def MSp (X : aw_X) (d : Nat) (D : Nat → Nat) (C : MC) (bs : List (Nat × Nat × Nat)) (Q : Option Value → aw_H → Prop) (k : Nat) : Prop :=
  ∀ (p : List Nat) (S : PT) (Q' : Option Value → aw_H → Prop), brk p → (∀ o, o ∈ p → o ≤ 27) → p.length + 3 * k ≤ 34 → cn S ≤ ti S + mDl C →
    (∀ I L, aw_z X (d + 4) y_M_readSum Q 14 [some (.ref 69), some (.int (0 : Int32)), none, none] [] (aw_s I L D) → Q' (some (.int 1)) (aw_s I L D)) → (∀ I L, Q (some (.int 0)) (aw_s I L D) → Q' (some (.int 0)) (aw_s I L D)) →
    (∀ S' S'' m a, rdI (mTd C) (k + 1) S = .ok S' → S' = fl (m ++ a) S'' → isMu m → isAl a → notOp (tK (mTd C) (ti S'')) → HDp X d D C bs Q S'' (m ++ a ++ p) k) → (∀ e, rdI (mTd C) (k + 1) S = .error e → FLp D C Q e) →
    ∀ I L, MP C S p k bs I L → aw_z X (d + 3) y_M_readUnit Q' 0 [some (.ref 69), none] [] (aw_s I L D)
theorem m_unitU {k : Nat} (hC : mOK C) (hk : k ≤ 10) (hs : 0 < k → MSp X d D C bs Q (k - 1)) : MUp X d D C bs Q k := by
  intro p S Q' hf hl hG hq1 hq0 hok her I L h
  refine m_unit1 (inn := rdI (mTd C) k) hC h hG (by omega) (fun S' e I' L' h' => hq1 I' L' (hok S' e I' L' h')) (fun hk0 eu I' L' h' => ?_) (fun hk0 eu I' L' h' => ?_) (fun e he I' L' h' => hq0 I' L' (her e he I' L' h'))
  · have ek : k - 1 + 1 = k := by omega
    refine hs hk0 (26 :: p) (adv (unU S)) Q' (Or.inr ⟨26, p, rfl, Or.inl rfl⟩) (fun o ho => ?_) (by simp; omega) (by show cn S ≤ ti S + 1 + mDl C; omega) hq1 hq0 (fun S' S'' m a e1 e2 hm ha hno I1 L1 h1 => ?_) (fun e he => her e ?_) I' L' h'
    · rcases List.mem_cons.mp ho with rfl | ho
      · decide
      · exact hf o ho
    · rw [ek] at e1
      have hmo := Mo_rdI (mTd C) k _ _ e1
      have e3 : cn (adv (unU S)) = cn S := rfl
      have e4 : ti (adv (unU S)) = ti S + 1 := rfl
      have e5 : cn S' = cn S'' + (m ++ a).length := by rw [e2, fl_cn]
      have e6 : ti S' = ti S'' := by rw [e2, fl_ti]
      rw [List.length_append] at e5
      rw [e1, pb_ok] at eu
      refine m_end hC hm ha (Or.inr ⟨26, p, rfl, Or.inl rfl⟩) (fun o ho => ?_) (by simp; omega) (fun _ => by omega) (by omega) hno h1 (fun x => by cases x) (fun q eq hK I2 L2 h2 => ?_) (fun q eq => by cases eq) (fun _ n1 _ I2 L2 h2 => ?_)
      · rcases List.mem_cons.mp ho with rfl | ho
        · decide
        · exact hf o ho
      · cases eq
        rw [← e2, ek] at h2
        exact hok (adv S') (by rw [eu, sgn, if_pos (by rw [e6]; exact hK)]) I2 L2 h2
      · refine her (1, ti S') ?_ I2 L2 (by rw [e6]; exact h2)
        rw [eu, sgn, if_neg (fun x => n1 ⟨⟨p, rfl⟩, by rw [← e6]; exact x⟩)]
    · rw [ek] at he
      rw [eu, he]; rfl
  · have ek : k - 1 + 1 = k := by omega
    refine hs hk0 (27 :: p) (adv (adv (unU S))) Q' (Or.inr ⟨27, p, rfl, Or.inr rfl⟩) (fun o ho => ?_) (by simp; omega) (by show cn S ≤ ti S + 1 + 1 + mDl C; omega) hq1 hq0 (fun S' S'' m a e1 e2 hm ha hno I1 L1 h1 => ?_) (fun e he => her e ?_) I' L' h'
    · rcases List.mem_cons.mp ho with rfl | ho
      · decide
      · exact hf o ho
    · rw [ek] at e1
      have hmo := Mo_rdI (mTd C) k _ _ e1
      have e3 : cn (adv (adv (unU S))) = cn S := rfl
      have e4 : ti (adv (adv (unU S))) = ti S + 2 := rfl
      have e5 : cn S' = cn S'' + (m ++ a).length := by rw [e2, fl_cn]
      have e6 : ti S' = ti S'' := by rw [e2, fl_ti]
      rw [List.length_append] at e5
      rw [e1, pb_ok] at eu
      refine m_end hC hm ha (Or.inr ⟨27, p, rfl, Or.inr rfl⟩) (fun o ho => ?_) (by simp; omega) (fun _ => by omega) (by omega) hno h1 (fun x => by cases x) (fun q eq => by cases eq) (fun q eq hK I2 L2 h2 => ?_) (fun _ _ n2 I2 L2 h2 => ?_)
      · rcases List.mem_cons.mp ho with rfl | ho
        · decide
        · exact hf o ho
      · cases eq
        rw [← e2, ek] at h2
        exact hok (adv (em 4 0 S')) (by rw [eu, sgn, if_pos (by rw [e6]; exact hK)]; rfl) I2 L2 h2
      · refine her (1, ti S') ?_ I2 L2 (by rw [e6]; exact h2)
        rw [eu, sgn, if_neg (fun x => n2 ⟨⟨p, rfl⟩, by rw [← e6]; exact x⟩)]
        rfl
    · rw [ek] at he
      rw [eu, he]; rfl
/-- further factors -/
theorem m_PL {k : Nat} {p : List Nat} (hC : mOK C) (hk : k ≤ 10) (hu : MUp X d D C bs Q k) (hb : brk p) (hf : ∀ o, o ∈ p → o ≤ 27) (hl : p.length + 3 * k ≤ 34) : ∀ (f : Nat) (S : PT) (m a : List Nat), isMu m → isAl a → (mTd C).1 < ti S + f → cn S + m.length + a.length ≤ ti S + mDl C →
    (∀ S' S'' m', olp (mTd C) 42 47 7 8 (unF (mTd C) k (rdI (mTd C) k)) f (fl m S) = .ok S' → S' = fl m' S'' → isMu m' → ¬ tK (mTd C) (ti S'') = 42 → ¬ tK (mTd C) (ti S'') = 47 → HDp X d D C bs Q S'' (m' ++ a ++ p) k) → (∀ e, olp (mTd C) 42 47 7 8 (unF (mTd C) k (rdI (mTd C) k)) f (fl m S) = .error e → FLp D C Q e) →
    HDp X d D C bs Q S (m ++ a ++ p) k
  | 0, S, m, a, _, _, hfu, _, _, _ => fun I L h => absurd h.2.2.1.1 (by omega)
  | f + 1, S, m, a, hm, ha, hfu, hG, hok, her => fun I L h => by
    have hal := (isAl_b ha).2
    by_cases hK : tK (mTd C) (ti S) = 42 ∨ tK (mTd C) (ti S) = 47
    · have step : ∀ o : Nat, (if tK (mTd C) (ti S) = 42 then 7 else 8) = o → isMu [o] → ∀ I' L', MP C (adv (fl m S)) (o :: (a ++ p)) k bs I' L' → aw_m X (d + 3) y_M_readUnit [.ref 69] (aw_s I' L' D) (Q293 X d Q) := by
        intro o ho hmo I' L' h'
        have e : olp (mTd C) 42 47 7 8 (unF (mTd C) k (rdI (mTd C) k)) (f + 1) (fl m S) = pb (unF (mTd C) k (rdI (mTd C) k) (adv (fl m S))) (fun S' => olp (mTd C) 42 47 7 8 (unF (mTd C) k (rdI (mTd C) k)) f (em o 0 S')) := by
          rw [olp, fl_ti, if_pos hK, ho]
        rw [e] at hok her
        refine aw_go rfl rfl (hu (o :: (a ++ p)) (adv (fl m S)) (Q293 X d Q) (fun x hx => ?_) (by simp; omega) ?_ (fun I L => Q293_1) (fun I L => Q293_0) (fun S2 e2 => ?_) (fun e2 he2 => her e2 (by rw [he2]; rfl)) I' L' h')
        · rcases List.mem_cons.mp hx with rfl | hx
          · have := (isMu_b hmo).1 _ List.mem_cons_self; omega
          · rcases List.mem_append.mp hx with g | g
            · have := (isAl_b ha).1 x g; omega
            · exact hf x g
        · show cn (fl m S) ≤ ti (fl m S) + 1 + mDl C
          rw [fl_cn, fl_ti]; omega
        · have hmo2 := Mo_unF (k := k) (Mo_rdI (mTd C) k) _ _ e2
          have e3 : cn (adv (fl m S)) = cn S + m.length := fl_cn m S
          have e4 : ti (adv (fl m S)) = ti S + 1 := by show ti (fl m S) + 1 = _; rw [fl_ti]
          rw [e3, e4] at hmo2
          rw [e2, pb_ok] at hok her
          exact m_PL hC hk hu hb hf hl f S2 [o] a hmo ha (by omega) (by simp; omega) hok her
      rcases hK with q | q
      · exact m_op42 hC hm ha hb hf (by omega) hG q h (step 7 (if_pos q) (Or.inr (Or.inl rfl)))
      · exact m_op47 hC hm ha hb hf (by omega) hG q h (step 8 (if_neg (by rw [q]; decide)) (Or.inr (Or.inr rfl)))
    · refine hok (fl m S) S m ?_ rfl hm (fun x => hK (Or.inl x)) (fun x => hK (Or.inr x)) I L h
      rw [olp, fl_ti, if_neg hK]
/-- further products -/
theorem m_SL {k : Nat} {p : List Nat} (hC : mOK C) (hk : k ≤ 10) (hu : MUp X d D C bs Q k) (hb : brk p) (hf : ∀ o, o ∈ p → o ≤ 27) (hl : p.length + 3 * k ≤ 34) : ∀ (f : Nat) (S : PT) (m a : List Nat), isMu m → isAl a → (mTd C).1 < ti S + f → cn S + m.length + a.length ≤ ti S + mDl C → ¬ tK (mTd C) (ti S) = 42 → ¬ tK (mTd C) (ti S) = 47 →
    (∀ S' S'' m' a', olp (mTd C) 43 45 5 6 (prd (mTd C) (unF (mTd C) k (rdI (mTd C) k))) f (fl (m ++ a) S) = .ok S' → S' = fl (m' ++ a') S'' → isMu m' → isAl a' → notOp (tK (mTd C) (ti S'')) → HDp X d D C bs Q S'' (m' ++ a' ++ p) k) → (∀ e, olp (mTd C) 43 45 5 6 (prd (mTd C) (unF (mTd C) k (rdI (mTd C) k))) f (fl (m ++ a) S) = .error e → FLp D C Q e) →
    HDp X d D C bs Q S (m ++ a ++ p) k
  | 0, S, m, a, _, _, hfu, _, _, _, _, _ => fun I L h => absurd h.2.2.1.1 (by omega)
  | f + 1, S, m, a, hm, ha, hfu, hG, n42, n47, hok, her => fun I L h => by
    have hal := (isAl_b ha).2
    have hml := (isMu_b hm).2
    by_cases hK : tK (mTd C) (ti S) = 43 ∨ tK (mTd C) (ti S) = 45
    · have step : ∀ o : Nat, (if tK (mTd C) (ti S) = 43 then 5 else 6) = o → isAl [o] → ∀ I' L', MP C (adv (fl (m ++ a) S)) (o :: p) k bs I' L' → aw_m X (d + 3) y_M_readUnit [.ref 69] (aw_s I' L' D) (Q293 X d Q) := by
        intro o ho hao I' L' h'
        have e : olp (mTd C) 43 45 5 6 (prd (mTd C) (unF (mTd C) k (rdI (mTd C) k))) (f + 1) (fl (m ++ a) S) = pb (prd (mTd C) (unF (mTd C) k (rdI (mTd C) k)) (adv (fl (m ++ a) S))) (fun S' => olp (mTd C) 43 45 5 6 (prd (mTd C) (unF (mTd C) k (rdI (mTd C) k))) f (em o 0 S')) := by
          rw [olp, fl_ti, if_pos hK, ho]
        rw [e] at hok her
        have e3 : cn (adv (fl (m ++ a) S)) = cn S + m.length + a.length := by show cn (fl (m ++ a) S) = _; rw [fl_cn, List.length_append]; omega
        have e4 : ti (adv (fl (m ++ a) S)) = ti S + 1 := by show ti (fl (m ++ a) S) + 1 = _; rw [fl_ti]
        refine aw_go rfl rfl (hu (o :: p) (adv (fl (m ++ a) S)) (Q293 X d Q) (fun x hx => ?_) (by simp; omega) (by rw [e3, e4]; omega) (fun I L => Q293_1) (fun I L => Q293_0) (fun S2 e2 => ?_) (fun e2 he2 => her e2 (by rw [prd, he2]; rfl)) I' L' h')
        · rcases List.mem_cons.mp hx with rfl | hx
          · have := (isAl_b hao).1 _ List.mem_cons_self; omega
          · exact hf x hx
        · have hmo2 := Mo_unF (k := k) (Mo_rdI (mTd C) k) _ _ e2
          rw [e3, e4] at hmo2
          rw [prd, e2, pb_ok] at hok her
          refine m_PL hC hk hu hb hf hl 501 S2 [] [o] (Or.inl rfl) hao (by have := hC.1.2.2.2.2; omega) (by simp; omega) (fun S3 S4 m' e5 e6 hm' n1 n2 => ?_) (fun e5 he5 => her e5 (by rw [show fl [] S2 = S2 from rfl] at he5; rw [he5]; rfl))
          have e5 : olp (mTd C) 42 47 7 8 (unF (mTd C) k (rdI (mTd C) k)) 501 S2 = .ok S3 := e5
          have hmo3 := Mo_olp (T := mTd C) (c1 := 42) (c2 := 47) (o1 := 7) (o2 := 8) (Mo_unF (k := k) (Mo_rdI (mTd C) k)) 501 _ _ e5
          have e7 : cn S3 = cn S4 + m'.length := by rw [e6, fl_cn]
          have e8 : ti S3 = ti S4 := by rw [e6, fl_ti]
          rw [e5, pb_ok, e6] at hok her
          have e9 : em o 0 (fl m' S4) = fl (m' ++ [o]) S4 := by rw [fl_app]; rfl
          rw [e9] at hok her
          exact m_SL hC hk hu hb hf hl f S4 m' [o] hm' hao (by omega) (by simp; omega) n1 n2 hok her
      rcases hK with q | q
      · exact m_op43 hC hm ha hb hf (by omega) hG q h (step 5 (if_pos q) (Or.inr (Or.inl rfl)))
      · exact m_op45 hC hm ha hb hf (by omega) hG q h (step 6 (if_neg (by rw [q]; decide)) (Or.inr (Or.inr rfl)))
    · refine hok (fl (m ++ a) S) S m a ?_ rfl hm ha ⟨fun x => hK (Or.inl x), fun x => hK (Or.inr x), n42, n47⟩ I L h
      rw [olp, fl_ti, if_neg hK]
theorem m_sumU {k : Nat} (hC : mOK C) (hk : k ≤ 10) (hu : MUp X d D C bs Q k) : MSp X d D C bs Q k := by
  intro p S Q' hb hf hl hG hq1 hq0 hok her I L h
  have er : rdI (mTd C) (k + 1) S = smm (mTd C) (prd (mTd C) (unF (mTd C) k (rdI (mTd C) k))) S := rfl
  rw [er, smm, prd] at hok her
  have h501 := hC.1.2.2.2.2
  refine hu p S Q' hf (by omega) hG hq1 hq0 (fun S2 e2 => ?_) (fun e he => her e (by rw [he]; rfl)) I L h
  have hmo2 := Mo_unF (k := k) (Mo_rdI (mTd C) k) _ _ e2
  rw [e2, pb_ok] at hok her
  refine m_PL hC hk hu hb hf hl 501 S2 [] [] (Or.inl rfl) (Or.inl rfl) (by omega) (by simp; omega) (fun S3 S4 m' e5 e6 hm' n1 n2 => ?_) (fun e5 he5 => her e5 (by rw [show fl [] S2 = S2 from rfl] at he5; rw [he5]; rfl))
  have e5 : olp (mTd C) 42 47 7 8 (unF (mTd C) k (rdI (mTd C) k)) 501 S2 = .ok S3 := e5
  have hmo3 := Mo_olp (T := mTd C) (c1 := 42) (c2 := 47) (o1 := 7) (o2 := 8) (Mo_unF (k := k) (Mo_rdI (mTd C) k)) 501 _ _ e5
  have e7 : cn S3 = cn S4 + m'.length := by rw [e6, fl_cn]
  have e8 : ti S3 = ti S4 := by rw [e6, fl_ti]
  rw [e5, pb_ok, e6] at hok her
  have e9 : fl m' S4 = fl (m' ++ []) S4 := by rw [List.append_nil]
  rw [e9] at hok her
  exact m_SL hC hk hu hb hf hl 501 S4 m' [] hm' (Or.inl rfl) (by omega) (by simp; omega) n1 n2 hok her
theorem m_sums (hC : mOK C) : ∀ k, k ≤ 10 → MSp X d D C bs Q k
  | 0, hk => m_sumU hC hk (m_unitU hC hk (fun h => absurd h (Nat.lt_irrefl 0)))
  | k + 1, hk => m_sumU hC hk (m_unitU hC hk (fun _ => m_sums hC k (by omega)))
/-- a sum, from its call -/
theorem m_readSum {k : Nat} {S : PT} {I : Nat → Nat → Int32} {L : Nat → Nat → Int64} (hC : mOK C) (h : MP C S [] k bs I L) (hG : cn S ≤ ti S + mDl C)
    (hok : ∀ S', rdI (mTd C) (k + 1) S = .ok S' → ∀ I' L', MP C S' [] k bs I' L' → Q (some (.int 1)) (aw_s I' L' D)) (her : ∀ e, rdI (mTd C) (k + 1) S = .error e → FLp D C Q e) : aw_m X (d + 4) y_M_readSum [.ref 69] (aw_s I L D) Q := by
  have hk := h.opens.2
  refine aw_go rfl rfl (b_M_readSum_0 ?_)
  have e0 : I 69 25 = 0 := h.len
  rw [e0]
  refine aw_go rfl rfl (m_sums (X := X) (d := d) (D := D) (Q := Q) (bs := bs) hC k hk [] S (fun r A => aw_z X (d + 4) y_M_readSum Q 9 [some (.ref 69), some (.int 0), none, none] (r.toList ++ []) A) (Or.inl rfl) (fun o ho => by cases ho) (by simp; omega) hG (fun I' L' z => b_M_readSum_9 (fun _ => z) (fun x => absurd x (by decide))) (fun I' L' z => b_M_readSum_9 (fun x => absurd rfl x) (fun _ => z)) (fun S' S'' m a e1 e2 hm ha hno I1 L1 h1 => ?_) her I L h)
  have hmo := Mo_rdI (mTd C) (k + 1) _ _ e1
  have e5 : cn S' = cn S'' + (m ++ a).length := by rw [e2, fl_cn]
  have e6 : ti S' = ti S'' := by rw [e2, fl_ti]
  rw [List.length_append] at e5
  exact m_end hC hm ha (Or.inl rfl) (fun o ho => by cases ho) (by decide) (fun x => absurd rfl x) (by omega) hno h1 (fun _ I' L' h' => hok S' e1 I' L' (by rw [e2]; exact h')) (fun q eq => by cases eq) (fun q eq => by cases eq) (fun x => absurd rfl x)
end MS2
