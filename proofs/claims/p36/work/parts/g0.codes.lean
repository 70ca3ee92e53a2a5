/-! PART g0: a program's orders as a list; reading sums -/
def CdL (S : PT) (l : List (Nat × Int32)) : Prop := cn S = l.length ∧ cB S = 0 ∧ ∀ i, i < l.length → cP S i = l.getD i (0, 0)
theorem CdL.em {S : PT} {l : List (Nat × Int32)} (h : CdL S l) (o : Nat) (a : Int32) : CdL (em o a S) (l ++ [(o, a)]) := by
  obtain ⟨h1, hB, h2⟩ := h
  refine ⟨by rw [List.length_append]; show cn S + 1 = _; rw [h1]; rfl, hB, fun i hi => ?_⟩
  rw [List.length_append] at hi
  have hi : i < l.length + 1 := hi
  show va_up (cP S) (cn S) (o, a) i = _
  by_cases q : i = l.length
  · subst q
    rw [h1, ap_s, List.getD_eq_getElem?_getD, List.getElem?_append_right (Nat.le_refl _), Nat.sub_self]; rfl
  · have hl : i < l.length := by omega
    rw [h1, ap_n q, List.getD_eq_getElem?_getD, List.getElem?_append_left hl, ← List.getD_eq_getElem?_getD]; exact h2 i hl
theorem CdL.pat {S : PT} {l : List (Nat × Int32)} (h : CdL S l) {j : Nat} (hj : j < l.length) : CdL (pat j S) (l.set j ((l.getD j (0, 0)).1, nI (min l.length 600))) := by
  obtain ⟨h1, hB, h2⟩ := h
  refine ⟨by rw [List.length_set]; exact h1, hB, fun i hi => ?_⟩
  rw [List.length_set] at hi
  show va_up (cP S) j ((cP S j).1, nI (min (cn S) 600)) i = _
  rw [List.getD_eq_getElem?_getD, List.getElem?_set]
  by_cases q : i = j
  · subst q
    rw [ap_s, if_pos rfl, if_pos hj, h1, h2 i hj]; rfl
  · rw [ap_n q, if_neg (fun e => q e.symm), ← List.getD_eq_getElem?_getD]; exact h2 i hi
/-- token, units, steps, orders -/
def StS (S : PT) (i u s : Nat) (l : List (Nat × Int32)) : Prop := ti S = i ∧ cU S = u ∧ cS S = s ∧ CdL S l
section STS
variable {S : PT} {i u s : Nat} {l : List (Nat × Int32)}
theorem StS.em (h : StS S i u s l) (o : Nat) (a : Int32) : StS (em o a S) i u s (l ++ [(o, a)]) := ⟨h.1, h.2.1, h.2.2.1, h.2.2.2.em o a⟩
theorem StS.adv (h : StS S i u s l) : StS (adv S) (i + 1) u s l := ⟨by show ti S + 1 = _; rw [h.1], h.2.1, h.2.2.1, h.2.2.2⟩
theorem StS.unU (h : StS S i u s l) : StS (unU S) i (u + 1) s l := ⟨h.1, by show cU S + 1 = _; rw [h.2.1], h.2.2.1, h.2.2.2⟩
theorem StS.noN (h : StS S i u s l) : StS (noN S) i u s l := h
theorem StS.seB (h : StS S i u s []) : StS (seB S) i u s [] := ⟨h.1, h.2.1, h.2.2.1, h.2.2.2.1, h.2.2.2.1, fun i hi => absurd hi (Nat.not_lt_zero i)⟩
theorem StS.adN (h : StS S i u s l) (v : Int32) : StS (adN v S) i u s (l ++ [(2, v)]) := h.noN.em 2 v
theorem StS.stU (h : StS S i u s l) (w : Bool) : StS (stU w S) i u (s + 1) l := ⟨h.1, h.2.1, by show cS S + 1 = _; rw [h.2.2.1], h.2.2.2⟩
theorem StS.bst0 (h : StS S i u s l) : StS (bst 0 S) i u (s + 1) (l ++ [(0, nI s)]) := by
  rw [bst_0, h.2.2.1]; exact (h.stU false).em 0 (nI s)
theorem StS.bst8 (h : StS S i u s l) : StS (bst 8 S) i u (s + 1) (l ++ [(1, nI s)]) := by
  rw [bst_8, h.2.2.1]; exact (h.stU false).em 1 (nI s)
theorem StS.bst10 (h : StS S i u s l) : StS (bst 10 S) i u (s + 1) (l ++ [(1, nI s)]) := by
  rw [bst_10, h.2.2.1]; exact (h.stU true).em 1 (nI s)
theorem StS.pat (h : StS S i u s l) {j : Nat} (hj : j < l.length) : StS (pat j S) i u s (l.set j ((l.getD j (0, 0)).1, nI (min l.length 600))) := ⟨h.1, h.2.1, h.2.2.1, h.2.2.2.pat hj⟩
end STS
/-- a reading that goes well -/
def Go (f : PT → PR) (S : PT) (P : PT → Prop) : Prop := ∃ S', f S = .ok S' ∧ P S'
theorem Go.mono {f : PT → PR} {S : PT} {P Q : PT → Prop} (h : Go f S P) (hq : ∀ S', P S' → Q S') : Go f S Q := by
  obtain ⟨S', a, b⟩ := h
  exact ⟨S', a, hq S' b⟩
section SUMS
variable {T : TD} {S : PT} {i u s k : Nat} {l : List (Nat × Int32)}
/-- no sign that goes on in a sum -/
def noS (K : Int32) : Prop := K ≠ 42 ∧ K ≠ 47 ∧ K ≠ 43 ∧ K ≠ 45
theorem go_sgn {ch : Int32} (h : StS S i u s l) (hk : tK T i = ch) : Go (sgn T ch) S (fun S' => StS S' (i + 1) u s l) :=
  ⟨adv S, by unfold sgn; rw [h.1, if_pos hk], h.adv⟩
theorem un_name {x : Nat} {inn : PT → PR} (h : StS S i u s l) (hk : tK T i = 2) (hv : tV T i = nI x) (hu : u < 150) : Go (unF T k inn) S (fun S' => StS S' (i + 1) (u + 1) s (l ++ [(3, nI x)])) := by
  refine ⟨em 3 (tV T (ti S)) (adv (unU S)), ?_, ?_⟩
  · have e : uFt T (ti S) = 0 := by unfold uFt; rw [h.1, if_pos hk]
    unfold unF
    rw [if_neg (fun q => q e), if_neg (by rw [h.2.1]; omega), if_neg (by rw [h.1, hk]; decide), if_neg (by rw [h.1, hk]; decide), if_neg (by rw [h.1, hk]; decide)]
  · rw [h.1, hv]; exact h.unU.adv.em 3 (nI x)
theorem un_num {n : Nat} {inn : PT → PR} (h : StS S i u s l) (hk : tK T i = 4) (hv : tV T i = nI n) (hn : n ≤ 255) (hu : u < 150) : Go (unF T k inn) S (fun S' => StS S' (i + 1) (u + 1) s (l ++ [(2, nI n)])) := by
  refine ⟨adN (tV T (ti S)) (adv (unU S)), ?_, ?_⟩
  · have e : uFt T (ti S) = 0 := by
      unfold uFt
      rw [h.1, if_neg (by rw [hk]; decide), if_pos hk, if_pos (by rw [hv, show (255 : Int32) = nI 255 from rfl, nI_leI (by omega) (by decide)]; exact hn)]
    unfold unF
    rw [if_neg (fun q => q e), if_neg (by rw [h.2.1]; omega), if_neg (by rw [h.1, hk]; decide), if_neg (by rw [h.1, hk]; decide), if_pos (by rw [h.1]; exact hk)]
  · rw [h.1, hv]; exact h.unU.adv.adN (nI n)
theorem un_cell {inn : PT → PR} {j u2 : Nat} {l2 : List (Nat × Int32)} (h : StS S i u s l) (hk : tK T i = 7) (hu : u < 150) (h0 : k ≠ 0) (h91 : tK T (i + 1) = 91)
    (hi : ∀ S2, StS S2 (i + 2) (u + 1) s l → Go inn S2 (fun S' => StS S' j u2 s l2)) (h93 : tK T j = 93) : Go (unF T k inn) S (fun S' => StS S' (j + 1) u2 s (l2 ++ [(4, 0)])) := by
  have a : StS (adv (unU S)) (i + 1) (u + 1) s l := h.unU.adv
  obtain ⟨S2, e2, g2⟩ := hi (adv (adv (unU S))) a.adv
  obtain ⟨S3, e3, g3⟩ := go_sgn (ch := 93) g2 h93
  refine ⟨em 4 0 S3, ?_, g3.em 4 0⟩
  have e : uFt T (ti S) = 0 := by
    unfold uFt
    rw [h.1, if_neg (by rw [hk]; decide), if_neg (by rw [hk]; decide), if_pos hk]
  unfold unF
  rw [if_neg (fun q => q e), if_neg (by rw [h.2.1]; omega), if_neg (by rw [h.1, hk]; decide), if_pos (by rw [h.1]; exact hk)]
  unfold plc opn
  rw [a.1, if_pos h91, if_neg h0, pb_ok, e2, pb_ok, e3, pb_ok]
theorem olp_stop {c1 c2 : Int32} {o1 o2 f : Nat} {uu : PT → PR} (h : StS S i u s l) (h1 : tK T i ≠ c1) (h2 : tK T i ≠ c2) : olp T c1 c2 o1 o2 uu (f + 1) S = .ok S := by
  unfold olp
  rw [h.1, if_neg (fun q => q.elim h1 h2)]
theorem olp_go {c1 c2 : Int32} {o1 o2 f j u2 s2 : Nat} {uu : PT → PR} {l2 : List (Nat × Int32)} (h : StS S i u s l) (h1 : tK T i = c1 ∨ tK T i = c2) (hu : ∀ S2, StS S2 (i + 1) u s l → Go uu S2 (fun S' => StS S' j u2 s2 l2))
    (g1 : tK T j ≠ c1) (g2 : tK T j ≠ c2) : Go (olp T c1 c2 o1 o2 uu (f + 2)) S (fun S' => StS S' j u2 s2 (l2 ++ [(if tK T i = c1 then o1 else o2, 0)])) := by
  obtain ⟨S2, e2, k2⟩ := hu (adv S) h.adv
  refine ⟨em (if tK T i = c1 then o1 else o2) 0 S2, ?_, k2.em _ 0⟩
  unfold olp
  rw [h.1, if_pos h1, e2, pb_ok]
  exact olp_stop (k2.em _ 0) g1 g2
theorem prd_1 {inn : PT → PR} {j u2 : Nat} {l2 : List (Nat × Int32)} (hu : Go (unF T k inn) S (fun S' => StS S' j u2 s l2)) (h : noS (tK T j) ∨ tK T j = 43 ∨ tK T j = 45) : Go (prd T (unF T k inn)) S (fun S' => StS S' j u2 s l2) := by
  obtain ⟨S2, e2, g2⟩ := hu
  refine ⟨S2, ?_, g2⟩
  unfold prd
  rw [e2, pb_ok]
  rcases h with h | h | h
  · exact olp_stop g2 h.1 h.2.1
  · exact olp_stop g2 (by rw [h]; decide) (by rw [h]; decide)
  · exact olp_stop g2 (by rw [h]; decide) (by rw [h]; decide)
theorem prd_2 {inn : PT → PR} {j u2 j2 u3 : Nat} {l2 l3 : List (Nat × Int32)} (hu : Go (unF T k inn) S (fun S' => StS S' j u2 s l2)) (hj : tK T j = 42 ∨ tK T j = 47) (hu2 : ∀ S2, StS S2 (j + 1) u2 s l2 → Go (unF T k inn) S2 (fun S' => StS S' j2 u3 s l3)) (h : noS (tK T j2)) :
    Go (prd T (unF T k inn)) S (fun S' => StS S' j2 u3 s (l3 ++ [(if tK T j = 42 then 7 else 8, 0)])) := by
  obtain ⟨S2, e2, g2⟩ := hu
  obtain ⟨S3, e3, g3⟩ := olp_go (c1 := 42) (c2 := 47) (o1 := 7) (o2 := 8) (f := 499) g2 hj hu2 h.1 h.2.1
  refine ⟨S3, ?_, g3⟩
  unfold prd
  rw [e2, pb_ok]; exact e3
theorem rdI_1 {j u2 : Nat} {l2 : List (Nat × Int32)} (hp : Go (prd T (unF T k (rdI T k))) S (fun S' => StS S' j u2 s l2)) (h : noS (tK T j)) : Go (rdI T (k + 1)) S (fun S' => StS S' j u2 s l2) := by
  obtain ⟨S2, e2, g2⟩ := hp
  refine ⟨S2, ?_, g2⟩
  show smm T (prd T (unF T k (rdI T k))) S = _
  unfold smm
  rw [e2, pb_ok]
  exact olp_stop g2 h.2.2.1 h.2.2.2
theorem rdI_2 {j u2 j2 u3 : Nat} {l2 l3 : List (Nat × Int32)} (hp : Go (prd T (unF T k (rdI T k))) S (fun S' => StS S' j u2 s l2)) (hj : tK T j = 43) (hp2 : ∀ S2, StS S2 (j + 1) u2 s l2 → Go (prd T (unF T k (rdI T k))) S2 (fun S' => StS S' j2 u3 s l3)) (h : noS (tK T j2)) :
    Go (rdI T (k + 1)) S (fun S' => StS S' j2 u3 s (l3 ++ [(5, 0)])) := by
  obtain ⟨S2, e2, g2⟩ := hp
  obtain ⟨S3, e3, g3⟩ := olp_go (c1 := 43) (c2 := 45) (o1 := 5) (o2 := 6) (f := 499) g2 (Or.inl hj) hp2 h.2.2.1 h.2.2.2
  rw [if_pos hj] at g3
  refine ⟨S3, ?_, g3⟩
  show smm T (prd T (unF T k (rdI T k))) S = _
  unfold smm
  rw [e2, pb_ok]; exact e3
/-- sums of one and of two -/
theorem sm_name {x : Nat} (h : StS S i u s l) (hk : tK T i = 2) (hv : tV T i = nI x) (hu : u < 150) (hn : noS (tK T (i + 1))) : Go (rdI T (k + 1)) S (fun S' => StS S' (i + 1) (u + 1) s (l ++ [(3, nI x)])) :=
  rdI_1 (prd_1 (un_name h hk hv hu) (Or.inl hn)) hn
theorem sm_num {n : Nat} (h : StS S i u s l) (hk : tK T i = 4) (hv : tV T i = nI n) (h255 : n ≤ 255) (hu : u < 150) (hn : noS (tK T (i + 1))) : Go (rdI T (k + 1)) S (fun S' => StS S' (i + 1) (u + 1) s (l ++ [(2, nI n)])) :=
  rdI_1 (prd_1 (un_num h hk hv h255 hu) (Or.inl hn)) hn
theorem sm_name_num {x n : Nat} (h : StS S i u s l) (hk : tK T i = 2) (hv : tV T i = nI x) (hp : tK T (i + 1) = 43) (hk2 : tK T (i + 2) = 4) (hv2 : tV T (i + 2) = nI n) (h255 : n ≤ 255) (hu : u + 1 < 150) (hn : noS (tK T (i + 3))) :
    Go (rdI T (k + 1)) S (fun S' => StS S' (i + 3) (u + 2) s (l ++ [(3, nI x)] ++ [(2, nI n)] ++ [(5, 0)])) :=
  rdI_2 (prd_1 (un_name h hk hv (by omega)) (Or.inr (Or.inl hp))) hp (fun _ h2 => prd_1 (un_num h2 hk2 hv2 h255 hu) (Or.inl hn)) hn
theorem sm_name_name {x n : Nat} (h : StS S i u s l) (hk : tK T i = 2) (hv : tV T i = nI x) (hp : tK T (i + 1) = 43) (hk2 : tK T (i + 2) = 2) (hv2 : tV T (i + 2) = nI n) (hu : u + 1 < 150) (hn : noS (tK T (i + 3))) :
    Go (rdI T (k + 1)) S (fun S' => StS S' (i + 3) (u + 2) s (l ++ [(3, nI x)] ++ [(3, nI n)] ++ [(5, 0)])) :=
  rdI_2 (prd_1 (un_name h hk hv (by omega)) (Or.inr (Or.inl hp))) hp (fun _ h2 => prd_1 (un_name h2 hk2 hv2 hu) (Or.inl hn)) hn
theorem sm_name_mul {x n : Nat} (h : StS S i u s l) (hk : tK T i = 2) (hv : tV T i = nI x) (hp : tK T (i + 1) = 42) (hk2 : tK T (i + 2) = 4) (hv2 : tV T (i + 2) = nI n) (h255 : n ≤ 255) (hu : u + 1 < 150) (hn : noS (tK T (i + 3))) :
    Go (rdI T (k + 1)) S (fun S' => StS S' (i + 3) (u + 2) s (l ++ [(3, nI x)] ++ [(2, nI n)] ++ [(7, 0)])) :=
  (rdI_1 (prd_2 (un_name h hk hv (by omega)) (Or.inl hp) (fun _ h2 => un_num h2 hk2 hv2 h255 hu) hn) hn).mono (fun _ q => by rw [if_pos hp] at q; exact q)
theorem sm_name_div {x n : Nat} (h : StS S i u s l) (hk : tK T i = 2) (hv : tV T i = nI x) (hp : tK T (i + 1) = 47) (hk2 : tK T (i + 2) = 2) (hv2 : tV T (i + 2) = nI n) (hu : u + 1 < 150) (hn : noS (tK T (i + 3))) :
    Go (rdI T (k + 1)) S (fun S' => StS S' (i + 3) (u + 2) s (l ++ [(3, nI x)] ++ [(3, nI n)] ++ [(8, 0)])) :=
  (rdI_1 (prd_2 (un_name h hk hv (by omega)) (Or.inr hp) (fun _ h2 => un_name h2 hk2 hv2 hu) hn) hn).mono (fun _ q => by rw [if_neg (by rw [hp]; decide)] at q; exact q)
/-- cell[N] + name -/
theorem sm_cell_name {x n : Nat} (h : StS S i u s l) (hk : tK T i = 7) (h91 : tK T (i + 1) = 91) (hk2 : tK T (i + 2) = 4) (hv2 : tV T (i + 2) = nI n) (h255 : n ≤ 255) (h93 : tK T (i + 3) = 93) (hp : tK T (i + 4) = 43) (hk5 : tK T (i + 5) = 2) (hv5 : tV T (i + 5) = nI x) (hu : u + 2 < 150) (hn : noS (tK T (i + 6))) :
    Go (rdI T (k + 2)) S (fun S' => StS S' (i + 6) (u + 3) s (l ++ [(2, nI n)] ++ [(4, 0)] ++ [(3, nI x)] ++ [(5, 0)])) :=
  rdI_2 (prd_1 (un_cell h hk (by omega) (by omega) h91 (fun _ h2 => sm_num h2 hk2 hv2 h255 (by omega) (by rw [h93]; exact ⟨by decide, by decide, by decide, by decide⟩)) h93) (Or.inr (Or.inl hp))) hp (fun _ h2 => prd_1 (un_name h2 hk5 hv5 (by omega)) (Or.inl hn)) hn
end SUMS
