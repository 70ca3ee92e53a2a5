/-! PART 84: what the grammar writes down is well formed: words -/
def okl (P : Nat → Nat × Int32) (n : Nat) (ty : Nat → List Bool) (sg : Nat → Nat) (pc : Nat) : Prop :=
  (ty pc).length ≤ 30 ∧ sg pc ≤ 4 ∧
  (((P pc).1 ≠ 20 ∧ (P pc).1 ≠ 22 ∧ (P pc).1 ≠ 24 ∧ (P pc).1 ≠ 25) → pc + 1 ≤ n ∧ sg (pc + 1) = sg pc ∧ (pc + 1 < n → (P pc).1 ≠ 0 → (P (pc + 1)).1 ≠ 23)) ∧
  (match (P pc).1 with
  | 0 => ty pc = [] ∧ ty (pc + 1) = [] ∧ ∃ j, j < 60 ∧ (P pc).2 = nI j
  | 1 => ty pc = [] ∧ ty (pc + 1) = [] ∧ ∃ j, j < 60 ∧ (P pc).2 = nI j
  | 2 => ty (pc + 1) = false :: ty pc
  | 3 => ty (pc + 1) = false :: ty pc ∧ ∃ j, j < 8 ∧ (P pc).2 = nI j
  | 4 => ∃ t, ty pc = false :: t ∧ ty (pc + 1) = false :: t
  | 5 => ∃ t, ty pc = false :: false :: t ∧ ty (pc + 1) = false :: t
  | 6 => ∃ t, ty pc = false :: false :: t ∧ ty (pc + 1) = false :: t
  | 7 => ∃ t, ty pc = false :: false :: t ∧ ty (pc + 1) = false :: t
  | 8 => ∃ t, ty pc = false :: false :: t ∧ ty (pc + 1) = false :: t
  | 9 => ∃ t, ty pc = false :: false :: t ∧ ty (pc + 1) = true :: t
  | 10 => ∃ t, ty pc = false :: false :: t ∧ ty (pc + 1) = true :: t
  | 11 => ∃ t, ty pc = false :: false :: t ∧ ty (pc + 1) = true :: t
  | 12 => ∃ t, ty pc = false :: false :: t ∧ ty (pc + 1) = true :: t
  | 13 => ∃ t, ty pc = true :: true :: t ∧ ty (pc + 1) = true :: t
  | 14 => ∃ t, ty pc = true :: true :: t ∧ ty (pc + 1) = true :: t
  | 15 => ty pc = [false] ∧ ty (pc + 1) = [] ∧ ∃ j, j < 8 ∧ (P pc).2 = nI j
  | 16 => ty pc = [false, false] ∧ ty (pc + 1) = []
  | 17 => ty pc = [true] ∧ ty (pc + 1) = []
  | 18 => ty pc = [true] ∧ ty (pc + 1) = []
  | 19 => ty pc = [] ∧ ty (pc + 1) = [] ∧ ∃ j, j < 8 ∧ (P pc).2 = nI j
  | 20 => ty pc = []
  | 21 => ty pc = [true] ∧ ty (pc + 1) = [] ∧ p_dc P pc = true ∧ ∃ t, (P pc).2 = nI t ∧ pc < t ∧ t ≤ n ∧ ty t = [] ∧ sg t = sg pc ∧ (t < n → (P t).1 ≠ 23) ∧ p_dc P t = false
  | 22 => ty pc = [] ∧ ∃ t, (P pc).2 = nI t ∧ t ≤ n ∧ ty t = [] ∧ sg t = sg pc ∧ (t < n → (P t).1 ≠ 23) ∧ p_dc P t = false ∧ (pc < t ∨ (t < n ∧ (P t).1 = 1))
  | 23 => ty pc = [] ∧ ty (pc + 1) = [] ∧ ∃ t, (P pc).2 = nI t ∧ t < n ∧ ty t = [] ∧ sg t < sg pc ∧ (P t).1 ≠ 23 ∧ p_dc P t = false
  | 24 => ty pc = [] ∧ sg pc < 4
  | 25 => ty pc = []
  | _ => False)
theorem p_dc_c {P P' : Nat → Nat × Int32} : ∀ k, (∀ i, i < k → (P' i).1 = (P i).1) → p_dc P' k = p_dc P k
  | 0, _ => rfl
  | k + 1, h => by
    simp only [p_dc]
    rw [h k (Nat.lt_succ_self k), p_dc_c k (fun i hi => h i (by omega))]
/-- the same ahead of the end, with more behind it -/
theorem okl_more {P P' : Nat → Nat × Int32} {n n' : Nat} {ty ty' : Nat → List Bool} {sg sg' : Nat → Nat} {pc : Nat} (h : okl P n ty sg pc) (hpc : pc < n) (hn : n ≤ n') (hP : ∀ i, i < n → P' i = P i) (hP1 : n < n' → (P' n).1 ≠ 23 ∨ ((∀ t, t ≤ n → (∀ q, q < n → (P q).2 = nI t → ((P q).1 = 21 ∨ (P q).1 = 22) → t ≠ n)) ∧ (P (n - 1)).1 = 0)) (ht : ∀ i, i ≤ n → ty' i = ty i) (hs : ∀ i, i ≤ n → sg' i = sg i) : okl P' n' ty' sg' pc := by
  have dc : ∀ t, t ≤ n → p_dc P' t = p_dc P t := fun t htn => p_dc_c t (fun i hi => by rw [hP i (by omega)])
  have op : ∀ t, t ≤ n → (t < n → (P t).1 ≠ 23) → (t = n → n < n' → (P' n).1 ≠ 23) → (t < n' → (P' t).1 ≠ 23) := fun t a b c e => by
    by_cases g : t < n
    · rw [hP t g]; exact b g
    · have : t = n := by omega
      subst this; exact c rfl e
  obtain ⟨h1, h2, h3, h4⟩ := h
  refine ⟨by rw [ht pc (by omega)]; exact h1, by rw [hs pc (by omega)]; exact h2, fun hx => ?_, ?_⟩
  · rw [hP pc hpc] at hx ⊢
    obtain ⟨a, b, c⟩ := h3 hx
    refine ⟨by omega, by rw [hs _ a, hs pc (by omega)]; exact b, fun e n0 => ?_⟩
    refine op (pc + 1) a (fun e2 => c e2 n0) (fun e2 e3 => ?_) e
    rcases hP1 e3 with g | ⟨-, g⟩
    · exact g
    · rw [show n - 1 = pc by omega] at g
      exact absurd g n0
  · rw [hP pc hpc]
    have t1 := ht pc (by omega)
    have t2 : pc + 1 ≤ n := hpc
    have t3 := ht (pc + 1) t2
    have jump : ∀ t, (P pc).2 = nI t → ((P pc).1 = 21 ∨ (P pc).1 = 22) → t ≤ n → (t < n → (P t).1 ≠ 23) → (t < n' → (P' t).1 ≠ 23) := fun t a b c e => op t c e (fun e2 e3 => by
      rcases hP1 e3 with g | ⟨g, -⟩
      · exact g
      · exact absurd e2 (g t c pc hpc a b))
    generalize hr : P pc = r at h4 jump ⊢
    obtain ⟨o, a⟩ := r
    dsimp only at h4 jump ⊢
    split at h4
    all_goals (try dsimp only)
    all_goals (try rw [t1]) <;> (try rw [t3])
    all_goals first | exact h4 | skip
    · obtain ⟨b1, b2, b3, t, b4, b5, b6, b7, b8, b9, b10⟩ := h4
      exact ⟨b1, b2, by rw [dc pc (by omega)]; exact b3, t, b4, b5, by omega, by rw [ht t b6]; exact b7, by rw [hs t b6, hs pc (by omega)]; exact b8, jump t b4 (Or.inl rfl) b6 b9, by rw [dc t b6]; exact b10⟩
    · obtain ⟨b1, t, b4, b6, b7, b8, b9, b10, b11⟩ := h4
      refine ⟨b1, t, b4, by omega, by rw [ht t b6]; exact b7, by rw [hs t b6, hs pc (by omega)]; exact b8, jump t b4 (Or.inr rfl) b6 b9, by rw [dc t b6]; exact b10, ?_⟩
      rcases b11 with g | ⟨g, g2⟩
      · exact Or.inl g
      · exact Or.inr ⟨by omega, by rw [hP t g]; exact g2⟩
    · obtain ⟨b1, b2, t, b4, b6, b7, b8, b9, b10⟩ := h4
      exact ⟨b1, b2, t, b4, by omega, by rw [ht t (by omega)]; exact b7, by rw [hs t (by omega), hs pc (by omega)]; exact b8, by rw [hP t b6]; exact b9, by rw [dc t (by omega)]; exact b10⟩
    · exact ⟨h4.1, by rw [hs pc (by omega)]; exact h4.2⟩
/-- all orders but some are well formed -/
def INV (A : Nat → Prop) (S : PT) : Prop := ∀ pc, pc < cn S → ¬ A pc → okl (cP S) (cn S) (cT S) (cG S) pc
/-- what was there is there -/
def Pre (S S' : PT) : Prop := cn S ≤ cn S' ∧ (∀ i, i < cn S → cP S' i = cP S i) ∧ (∀ i, i ≤ cn S → cT S' i = cT S i ∧ cG S' i = cG S i)
theorem Pre.rf {S : PT} : Pre S S := ⟨Nat.le_refl _, fun _ _ => rfl, fun _ _ => ⟨rfl, rfl⟩⟩
theorem Pre.tr {S1 S2 S3 : PT} (a : Pre S1 S2) (b : Pre S2 S3) : Pre S1 S3 := ⟨Nat.le_trans a.1 b.1, fun i hi => (b.2.1 i (by have := a.1; omega)).trans (a.2.1 i hi), fun i hi => ⟨(b.2.2 i (by have := a.1; omega)).1.trans (a.2.2 i hi).1, (b.2.2 i (by have := a.1; omega)).2.trans (a.2.2 i hi).2⟩⟩
theorem Pre.em {S : PT} {o : Nat} {a : Int32} : Pre S (em o a S) := ⟨Nat.le_succ _, fun i hi => up_n _ _ (by omega), fun i hi => ⟨up_n _ _ (by omega), up_n _ _ (by omega)⟩⟩
theorem Pre.dc {S S' : PT} (h : Pre S S') {t : Nat} (ht : t ≤ cn S) : p_dc (cP S') t = p_dc (cP S) t := p_dc_c t (fun i hi => by rw [h.2.1 i (by omega)])
/-- the state of the writing: what the stack holds, which PROC, whether a COND is being worked out -/
def Wf (A : Nat → Prop) (g : Nat) (dc : Bool) (τ : List Bool) (S : PT) : Prop := INV A S ∧ cT S (cn S) = τ ∧ cG S (cn S) = g ∧ p_dc (cP S) (cn S) = dc
theorem em_T {o : Nat} {a : Int32} {S : PT} : cT (em o a S) (cn S + 1) = tyA o (cT S (cn S)) := up_s _ _ _
theorem em_G {o : Nat} {a : Int32} {S : PT} : cG (em o a S) (cn S + 1) = cG S (cn S) + (if o = 24 then 1 else 0) := up_s _ _ _
theorem em_P {o : Nat} {a : Int32} {S : PT} : cP (em o a S) (cn S) = (o, a) := up_s _ _ _
theorem INV.em {A : Nat → Prop} {S : PT} {o : Nat} {a : Int32} (h : INV A S) (ho : o ≠ 23) (hn : ¬ A (cn S) → okl (cP (em o a S)) (cn S + 1) (cT (em o a S)) (cG (em o a S)) (cn S)) : INV A (em o a S) := by
  intro pc hpc hA
  have hpc : pc < cn S + 1 := hpc
  by_cases g : pc = cn S
  · subst g; exact hn hA
  · have e := Pre.em (S := S) (o := o) (a := a)
    exact okl_more (h pc (by omega) hA) (by omega) (Nat.le_succ _) e.2.1 (fun _ => Or.inl (by rw [em_P]; exact ho)) (fun i hi => (e.2.2 i hi).1) (fun i hi => (e.2.2 i hi).2)
/-- an order of a sum or a test -/
theorem Wf.work {A : Nat → Prop} {g : Nat} {dc : Bool} {τ τ' : List Bool} {S : PT} {o : Nat} {a : Int32} (h : Wf A g dc τ S) (ho : 2 ≤ o ∧ o ≤ 14) (hl : τ.length ≤ 30) (hg : g ≤ 4) (hτ : tyA o τ = τ') (hok : (o = 2 → True) ∧ (o = 3 → ∃ j, j < 8 ∧ a = nI j) ∧ (o = 4 → ∃ t, τ = false :: t) ∧ (5 ≤ o → o ≤ 12 → ∃ t, τ = false :: false :: t) ∧ (13 ≤ o → ∃ t, τ = true :: true :: t)) : Wf A g dc τ' (em o a S) ∧ Pre S (em o a S) := by
  obtain ⟨h1, h2, h3, h4⟩ := h
  have e := Pre.em (S := S) (o := o) (a := a)
  have eT : cT (em o a S) (cn S) = τ := (e.2.2 (cn S) (Nat.le_refl _)).1.trans h2
  have eG : cG (em o a S) (cn S) = g := (e.2.2 (cn S) (Nat.le_refl _)).2.trans h3
  have eT1 : cT (em o a S) (cn S + 1) = τ' := by rw [em_T, h2]; exact hτ
  have eG1 : cG (em o a S) (cn S + 1) = g := by rw [em_G, h3, if_neg (by omega)]; rfl
  refine ⟨⟨h1.em (by omega) (fun _ => ⟨by rw [eT]; exact hl, by rw [eG]; exact hg, fun _ => ⟨Nat.le_refl _, by rw [eG1, eG], fun x => absurd x (Nat.lt_irrefl _)⟩, ?_⟩), eT1, eG1, ?_⟩, e⟩
  · rw [em_P, eT, eT1]
    obtain ⟨-, k3, k4, k5, k13⟩ := hok
    rcases (show o = 2 ∨ o = 3 ∨ o = 4 ∨ o = 5 ∨ o = 6 ∨ o = 7 ∨ o = 8 ∨ o = 9 ∨ o = 10 ∨ o = 11 ∨ o = 12 ∨ o = 13 ∨ o = 14 by omega) with rfl | rfl | rfl | rfl | rfl | rfl | rfl | rfl | rfl | rfl | rfl | rfl | rfl
    · exact hτ.symm
    · exact ⟨hτ.symm, k3 rfl⟩
    · obtain ⟨t, rfl⟩ := k4 rfl
      exact ⟨t, rfl, hτ.symm⟩
    all_goals first
      | (obtain ⟨t, rfl⟩ := k5 (by decide) (by decide); exact ⟨t, rfl, hτ.symm⟩)
      | (obtain ⟨t, rfl⟩ := k13 (by decide); exact ⟨t, rfl, hτ.symm⟩)
  · show p_dc (cP (em o a S)) (cn S + 1) = dc
    simp only [p_dc]
    rw [em_P, if_pos ho, e.dc (Nat.le_refl _)]
    exact h4
