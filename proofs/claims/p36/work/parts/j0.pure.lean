/-! PART j0: what the law's checks rest on -/
def spS : PS → Int32
  | (_, _, _, _, _, sp, _, _, _, _, _) => sp
theorem sp_step (P : Nat → Nat × Int32) (g : Int32) (F : Nat) (an : Nat → Int32) (pc : Nat) (stk : List Int32) (cs : List Nat) (nm cl : Nat → Int32) (sp : Int32) (bg : Nat) (ds : List Bool) (ak : Nat) (ys : Nat → Nat) (tr : List (Nat × (Nat → Int32))) :
    (∃ S', p_step P g F an (pc, stk, cs, nm, cl, sp, bg, ds, ak, ys, tr) = .inl S' ∧ ((psT S' = tr ∧ spS S' = sp) ∨ ∃ a x, psT S' = tr ++ [(a.toNatClampNeg, x)] ∧ spS S' = a)) ∨
    (∃ E, p_step P g F an (pc, stk, cs, nm, cl, sp, bg, ds, ak, ys, tr) = .inr E ∧ (E.1 = 99 ∨ E.2.1 = -1 ∨ (E.2.1 = sp ∧ psT E.2.2 = tr) ∨ ∃ a x, E.2.1 = a ∧ psT E.2.2 = tr ++ [(a.toNatClampNeg, x)])) := by
  unfold p_step
  dsimp only
  by_cases hw : 2 ≤ (P pc).1 ∧ (P pc).1 ≤ 14
  · rw [if_pos hw]
    cases p_work g nm cl (P pc).1 (P pc).2 stk with
    | ok st => exact Or.inl ⟨_, rfl, Or.inl ⟨rfl, rfl⟩⟩
    | error e => exact Or.inr ⟨_, rfl, Or.inr (Or.inr (Or.inl ⟨rfl, rfl⟩))⟩
  · rw [if_neg hw]
    generalize (P pc) = v at *
    obtain ⟨o, a⟩ := v
    dsimp only at *
    repeat' split
    all_goals first
      | exact Or.inl ⟨_, rfl, Or.inl ⟨rfl, rfl⟩⟩
      | exact Or.inl ⟨_, rfl, Or.inr ⟨_, _, rfl, rfl⟩⟩
      | exact Or.inr ⟨_, rfl, Or.inl rfl⟩
      | exact Or.inr ⟨_, rfl, Or.inr (Or.inl rfl)⟩
      | exact Or.inr ⟨_, rfl, Or.inr (Or.inr (Or.inl ⟨rfl, rfl⟩))⟩
      | exact Or.inr ⟨_, rfl, Or.inr (Or.inr (Or.inr ⟨_, _, rfl, rfl⟩))⟩
/-- the step told last is the one begun last -/
theorem run_sp {P : Nat → Nat × Int32} {g : Int32} {F : Nat} {an : Nat → Int32} : ∀ (N : Nat) (S : PS) (E : PE), p_run P g F an N S = some E → ((spS S = -1) ∨ ∃ t x, psT S = t ++ [x] ∧ (spS S).toNatClampNeg = x.1) → E.1 = 99 ∨ E.2.1 = -1 ∨ ∃ t x, eT E = t ++ [x] ∧ E.2.1.toNatClampNeg = x.1
  | 0, S, E, h, _ => by cases h
  | N + 1, S, E, h, hi => by
    obtain ⟨pc, stk, cs, nm, cl, sp, bg, ds, ak, ys, tr⟩ := S
    have h : (match p_step P g F an (pc, stk, cs, nm, cl, sp, bg, ds, ak, ys, tr) with | .inl S' => p_run P g F an N S' | .inr e => some e) = some E := h
    rcases sp_step P g F an pc stk cs nm cl sp bg ds ak ys tr with ⟨S', e, k⟩ | ⟨E', e, k⟩
    · rw [e] at h
      refine run_sp N S' E h ?_
      rcases k with ⟨k1, k2⟩ | ⟨a, x, k1, k2⟩
      · rcases hi with hi | ⟨t, x, h1, h2⟩
        · exact Or.inl (k2.trans hi)
        · exact Or.inr ⟨t, x, k1.trans h1, by rw [k2]; exact h2⟩
      · exact Or.inr ⟨tr, _, k1, by rw [k2]⟩
    · rw [e] at h
      have : E' = E := Option.some.inj h
      subst this
      rcases k with k | k | ⟨k1, k2⟩ | ⟨a, x, k1, k2⟩
      · exact Or.inl k
      · exact Or.inr (Or.inl k)
      · rcases hi with hi | ⟨t, x, h1, h2⟩
        · exact Or.inr (Or.inl (k1.trans hi))
        · exact Or.inr (Or.inr ⟨t, x, k2.trans h1, by rw [k1]; exact h2⟩)
      · exact Or.inr (Or.inr ⟨tr, _, k2, by rw [k1]⟩)
/-- rows of one way: all that is told of them is one -/
theorem key_all {S : PT} {B T O F cs : Nat} {E : Nat → PE} (hF : F ≤ 40) (hW : WE B F cs E) (hE : ∀ r, RT1 S B T O F r (-1) (E r)) {a b : Nat} (hk : keyN (E a) = keyN (E b)) : eE (E a) = eE (E b) ∧ eS (E a) = eS (E b) ∧ eD (E a) = eD (E b) ∧ eB (E a) = eB (E b) := by
  have hs := hW.same hF hk
  have ha := hW.1 a
  have hb := hW.1 b
  have e1 := ha.e
  have e2 := hb.e
  have sa := ha.2.1
  have sb := hb.2.1
  obtain ⟨-, -, b1, l1, -⟩ := ha
  obtain ⟨-, -, b2, l2, -⟩ := hb
  have n1 := nH_le (E a)
  have n2 := nH_le (E b)
  have sp := cmpL_sp (eD (E a)) (eD (E b)) 0 (by omega) (by omega)
  have ke : eB (E a) + nHlt (E a) = eB (E b) + nHlt (E b) ∧ (eD (E a)).length = (eD (E b)).length ∧ pathN 0 (eD (E a)) = pathN 0 (eD (E b)) := by
    unfold keyN at hk
    generalize pathN 0 (eD (E a)) = p1 at *
    generalize pathN 0 (eD (E b)) = p2 at *
    omega
  have hd : eD (E a) = eD (E b) := by
    rcases sp with ⟨-, x⟩ | ⟨-, x⟩ | ⟨-, x⟩
    · omega
    · exact x
    · omega
  have hC := hW.2 a b hd
  have t1 : nHlt (E a) = 1 → eB (E b) ≤ eB (E a) := fun q => hC.1 (by unfold nHlt at q; split at q; assumption; cases q)
  have t2 : nHlt (E b) = 1 → eB (E a) ≤ eB (E b) := fun q => hC.2.1 (by unfold nHlt at q; split at q; assumption; cases q)
  have hB : eB (E a) = eB (E b) := by omega
  have hn : nHlt (E a) = nHlt (E b) := by omega
  refine ⟨hs.2, ?_, hd, hB⟩
  have z : ∀ nm : Nat → Int32, spS (ps0 (cB S) nm (fun _ => 0)) = -1 := fun _ => rfl
  have fin : ∀ r, eE (E r) ≠ 99 := fun r q => by
    have := (hW.1 r).e
    rw [q] at this
    have h99 : (99 : Int32) = nI 99 := rfl
    rw [h99] at this
    have := (nI_eq (by decide) (by omega)).mp this.2
    omega
  by_cases g : eS (E a) = -1
  · have : nHlt (E a) = 1 := by unfold nHlt; rw [if_pos g]
    rw [hn] at this
    unfold nHlt at this
    split at this
    · rw [g]; exact Eq.symm (by assumption)
    · cases this
  · have ga : nHlt (E a) = 0 := by unfold nHlt; rw [if_neg g]
    have gb : eS (E b) ≠ -1 := fun q => by
      have : nHlt (E b) = 1 := by unfold nHlt; rw [if_pos q]
      omega
    obtain ⟨N1, h1⟩ := hE a
    obtain ⟨N2, h2⟩ := hE b
    have r1 := run_sp N1 _ _ h1 (Or.inl (z _))
    have r2 := run_sp N2 _ _ h2 (Or.inl (z _))
    rcases r1 with r1 | r1 | ⟨t1, x1, u1, v1⟩
    · exact absurd r1 (fin a)
    · exact absurd r1 g
    · rcases r2 with r2 | r2 | ⟨t2, x2, u2, v2⟩
      · exact absurd r2 (fin b)
      · exact absurd r2 gb
      · have m := hs.1
        rw [u1, u2, List.map_append, List.map_append] at m
        have m2 : x1.1 = x2.1 := by
          have := congrArg List.getLast? m
          simpa using this
        have sa' : ∃ j, j < 60 ∧ eS (E a) = nI j := sa.elim (fun q => absurd q g) id
        have sb' : ∃ j, j < 60 ∧ eS (E b) = nI j := sb.elim (fun q => absurd q gb) id
        obtain ⟨i, hi, ei⟩ := sa'
        obtain ⟨j, hj, ej⟩ := sb'
        have v1 : (eS (E a)).toNatClampNeg = x1.1 := v1
        have v2 : (eS (E b)).toNatClampNeg = x2.1 := v2
        rw [ei, nI_clamp (by omega)] at v1
        rw [ej, nI_clamp (by omega)] at v2
        rw [ei, ej, v1, v2, m2]
/-- the law's own run leaves the name e as it was -/
theorem lwW_4 {g x : Int32} {F s : Nat} : ∀ (f : Nat) (nm cl : Nat → Int32) (bg : Nat) (ds : List Bool), (∀ st', lwW g F x s f (nm, cl, bg, ds) = .inl st' → st'.1 4 = nm 4) ∧ ∀ e sp st', lwW g F x s f (nm, cl, bg, ds) = .inr (e, sp, st') → st'.1 4 = nm 4 := by
  intro f
  induction f with
  | zero => intro nm cl bg ds; exact ⟨fun st' h => (by cases h), fun e sp st' h => by cases h; rfl⟩
  | succ f ih =>
    intro nm cl bg ds
    have h : lwW g F x s (f + 1) (nm, cl, bg, ds) = if ds.length = F then .inr (5, nI s, (nm, cl, bg, ds)) else if nm 2 < x then lwW g F x s f (va_up (va_up nm 2 ((nm 2 + 1) &&& g)) 3 ((nm 3 + nm 0) &&& g), cl, bg + 3, ds ++ [true]) else .inl (nm, cl, bg, ds ++ [false]) := rfl
    rw [h]
    by_cases q : ds.length = F
    · rw [if_pos q]; exact ⟨fun st' h => (by cases h), fun e sp st' h => by cases h; rfl⟩
    · rw [if_neg q]
      by_cases r : nm 2 < x
      · rw [if_pos r]
        have := ih (va_up (va_up nm 2 ((nm 2 + 1) &&& g)) 3 ((nm 3 + nm 0) &&& g)) cl (bg + 3) (ds ++ [true])
        rw [show va_up (va_up nm 2 ((nm 2 + 1) &&& g)) 3 ((nm 3 + nm 0) &&& g) 4 = nm 4 by rw [ap_n (by decide), ap_n (by decide)]] at this
        exact this
      · rw [if_neg r]; exact ⟨fun st' h => (by cases h; rfl), fun e sp st' h => by cases h⟩
theorem lwP_4 {g : Int32} {F k n s : Nat} {nm cl : Nat → Int32} {bg : Nat} {ds : List Bool} (hk : k < 8) : (∀ st', lwP g F k n s (nm, cl, bg, ds) = .inl st' → st'.1 4 = nm 4) ∧ ∀ e sp st', lwP g F k n s (nm, cl, bg, ds) = .inr (e, sp, st') → st'.1 4 = nm 4 := by
  have it : ∀ (c : Prop) [Decidable c] (a b : Sum LSt (Int32 × Int32 × LSt)), ((∀ st', a = .inl st' → st'.1 4 = nm 4) ∧ ∀ e sp st', a = .inr (e, sp, st') → st'.1 4 = nm 4) → ((∀ st', b = .inl st' → st'.1 4 = nm 4) ∧ ∀ e sp st', b = .inr (e, sp, st') → st'.1 4 = nm 4) → ((∀ st', (if c then a else b) = .inl st' → st'.1 4 = nm 4) ∧ ∀ e sp st', (if c then a else b) = .inr (e, sp, st') → st'.1 4 = nm 4) := fun c _ a b ha hb => by
    split
    · exact ha
    · exact hb
  have l : ∀ (nm' cl' : Nat → Int32) (bg' : Nat) (ds' : List Bool), nm' 4 = nm 4 → ((∀ st', (Sum.inl (nm', cl', bg', ds') : Sum LSt (Int32 × Int32 × LSt)) = .inl st' → st'.1 4 = nm 4) ∧ ∀ e sp st', (Sum.inl (nm', cl', bg', ds') : Sum LSt (Int32 × Int32 × LSt)) = .inr (e, sp, st') → st'.1 4 = nm 4) := fun nm' cl' bg' ds' h => ⟨fun st' q => (by cases q; exact h), fun e sp st' q => by cases q⟩
  have r : ∀ (e0 s0 : Int32) (nm' cl' : Nat → Int32) (bg' : Nat) (ds' : List Bool), nm' 4 = nm 4 → ((∀ st', (Sum.inr (e0, s0, (nm', cl', bg', ds')) : Sum LSt (Int32 × Int32 × LSt)) = .inl st' → st'.1 4 = nm 4) ∧ ∀ e sp st', (Sum.inr (e0, s0, (nm', cl', bg', ds')) : Sum LSt (Int32 × Int32 × LSt)) = .inr (e, sp, st') → st'.1 4 = nm 4) := fun e0 s0 nm' cl' bg' ds' h => ⟨fun st' q => (by cases q), fun e sp st' q => by cases q; exact h⟩
  have u : ∀ (i : Nat) (v : Int32), i ≠ 4 → va_up nm i v 4 = nm 4 := fun i v h => ap_n (fun e => h e.symm)
  rcases (show k = 0 ∨ k = 1 ∨ k = 2 ∨ k = 3 ∨ k = 4 ∨ k = 5 ∨ k = 6 ∨ k = 7 by omega) with e | e | e | e | e | e | e | e <;> subst e
  · exact l _ _ _ _ (u _ _ (by decide))
  · exact it _ _ _ (r _ _ _ _ _ _ rfl) (it _ _ _ (l _ _ _ _ (u _ _ (by decide))) (l _ _ _ _ (u _ _ (by decide))))
  · exact lwW_4 (F + 1) nm cl (bg + 1) ds
  · exact it _ _ _ (r _ _ _ _ _ _ rfl) (l _ _ _ _ rfl)
  · exact it _ _ _ (r _ _ _ _ _ _ rfl) (l _ _ _ _ rfl)
  · exact it _ _ _ (r _ _ _ _ _ _ rfl) (l _ _ _ _ (u _ _ (by decide)))
  · exact it _ _ _ (r _ _ _ _ _ _ rfl) (l _ _ _ _ rfl)
  · exact it _ _ _ (r _ _ _ _ _ _ rfl) (l _ _ _ _ (u _ _ (by decide)))
theorem lwR_4 {g : Int32} {F : Nat} : ∀ (l : List (Nat × Nat)) (s : Nat) (st : LSt), (∀ q, q ∈ l → q.1 < 8) → (lwR g F l s st).2.2.1 4 = st.1 4
  | [], s, st, _ => rfl
  | p :: l, s, (nm, cl, bg, ds), hk => by
    have h4 := lwP_4 (g := g) (F := F) (n := p.2) (s := s) (nm := nm) (cl := cl) (bg := bg) (ds := ds) (hk p List.mem_cons_self)
    show (match lwP g F p.1 p.2 s (nm, cl, bg, ds) with | .inl st' => lwR g F l (s + pcN p.1) st' | .inr e => e).2.2.1 4 = nm 4
    cases h : lwP g F p.1 p.2 s (nm, cl, bg, ds) with
    | inl st' =>
      show (lwR g F l (s + pcN p.1) st').2.2.1 4 = nm 4
      rw [lwR_4 l _ st' (fun q hq => hk q (List.mem_cons_of_mem _ hq))]
      exact h4.1 st' h
    | inr e =>
      obtain ⟨e, sp, st'⟩ := e
      exact h4.2 e sp st' h
/-- how many of the first ways have their least row ahead of a row -/
def cntL (wl : Nat → Nat) (r : Nat) : Nat → Nat
  | 0 => 0
  | n + 1 => cntL wl r n + (if wl n < r then 1 else 0)
theorem cntL_all {wl : Nat → Nat} {r : Nat} : ∀ n, (∀ i, i < n → wl i < r) → cntL wl r n = n
  | 0, _ => rfl
  | n + 1, h => by rw [cntL, cntL_all n (fun i hi => h i (by omega)), if_pos (h n (by omega))]
theorem cntL_0 {wl : Nat → Nat} : ∀ n, cntL wl 0 n = 0
  | 0 => rfl
  | n + 1 => by rw [cntL, cntL_0 n, if_neg (Nat.not_lt_zero _)]
theorem cntL_no {wl : Nat → Nat} {r : Nat} : ∀ n, (∀ i, i < n → wl i ≠ r) → cntL wl (r + 1) n = cntL wl r n
  | 0, _ => rfl
  | n + 1, h => by
    have := h n (by omega)
    rw [cntL, cntL, cntL_no n (fun i hi => h i (by omega))]
    by_cases q : wl n < r
    · rw [if_pos q, if_pos (by omega)]
    · rw [if_neg q, if_neg (by omega)]
theorem cntL_yes {wl : Nat → Nat} {r : Nat} : ∀ n i, i < n → wl i = r → (∀ a b, a < n → b < n → wl a = wl b → a = b) → cntL wl (r + 1) n = cntL wl r n + 1
  | 0, i, h, _, _ => absurd h (Nat.not_lt_zero i)
  | n + 1, i, h, e, inj => by
    rw [cntL, cntL]
    by_cases q : i = n
    · subst q
      rw [cntL_no i (fun j hj x => by have := inj j i (by omega) (by omega) (x.trans e.symm); omega), if_pos (by omega), if_neg (by omega)]
    · have hn : wl n ≠ r := fun x => by have := inj n i (by omega) (by omega) (x.trans e.symm); omega
      rw [cntL_yes n i (by omega) e (fun a b ha hb => inj a b (by omega) (by omega))]
      by_cases q2 : wl n < r
      · rw [if_pos (by omega), if_pos q2]
      · rw [if_neg (by omega), if_neg q2]
/-- all rows go the ways together -/
def sumW (f : Nat → Nat) : Nat → Nat
  | 0 => 0
  | n + 1 => sumW f n + f n
theorem sumW_add (f g : Nat → Nat) : ∀ n, sumW (fun i => f i + g i) n = sumW f n + sumW g n
  | 0 => rfl
  | n + 1 => by rw [sumW, sumW, sumW, sumW_add f g n]; omega
theorem sumW_c {f g : Nat → Nat} : ∀ n, (∀ i, i < n → f i = g i) → sumW f n = sumW g n
  | 0, _ => rfl
  | n + 1, h => by rw [sumW, sumW, sumW_c n (fun i hi => h i (by omega)), h n (by omega)]
theorem sumW_0 : ∀ n, sumW (fun _ => 0) n = 0
  | 0 => rfl
  | n + 1 => by rw [sumW, sumW_0 n]
theorem sumW_one {p : Nat → Prop} [DecidablePred p] {i : Nat} : ∀ n, i < n → p i → (∀ j, j < n → p j → j = i) → sumW (fun j => if p j then 1 else 0) n = 1
  | 0, h, _, _ => absurd h (Nat.not_lt_zero i)
  | n + 1, h, hp, hu => by
    rw [sumW]
    by_cases q : i = n
    · subst q
      rw [if_pos hp, sumW_c (g := fun _ => 0) i (fun j hj => if_neg (fun x => by have := hu j (by omega) x; omega)), sumW_0]
    · rw [sumW_one n (by omega) hp (fun j hj => hu j (by omega)), if_neg (fun x => q (hu n (by omega) x).symm)]
theorem sum_rows {K : Nat → Nat} {R n : Nat} {wl wc : Nat → Nat} (h : WY K R n wl wc) : sumW wc n = R := by
  have key : ∀ r, r ≤ R → sumW (fun i => cntK K (K (wl i)) r) n = r := by
    intro r
    induction r with
    | zero => intro _; exact sumW_0 n
    | succ r ih =>
      intro hr
      have e : (fun i => cntK K (K (wl i)) (r + 1)) = fun i => cntK K (K (wl i)) r + (if K r = K (wl i) then 1 else 0) := rfl
      rw [e, sumW_add, ih (by omega)]
      obtain ⟨i, hi, ei, -⟩ := h.2.2.1 r (by omega)
      rw [sumW_one (p := fun j => K r = K (wl j)) (i := i) n hi ei.symm (fun j hj x => h.inj hj hi (x.symm.trans ei.symm))]
  rw [← key R (Nat.le_refl _)]
  exact sumW_c n (fun i hi => h.2.2.2 i hi)
