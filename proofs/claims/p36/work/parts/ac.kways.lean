/-! PART ac: ways by their keys: the class finds one, or puts one in -/
/-- how many of the first rows have a key -/
def cntK (K : Nat → Nat) (k : Nat) : Nat → Nat
  | 0 => 0
  | r + 1 => cntK K k r + (if K r = k then 1 else 0)
theorem cntK_le (K : Nat → Nat) (k : Nat) : ∀ r, cntK K k r ≤ r
  | 0 => Nat.le_refl _
  | r + 1 => by have := cntK_le K k r; rw [cntK]; split <;> omega
theorem cntK_0 {K : Nat → Nat} {k : Nat} : ∀ r, (∀ q, q < r → K q ≠ k) → cntK K k r = 0
  | 0, _ => rfl
  | r + 1, h => by rw [cntK, cntK_0 r (fun q hq => h q (by omega)), if_neg (h r (by omega))]
/-- the ways of the first rows, in their order: their least rows, how many go them -/
def WY (K : Nat → Nat) (r n : Nat) (wl wc : Nat → Nat) : Prop :=
  (∀ i, i < n → wl i < r) ∧ (∀ i j, i < j → j < n → K (wl i) < K (wl j)) ∧ (∀ q, q < r → ∃ i, i < n ∧ K (wl i) = K q ∧ wl i ≤ q) ∧ ∀ i, i < n → wc i = cntK K (K (wl i)) r
theorem WY.inj {K : Nat → Nat} {r n : Nat} {wl wc : Nat → Nat} (h : WY K r n wl wc) {i j : Nat} (hi : i < n) (hj : j < n) (e : K (wl i) = K (wl j)) : i = j := by
  rcases Nat.lt_trichotomy i j with g | g | g
  · have := h.2.1 i j g hj; omega
  · exact g
  · have := h.2.1 j i g hi; omega
theorem WY.uniq1 {K : Nat → Nat} {r n n' : Nat} {wl wc wl' wc' : Nat → Nat} (h : WY K r n wl wc) (h' : WY K r n' wl' wc') : ∀ i, i < n → i < n' ∧ wl i = wl' i := by
  intro i
  induction i using Nat.strongRecOn with
  | ind i ih =>
    intro hi
    obtain ⟨j, hj, e, le⟩ := h'.2.2.1 (wl i) (h.1 i hi)
    have hji : j = i := by
      rcases Nat.lt_trichotomy j i with g | g | g
      · have := (ih j g (by omega)).2
        rw [← this] at e
        exact h.inj (by omega) hi e
      · exact g
      · obtain ⟨j2, hj2, e2, le2⟩ := h.2.2.1 (wl' i) (h'.1 i (by omega))
        have lt := h'.2.1 i j g hj
        have : j2 < i := by
          rcases Nat.lt_trichotomy j2 i with q | q | q
          · exact q
          · subst q; omega
          · have := h.2.1 i j2 q hj2; omega
        have e3 := (ih j2 this (by omega)).2
        rw [e3] at e2
        have := h'.inj (by omega) (by omega) e2
        omega
    subst hji
    refine ⟨hj, ?_⟩
    obtain ⟨j3, hj3, e3, le3⟩ := h.2.2.1 (wl' j) (h'.1 j hj)
    have : j3 = j := h.inj hj3 hi (e3.trans e)
    subst this
    omega
theorem WY.uniq {K : Nat → Nat} {r n n' : Nat} {wl wc wl' wc' : Nat → Nat} (h : WY K r n wl wc) (h' : WY K r n' wl' wc') : n = n' ∧ ∀ i, i < n → wl i = wl' i ∧ wc i = wc' i := by
  have a := h.uniq1 h'
  have b := h'.uniq1 h
  refine ⟨?_, fun i hi => ⟨(a i hi).2, ?_⟩⟩
  · rcases Nat.lt_trichotomy n n' with g | g | g
    · have := (b n g).1; omega
    · exact g
    · have := (a n' g).1; omega
  · rw [h.2.2.2 i hi, h'.2.2.2 i (a i hi).1, (a i hi).2]
theorem WY.le {K : Nat → Nat} {r n : Nat} {wl wc : Nat → Nat} (h : WY K r n wl wc) : n ≤ r := by
  have key : ∀ m (f : Nat → Nat) b, (∀ i, i < m → f i < b) → (∀ i j, i < m → j < m → f i = f j → i = j) → m ≤ b := by
    intro m
    induction m with
    | zero => intro f b _ _; exact Nat.zero_le _
    | succ m ih =>
      intro f b hb hi
      cases b with
      | zero => exact absurd (hb 0 (Nat.succ_pos _)) (Nat.not_lt_zero _)
      | succ b =>
        have := ih (fun i => if f i < f m then f i else f i - 1) b (fun i hi' => ?_) (fun i j hi' hj' e => ?_)
        · omega
        · have l1 := hb i (by omega)
          have l2 := hb m (by omega)
          have ne : f i ≠ f m := fun e => by have := hi i m (by omega) (by omega) e; omega
          split <;> omega
        · have ni : f i ≠ f m := fun e => by have := hi i m (by omega) (by omega) e; omega
          have nj : f j ≠ f m := fun e => by have := hi j m (by omega) (by omega) e; omega
          refine hi i j (by omega) (by omega) ?_
          split at e <;> split at e <;> omega
  exact key n wl r h.1 (fun i j hi hj e => h.inj hi hj (by rw [e]))
/-- one row more, of a way that there is -/
theorem WY.old {K : Nat → Nat} {r n at' : Nat} {wl wc : Nat → Nat} (h : WY K r n wl wc) (ha : at' < n) (e : K (wl at') = K r) : WY K (r + 1) n wl (va_up wc at' (wc at' + 1)) := by
  obtain ⟨h1, h2, h3, h4⟩ := id h
  refine ⟨fun i hi => Nat.lt_succ_of_lt (h1 i hi), h2, fun q hq => ?_, fun i hi => ?_⟩
  · by_cases g : q = r
    · subst g; exact ⟨at', ha, e, Nat.le_of_lt (h1 at' ha)⟩
    · exact h3 q (by omega)
  · rw [cntK]
    by_cases g : i = at'
    · subst g; rw [up_s, h4 i hi, if_pos e.symm]
    · rw [up_n _ _ g, h4 i hi, if_neg (fun x => g (h.inj hi ha (x.symm.trans e.symm)))]; rfl
/-- one row put in at a place -/
def insF (f : Nat → Nat) (at' v : Nat) (i : Nat) : Nat := if i < at' then f i else if i = at' then v else f (i - 1)
theorem WY.new {K : Nat → Nat} {r n at' : Nat} {wl wc : Nat → Nat} (h : WY K r n wl wc) (ha : at' ≤ n) (lo : ∀ i, i < at' → K (wl i) < K r) (hi' : ∀ i, at' ≤ i → i < n → K r < K (wl i)) : WY K (r + 1) (n + 1) (insF wl at' r) (insF wc at' 1) := by
  obtain ⟨h1, h2, h3, h4⟩ := id h
  have nk : ∀ q, q < r → K q ≠ K r := fun q hq e => by
    obtain ⟨i, hi, ei, -⟩ := h3 q hq
    rw [e] at ei
    rcases Nat.lt_or_ge i at' with g | g
    · have := lo i g; omega
    · have := hi' i g hi; omega
  refine ⟨fun i hi => ?_, fun i j hij hj => ?_, fun q hq => ?_, fun i hi => ?_⟩
  · unfold insF
    split
    · exact Nat.lt_succ_of_lt (h1 i (by omega))
    · split
      · exact Nat.lt_succ_self r
      · exact Nat.lt_succ_of_lt (h1 (i - 1) (by omega))
  · unfold insF
    by_cases a : i < at'
    · rw [if_pos a]
      by_cases b : j < at'
      · rw [if_pos b]; exact h2 i j hij (by omega)
      · rw [if_neg b]
        by_cases c : j = at'
        · rw [if_pos c]; exact lo i a
        · rw [if_neg c]; exact h2 i (j - 1) (by omega) (by omega)
    · rw [if_neg a, if_neg (show ¬ j < at' by omega)]
      by_cases c : i = at'
      · rw [if_pos c, if_neg (show ¬ j = at' by omega)]
        exact hi' (j - 1) (by omega) (by omega)
      · rw [if_neg c, if_neg (show ¬ j = at' by omega)]
        exact h2 (i - 1) (j - 1) (by omega) (by omega)
  · by_cases g : q = r
    · subst g
      exact ⟨at', by omega, by unfold insF; rw [if_neg (Nat.lt_irrefl _), if_pos rfl], by unfold insF; rw [if_neg (Nat.lt_irrefl _), if_pos rfl]; exact Nat.le_refl _⟩
    · obtain ⟨i, hi, ei, le⟩ := h3 q (by omega)
      by_cases a : i < at'
      · exact ⟨i, by omega, by unfold insF; rw [if_pos a]; exact ei, by unfold insF; rw [if_pos a]; exact le⟩
      · exact ⟨i + 1, by omega, by unfold insF; rw [if_neg (show ¬ i + 1 < at' by omega), if_neg (show ¬ i + 1 = at' by omega)]; exact ei, by unfold insF; rw [if_neg (show ¬ i + 1 < at' by omega), if_neg (show ¬ i + 1 = at' by omega)]; exact le⟩
  · rw [cntK]
    unfold insF
    by_cases a : i < at'
    · rw [if_pos a, if_pos a, h4 i (by omega), if_neg (fun x => by have := lo i a; omega)]; rfl
    · rw [if_neg a, if_neg a]
      by_cases c : i = at'
      · rw [if_pos c, if_pos c, if_pos rfl, cntK_0 r nk]
      · rw [if_neg c, if_neg c, h4 (i - 1) (by omega), if_neg (fun x => by have := hi' (i - 1) (by omega) (by omega); omega)]; rfl
section KWAYS
variable {X : aw_X} {d : Nat} {Q : Option Value → aw_H → Prop} {I : Nat → Nat → Int32} {L : Nat → Nat → Int64} {D : Nat → Nat}
theorem c_valueAtJ {o j N : Nat} (ho : o ∈ aw_ta21) (hs : (aw_sh o).2 = N) (hN : N < 2 ^ 31) (hj : j < N) (h : Q (some (.long (L o j))) (aw_s I L D)) : aw_m X d y_AW_valueAt_aJI [.ref o, .int (nI j)] (aw_s I L D) Q := by
  have B0 := @b_AW_valueAt_aJI_0 X d Q I L D o (nI j) ho
  have p0 : ¬ nI j < 0 := nI_pos (by omega)
  have p1 : ¬ (Int32.ofNat N) ≤ nI j := by
    have : ((Int32.ofNat N) ≤ nI j) = (N ≤ j) := nI_le' (a := N) hN (by omega)
    rw [this]; omega
  rw [hs, nI_clamp (show j < 2 ^ 31 by omega)] at B0
  exact aw_go rfl rfl (B0 (fun q => absurd q p0) (fun _ q => absurd q p1) (fun _ _ => aw_in_nI hj hN) (fun _ _ => h))
theorem l_Wk_find {n k : Nat} {kf : Nat → Nat} (hn : n ≤ 4096) (hk : k < 2 ^ 63) (hkf : ∀ i, i < n → kf i < 2 ^ 63 ∧ L 15 i = lN (kf i)) (hm : ∀ i j, i < j → j < n → kf i < kf j)
    (hQ : ∀ a, a ≤ n → (∀ i, i < a → kf i < k) → (∀ i, a ≤ i → i < n → k ≤ kf i) → Q (some (.int (nI a))) (aw_s I L D)) :
    ∀ (m lo hi t : Nat), hi - lo < 2 ^ m → t + m ≤ 13 → lo ≤ hi → hi ≤ n → (∀ i, i < lo → kf i < k) → (∀ i, hi ≤ i → i < n → k ≤ kf i) →
      aw_z X (d + 1) y_Wk_find Q 11 [some (.ref 11), some (.long (lN k)), none, some (.int (nI lo)), some (.int (nI hi)), some (.int (nI t)), none] [] (aw_s I L D) := by
  intro m
  induction m with
  | zero =>
    intro lo hi t hs ht hle hhn hlo hhi
    have hs : hi - lo < 1 := hs
    have e : hi = lo := by omega
    subst e
    have c40 : ¬ (40 : Int32) ≤ nI t := by rw [show (40 : Int32) = nI 40 from rfl, nI_leI (by decide) (by omega)]; omega
    exact b_Wk_find_11 (fun q => absurd q c40) (fun _ _ => hQ hi hhn hlo hhi) (fun _ q => absurd (by rw [nI_leI (by omega) (by omega)]; exact Nat.le_refl _) q)
  | succ m ih =>
    intro lo hi t hs ht hle hhn hlo hhi
    rw [Nat.pow_succ] at hs
    have c40 : ¬ (40 : Int32) ≤ nI t := by rw [show (40 : Int32) = nI 40 from rfl, nI_leI (by decide) (by omega)]; omega
    refine b_Wk_find_11 (fun q => absurd q c40) (fun _ q => ?_) (fun _ q => ?_)
    · rw [nI_leI (by omega) (by omega)] at q
      have e : hi = lo := by omega
      subst e
      exact hQ hi hhn hlo hhi
    · rw [nI_leI (by omega) (by omega)] at q
      rw [nI_add, show (2 : Int32) = nI 2 from rfl, pk_div (by omega) (by decide) (by decide)]
      have m1 : lo ≤ (lo + hi) / 2 := by omega
      have m2 : (lo + hi) / 2 < hi := by omega
      have m3 : (lo + hi) / 2 - lo < 2 ^ m := by omega
      have m4 : hi - ((lo + hi) / 2 + 1) < 2 ^ m := by omega
      generalize (lo + hi) / 2 = mid at *
      obtain ⟨kb, kv⟩ := hkf mid (by omega)
      refine c_valueAtJ (N := 4096) (by decide) rfl (by decide) (by omega) ?_
      rw [kv]
      have B0 := @b_Wk_find_41 X d Q I L D (lN k) (nI lo) (nI hi) (nI t) (nI mid) (lN (kf mid))
      rw [cmp_ge kb hk] at B0
      refine B0 (fun q2 => ?_) (fun q2 => ?_)
      · rw [nI_1]
        refine ih lo mid (t + 1) m3 (by omega) m1 (by omega) hlo (fun i h1 h2 => ?_)
        by_cases g : i = mid
        · subst g; exact q2
        · exact Nat.le_of_lt (Nat.lt_of_le_of_lt q2 (hm mid i (by omega) h2))
      · rw [nI_1 mid, nI_1]
        refine ih (mid + 1) hi (t + 1) m4 (by omega) (by omega) hhn (fun i h1 => ?_) hhi
        by_cases g : i = mid
        · subst g; omega
        · exact Nat.lt_trans (hm i mid (by omega) (by omega)) (by omega)
theorem c_Wk_find {n k : Nat} {kf : Nat → Nat} (hn : n ≤ 4096) (h6 : I 11 6 = nI n) (hk : k < 2 ^ 63) (hkf : ∀ i, i < n → kf i < 2 ^ 63 ∧ L 15 i = lN (kf i)) (hm : ∀ i j, i < j → j < n → kf i < kf j)
    (hQ : ∀ a, a ≤ n → (∀ i, i < a → kf i < k) → (∀ i, a ≤ i → i < n → k ≤ kf i) → Q (some (.int (nI a))) (aw_s I L D)) : aw_m X (d + 1) y_Wk_find [.ref 11, .long (lN k)] (aw_s I L D) Q := by
  refine aw_go rfl rfl (b_Wk_find_0 ?_)
  rw [h6]
  exact l_Wk_find (d := d) hn hk hkf hm hQ 13 0 n 0 (by show n - 0 < 8192; omega) (Nat.le_refl _) (Nat.zero_le _) (Nat.le_refl _) (fun i h => absurd h (Nat.not_lt_zero i)) (fun i h1 h2 => by omega)
end KWAYS
