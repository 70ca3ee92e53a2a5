/-! PART 85: what the grammar writes down is well formed: sums, conditions, steps without a block -/
/-- tokens, and nothing behind the last one -/
def tFul (T : TD) : Prop := tOK T ∧ ∀ j, T.1 < j → tK T j = 1
theorem tFul.le {T : TD} (h : tFul T) {j : Nat} (hj : tK T j ≠ 1) : j ≤ T.1 := Nat.not_lt.mp fun x => hj (h.2 j x)
/-- what is written for a sum leaves one number more -/
def Wsum (A : Nat → Prop) (b : Nat) (R : PT → PR) : Prop := ∀ g dc τ S S', R S = .ok S' → Wf A g dc τ S → g ≤ 4 → τ.length ≤ b → Wf A g dc (false :: τ) S' ∧ Pre S S'
theorem sgn_ok {T : TD} {ch : Int32} {S S' : PT} (h : sgn T ch S = .ok S') : S' = adv S ∧ tK T (ti S) = ch := by
  unfold sgn at h
  split at h
  · cases h; exact ⟨rfl, by assumption⟩
  · cases h
theorem opn_ok {T : TD} {ch : Int32} {k : Nat} {S S' : PT} (h : opn T ch k S = .ok S') : S' = adv S ∧ 0 < k := by
  unfold opn at h
  split at h
  · split at h
    · cases h
    · cases h; exact ⟨rfl, by omega⟩
  · cases h
theorem W_plc {A : Nat → Prop} {T : TD} {k b : Nat} {inn : PT → PR} (hi : 0 < k → Wsum A b inn) {g : Nat} {dc : Bool} {τ : List Bool} {S S' : PT} (e : plc T k inn S = .ok S') (h : Wf A g dc τ S) (hg : g ≤ 4) (hl : τ.length ≤ b) : Wf A g dc (false :: τ) S' ∧ Pre S S' := by
  obtain ⟨S1, e1, e2⟩ := pb_inv e
  obtain ⟨rfl, hk⟩ := opn_ok e1
  obtain ⟨S2, e3, e4⟩ := pb_inv e2
  obtain ⟨rfl, -⟩ := sgn_ok e4
  exact hi hk g dc τ (adv S) S2 e3 h hg hl
theorem W_unF {A : Nat → Prop} {T : TD} {k b : Nat} {inn : PT → PR} (hT : tFul T) (hb : b ≤ 26) (hi : 0 < k → Wsum A b inn) {g : Nat} {dc : Bool} {τ : List Bool} {S S' : PT} (e : unF T k inn S = .ok S') (h : Wf A g dc τ S) (hg : g ≤ 4) (hl : τ.length ≤ b) : Wf A g dc (false :: τ) S' ∧ Pre S S' := by
  unfold unF at e
  split at e
  · cases e
  · next hu =>
    have hK := uFt_0 (Classical.not_not.mp hu)
    split at e
    · cases e
    · split at e
      · obtain ⟨S1, e1, e2⟩ := pb_inv e
        obtain ⟨rfl, hk⟩ := opn_ok e1
        obtain ⟨S2, e3, e4⟩ := pb_inv e2
        obtain ⟨rfl, -⟩ := sgn_ok e4
        exact hi hk g dc τ (adv (unU S)) S2 e3 h hg hl
      · next n40 =>
        split at e
        · obtain ⟨S1, e1, e2⟩ := pb_inv e
          obtain ⟨w1, p1⟩ := W_plc hi e1 (show Wf A g dc τ (adv (unU S)) from h) hg hl
          cases e2
          obtain ⟨w2, p2⟩ := w1.work (o := 4) (a := 0) (τ' := false :: τ) (by decide) (by simp; omega) hg rfl ⟨fun _ => trivial, fun h => absurd h (by decide), fun _ => ⟨τ, rfl⟩, fun h => absurd h (by decide), fun h => absurd h (by decide)⟩
          exact ⟨w2, Pre.tr (S2 := S1) p1 p2⟩
        · next n7 =>
          split at e
          · cases e
            exact Wf.work (S := noN (adv (unU S))) (o := 2) (τ' := false :: τ) h (by decide) (by omega) hg rfl ⟨fun _ => trivial, fun h => absurd h (by decide), fun h => absurd h (by decide), fun h => absurd h (by decide), fun h => absurd h (by decide)⟩
          · next n4 =>
            cases e
            have q2 : tK T (ti S) = 2 := by
              rcases hK with q | q | q | q
              · exact q
              · exact absurd q n4
              · exact absurd q n7
              · exact absurd q n40
            exact Wf.work (S := adv (unU S)) (o := 3) (τ' := false :: τ) h (by decide) (by omega) hg rfl ⟨fun h => absurd h (by decide), fun _ => hT.1.2.2.2.2.1 (ti S) (hT.le (by rw [q2]; decide)) q2, fun h => absurd h (by decide), fun h => absurd h (by decide), fun h => absurd h (by decide)⟩
theorem W_olp {A : Nat → Prop} {T : TD} {c1 c2 : Int32} {o1 o2 b : Nat} {u : PT → PR} (ho : (5 ≤ o1 ∧ o1 ≤ 8) ∧ (5 ≤ o2 ∧ o2 ≤ 8)) (hb : b ≤ 27) (hu : Wsum A b u) : ∀ (f g : Nat) (dc : Bool) (τ : List Bool) (S S' : PT), olp T c1 c2 o1 o2 u f S = .ok S' → Wf A g dc (false :: τ) S → g ≤ 4 → τ.length + 1 ≤ b → Wf A g dc (false :: τ) S' ∧ Pre S S'
  | 0, g, dc, τ, S, S', e, h, _, _ => by cases e; exact ⟨h, Pre.rf⟩
  | f + 1, g, dc, τ, S, S', e, h, hg, hl => by
    rw [olp] at e
    split at e
    · obtain ⟨S1, e1, e2⟩ := pb_inv e
      obtain ⟨w1, p1⟩ := hu g dc (false :: τ) (adv S) S1 e1 h hg (by simpa using hl)
      generalize ho2 : (if tK T (ti S) = c1 then o1 else o2) = o at e2
      have hor : 5 ≤ o ∧ o ≤ 8 := by rw [← ho2]; split <;> omega
      obtain ⟨w2, p2⟩ := w1.work (o := o) (a := 0) (τ' := false :: τ) (by omega) (by simp; omega) hg (by unfold tyA; rw [if_neg (by omega), if_neg (by omega), if_pos hor]; rfl) ⟨fun _ => trivial, fun h => by omega, fun h => by omega, fun _ _ => ⟨τ, rfl⟩, fun h => by omega⟩
      obtain ⟨w3, p3⟩ := W_olp ho hb hu f g dc τ _ S' e2 w2 hg hl
      exact ⟨w3, (Pre.tr (S2 := S1) p1 p2).tr p3⟩
    · cases e; exact ⟨h, Pre.rf⟩
theorem Wsum.mono {A : Nat → Prop} {b b' : Nat} {R : PT → PR} (h : Wsum A b R) (hb : b' ≤ b) : Wsum A b' R := fun g dc τ S S' e w hg hl => h g dc τ S S' e w hg (by omega)
theorem W_prd {A : Nat → Prop} {T : TD} {b : Nat} {u : PT → PR} (hb : b ≤ 25) (hu : Wsum A (b + 1) u) : Wsum A b (prd T u) := fun g dc τ S S' e h hg hl => by
  obtain ⟨S1, e1, e2⟩ := pb_inv e
  obtain ⟨w1, p1⟩ := hu g dc τ S S1 e1 h hg (by omega)
  obtain ⟨w2, p2⟩ := W_olp (by decide) (by omega) hu 501 g dc τ S1 S' e2 w1 hg (by omega)
  exact ⟨w2, p1.tr p2⟩
theorem W_smm {A : Nat → Prop} {T : TD} {b : Nat} {u : PT → PR} (hb : b ≤ 24) (hu : Wsum A (b + 1) u) : Wsum A b (smm T u) := fun g dc τ S S' e h hg hl => by
  obtain ⟨S1, e1, e2⟩ := pb_inv e
  obtain ⟨w1, p1⟩ := hu g dc τ S S1 e1 h hg (by omega)
  obtain ⟨w2, p2⟩ := W_olp (by decide) (by omega) hu 501 g dc τ S1 S' e2 w1 hg (by omega)
  exact ⟨w2, p1.tr p2⟩
theorem W_rdI {A : Nat → Prop} {T : TD} (hT : tFul T) : ∀ k, k ≤ 10 → Wsum A (24 - 2 * k) (rdI T (k + 1))
  | 0, hk => W_smm (by decide) (W_prd (by decide) (fun g dc τ S S' e h hg hl => W_unF (b := 26) hT (by decide) (fun h => absurd h (Nat.lt_irrefl 0)) e h hg (by omega)))
  | k + 1, hk => W_smm (by omega) (W_prd (by omega) (fun g dc τ S S' e h hg hl => W_unF (b := 24 - 2 * k) hT (by omega) (fun _ => W_rdI hT k (by omega)) e h hg (by omega)))
theorem W_tst {A : Nat → Prop} {T : TD} {k : Nat} (hT : tFul T) (hk : k ≤ 10) {g : Nat} {dc : Bool} {τ : List Bool} {S S' : PT} (e : tst T k S = .ok S') (h : Wf A g dc τ S) (hg : g ≤ 4) (hl : τ.length + 1 + 2 * k ≤ 24) : Wf A g dc (true :: τ) S' ∧ Pre S S' := by
  obtain ⟨S1, e1, e2⟩ := pb_inv e
  obtain ⟨w1, p1⟩ := W_rdI (A := A) hT k hk g dc τ S S1 e1 h hg (by omega)
  split at e2
  · next hK =>
    obtain ⟨S2, e3, e4⟩ := pb_inv e2
    obtain ⟨w2, p2⟩ := W_rdI (A := A) hT k hk g dc (false :: τ) (adv S1) S2 e3 w1 hg (by simp; omega)
    cases e4
    have hr : 9 ≤ rlo T (ti S1) ∧ rlo T (ti S1) ≤ 12 := by unfold rlo; (repeat' split) <;> omega
    generalize rlo T (ti S1) = o at hr
    obtain ⟨w3, p3⟩ := w2.work (o := o) (a := 0) (τ' := true :: τ) (by omega) (by simp; omega) hg (by unfold tyA; rw [if_neg (by omega), if_neg (by omega), if_neg (by omega), if_pos hr]; rfl) ⟨fun _ => trivial, fun h => by omega, fun h => by omega, fun _ _ => ⟨τ, rfl⟩, fun h => by omega⟩
    exact ⟨w3, p1.tr (Pre.tr (S2 := S2) p2 p3)⟩
  · cases e2
theorem W_or {A : Nat → Prop} {g : Nat} {dc : Bool} {S : PT} (h : Wf A g dc [true, true] S) (hg : g ≤ 4) (o : Nat) (ho : o = 13 ∨ o = 14) : Wf A g dc [true] (em o 0 S) ∧ Pre S (em o 0 S) :=
  h.work (o := o) (a := 0) (τ' := [true]) (by omega) (by decide) hg (by rcases ho with rfl | rfl <;> rfl) ⟨fun _ => trivial, fun h => by omega, fun h => by omega, fun _ h => by omega, fun _ => ⟨[], rfl⟩⟩
theorem W_clp {A : Nat → Prop} {T : TD} {k : Nat} (hT : tFul T) (hk : k ≤ 10) {g : Nat} {dc : Bool} (hg : g ≤ 4) : ∀ (f : Nat) (w : Bool) (S S' : PT), clp T k f w S = .ok S' → Wf A g dc (if w = true then [true, true] else [true]) S → Wf A g dc [true] S' ∧ Pre S S'
  | 0, w, S, S', e, h => by
    rw [clp] at e
    cases w <;> cases e
    · exact ⟨h, Pre.rf⟩
    · exact W_or h hg 14 (Or.inr rfl)
  | f + 1, w, S, S', e, h => by
    rw [clp] at e
    split at e
    · obtain ⟨S1, e1, e2⟩ := pb_inv e
      cases w
      · obtain ⟨w1, p1⟩ := W_tst hT hk e1 (show Wf A g dc [true] (adv S) from h) hg (by simp; omega)
        obtain ⟨w2, p2⟩ := W_clp hT hk hg f true S1 S' e2 w1
        exact ⟨w2, Pre.tr (S2 := S1) p1 p2⟩
      · obtain ⟨w0, p0⟩ := W_or h hg 14 (Or.inr rfl)
        obtain ⟨w1, p1⟩ := W_tst hT hk e1 (show Wf A g dc [true] (adv (em 14 0 S)) from w0) hg (by simp; omega)
        obtain ⟨w2, p2⟩ := W_clp hT hk hg f true S1 S' e2 w1
        exact ⟨w2, p0.tr (Pre.tr (S2 := S1) p1 p2)⟩
    · split at e
      · obtain ⟨S1, e1, e2⟩ := pb_inv e
        cases w
        · obtain ⟨w1, p1⟩ := W_tst hT hk e1 (show Wf A g dc [true] (adv S) from h) hg (by simp; omega)
          obtain ⟨w3, p3⟩ := W_or w1 hg 13 (Or.inl rfl)
          obtain ⟨w2, p2⟩ := W_clp hT hk hg f false _ S' e2 w3
          exact ⟨w2, (Pre.tr (S2 := S1) p1 p3).tr p2⟩
        · obtain ⟨w1, p1⟩ := W_tst hT hk e1 (show Wf A g dc [true, true] (adv S) from h) hg (by simp; omega)
          obtain ⟨w3, p3⟩ := w1.work (o := 13) (a := 0) (τ' := [true, true]) (by decide) (by decide) hg rfl ⟨fun _ => trivial, fun h => by omega, fun h => by omega, fun _ h => by omega, fun _ => ⟨[true], rfl⟩⟩
          obtain ⟨w2, p2⟩ := W_clp hT hk hg f true _ S' e2 w3
          exact ⟨w2, (Pre.tr (S2 := S1) p1 p3).tr p2⟩
      · cases w <;> cases e
        · exact ⟨h, Pre.rf⟩
        · exact W_or h hg 14 (Or.inr rfl)
theorem W_cnd {A : Nat → Prop} {T : TD} {k : Nat} (hT : tFul T) (hk : k ≤ 10) {g : Nat} {dc : Bool} {S S' : PT} (hg : g ≤ 4) (e : cnd T k S = .ok S') (h : Wf A g dc [] S) : Wf A g dc [true] S' ∧ Pre S S' := by
  obtain ⟨S1, e1, e2⟩ := pb_inv e
  obtain ⟨w1, p1⟩ := W_tst hT hk e1 h hg (by simp; omega)
  obtain ⟨w2, p2⟩ := W_clp hT hk hg 501 false S1 S' e2 w1
  exact ⟨w2, p1.tr p2⟩
