/-! PART 45: the reference's run is the machine's -/
def bit64 (k : Nat) : Int64 := (1 : Int64) <<< ((nI k).toInt64 &&& 63)
def decF (p : Int64 × Nat) (b : Bool) : Int64 × Nat := (if b = true then p.1 ||| bit64 p.2 else p.1, p.2 + 1)
def decL (ds : List Bool) : Int64 := (ds.foldl decF (0, 0)).1
theorem decF_len : ∀ (ds : List Bool) (p : Int64 × Nat), (ds.foldl decF p).2 = p.2 + ds.length
  | [], p => rfl
  | b :: ds, p => by simp only [List.foldl_cons, decF_len ds, List.length_cons]; simp [decF]; omega
theorem decL_s (ds : List Bool) (b : Bool) : decL (ds ++ [b]) = if b = true then decL ds ||| bit64 ds.length else decL ds := by
  unfold decL
  rw [List.foldl_append]
  have := decF_len ds (0, 0)
  simp only [Nat.zero_add] at this
  simp only [List.foldl_cons, List.foldl_nil, decF, this]
def setL (tr : List (Nat × (Nat → Int32))) : Int64 := tr.foldl (fun acc e => acc ||| bit64 e.1) 0
theorem setL_s (tr : List (Nat × (Nat → Int32))) (e : Nat × (Nat → Int32)) : setL (tr ++ [e]) = setL tr ||| bit64 e.1 := by simp [setL, List.foldl_append]
def mayT (f : Nat → Int64) (tr : List (Nat × (Nat → Int32))) : Nat → Int64 := tr.foldl (fun f e => mayL f e.1 e.2 8) f
theorem mayT_s (f : Nat → Int64) (tr : List (Nat × (Nat → Int32))) (e : Nat × (Nat → Int32)) : mayT f (tr ++ [e]) = mayL (mayT f tr) e.1 e.2 8 := by simp [mayT, List.foldl_append]
def stT (f : Nat → Int32) (tr : List (Nat × (Nat → Int32))) : Nat → Int32 := tr.foldl (fun f e => stO f e.1 e.2 8) f
theorem stT_s (f : Nat → Int32) (tr : List (Nat × (Nat → Int32))) (e : Nat × (Nat → Int32)) : stT f (tr ++ [e]) = stO (stT f tr) e.1 e.2 8 := by simp [stT, List.foldl_append]
/-- names that are alike where it matters are as good -/
def ansF (B T O : Nat) (row rule : Int32) (k : Nat) : Int32 := if rule < 0 then (if k < O then (row >>> ((nI (B * (T + k))) &&& 31)) &&& mk B else 0) else rule
theorem mk_rg {B : Nat} (hB : B ≤ 6) (x : Int32) : rg B (x &&& mk B) := rg_and hB rfl x
theorem rg_0 (B : Nat) : rg B 0 := ⟨0, Nat.two_pow_pos B, rfl⟩
theorem ansF_rg {B T O : Nat} {row rule : Int32} (hB : B ≤ 6) (h : ¬ rule < 0 → rg B rule) (k : Nat) : rg B (ansF B T O row rule k) := by
  unfold ansF
  split
  · split
    · exact mk_rg hB _
    · exact rg_0 B
  · exact h (by assumption)
theorem rowNm_rg {B T : Nat} {row : Int32} (hB : B ≤ 6) (k : Nat) : rg B (rowNm B T row k) := by
  unfold rowNm
  split
  · exact mk_rg hB _
  · exact rg_0 B
def MRfr (I0 I : Nat → Nat → Int32) (L0 L : Nat → Nat → Int64) : Prop :=
  (∀ o, o ≠ 69 → o ≠ 84 → o ≠ 85 → o ≠ 86 → o ≠ 87 → o ≠ 88 → o ≠ 90 → I o = I0 o) ∧ (∀ k, k ≠ 25 → k ≠ 42 → k ≠ 43 → k ≠ 44 → k ≠ 45 → I 69 k = I0 69 k) ∧ (∀ o, o ≠ 69 → o ≠ 89 → L o = L0 o) ∧ (∀ k, k ≠ 46 → k ≠ 47 → L 69 k = L0 69 k)
/-- the heap's side of a state: names, cells, how many begun, decisions, rounds, what was gathered -/
def MRst (I0 : Nat → Nat → Int32) (L0 : Nat → Nat → Int64) (nm cl : Nat → Int32) (bg : Nat) (ds : List Bool) (ys : Nat → Nat) (tr : List (Nat × (Nat → Int32))) (I : Nat → Nat → Int32) (L : Nat → Nat → Int64) : Prop :=
  (∀ k, k < 8 → I 84 k = nm k) ∧ (∀ k, k < 8 → I 85 k = cl k) ∧ I 69 44 = nI bg ∧ I 69 45 = nI ds.length ∧ L 69 46 = decL ds ∧ L 69 47 = setL tr ∧ (∀ k, k < 60 → I 88 k = nI (ys k)) ∧
  L 89 = (if I0 69 48 = 1 then mayT (L0 89) tr else L0 89) ∧ I 90 = (if I0 69 48 = 2 then stT (I0 90) tr else I0 90)
def MR (I0 : Nat → Nat → Int32) (L0 : Nat → Nat → Int64) (v5 v6 v7 v8 : Int32) (I : Nat → Nat → Int32) (L : Nat → Nat → Int64) : PS → Prop
  | (pc, stk, cs, nm, cl, sp, bg, ds, ak, ys, tr) => MRfr I0 I L0 L ∧ MRst I0 L0 nm cl bg ds ys tr I L ∧ SRI I stk ∧ CRf (I 87) cs ∧ v5 = nI ak ∧ v6 = nI cs.length ∧ v7 = sp ∧ v8 = nI pc
def MRE (I0 : Nat → Nat → Int32) (L0 : Nat → Nat → Int64) (I : Nat → Nat → Int32) (L : Nat → Nat → Int64) : PE → Prop
  | (e, sp, (_, _, _, nm, cl, _, bg, ds, _, ys, tr)) => MRfr I0 I L0 L ∧ MRst I0 L0 nm cl bg ds ys tr I L ∧ I 69 42 = e ∧ I 69 43 = sp
theorem chain_len {P : Nat → Nat × Int32} {n : Nat} {ty : Nat → List Bool} {sg : Nat → Nat} : ∀ {cs : List Nat} {s : Nat}, p_chain P n ty sg s cs → cs.length + s ≤ 4
  | [], s, h => by have : s = 4 := h; simp; omega
  | r :: rs, s, h => by have := chain_len h.2.2.2.2.2.2; have := h.1; simp; omega
theorem p_ty_len {B : Nat} : ∀ {bs : List Bool} {vs : List Int32}, p_ty B bs vs → vs.length = bs.length
  | [], [], _ => rfl
  | b :: bs, v :: vs, h => by simp [p_ty_len h.2]
  | [], v :: vs, h => by cases h
  | b :: bs, [], h => by cases h
theorem p_op_lt {P : Nat → Nat × Int32} {n : Nat} {ty : Nat → List Bool} {sg : Nat → Nat} {pc : Nat} (h : p_ok P n ty sg pc) : (P pc).1 ≤ 25 := by
  have hL := h.2.2.2
  split at hL <;> first | omega | exact False.elim hL
section MRU
variable {X : aw_X} {d : Nat} {Q : Option Value → aw_H → Prop} {D : Nat → Nat}
theorem MR_end {I0 I : Nat → Nat → Int32} {L0 L : Nat → Nat → Int64} {nm cl : Nat → Int32} {bg : Nat} {ds : List Bool} {ys : Nat → Nat} {tr : List (Nat × (Nat → Int32))} {pc ak : Nat} {stk : List Int32} {cs : List Nat} {sp0 e sp : Int32} (hF : MRfr I0 I L0 L) (hS : MRst I0 L0 nm cl bg ds ys tr I L) :
    MRE I0 L0 (aw_u (aw_u I 69 42 e) 69 43 sp) L (e, sp, (pc, stk, cs, nm, cl, sp0, bg, ds, ak, ys, tr)) := by
  obtain ⟨a1, a2, a3, a4⟩ := hF
  obtain ⟨b1, b2, b3, b4, b5, b6, b7, b8, b9⟩ := hS
  refine ⟨⟨fun o h1 h2 h3 h4 h5 h6 h7 => by rw [au_o h1, au_o h1]; exact a1 o h1 h2 h3 h4 h5 h6 h7, fun k h1 h2 h3 h4 h5 => by rw [au_k h3, au_k h2]; exact a2 k h1 h2 h3 h4 h5, a3, a4⟩, ⟨fun k hk => by rw [au_o (by decide), au_o (by decide)]; exact b1 k hk, fun k hk => by rw [au_o (by decide), au_o (by decide)]; exact b2 k hk, by rw [au_k (by decide), au_k (by decide)]; exact b3, by rw [au_k (by decide), au_k (by decide)]; exact b4, b5, b6, fun k hk => by rw [au_o (by decide), au_o (by decide)]; exact b7 k hk, b8, by rw [au_o (by decide), au_o (by decide)]; exact b9⟩, ?_, ?_⟩
  · rw [au_k (by decide), au_s]
  · rw [au_s]
end MRU
