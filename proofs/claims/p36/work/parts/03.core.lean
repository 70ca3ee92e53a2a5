/-! PART 03: a light judgement over the machine. A method's state is: locals (a list, none = not known), operand stack, and a heap of numbered objects whose shapes are fixed (part 02). -/
abbrev aw_Y : Type := MethodName × ByteArray × Nat × Option FieldType
/-- the launch; class numbers and slots; the classes of arrays (int, long, boolean, Code); the first address; addresses of what lies outside -/
abbrev aw_X : Type := Launch × va_G × (ClassId × ClassId × ClassId × ClassId) × Nat × (Nat → Nat)
/-- ints, longs, references by object and place; how many objects there are; whether the next cell is the next object -/
abbrev aw_H : Type := (Nat → Nat → Int32) × (Nat → Nat → Int64) × (Nat → Nat → Option Nat) × Nat × Bool
abbrev aw_L : Type := List (Option Value)
abbrev aw_St : Type := aw_L × List Value × aw_H
def aw_T : List Cond := lw_tbl.filter goodWord
theorem aw_mem {w : Cond} (i : Nat) (h : lw_tbl[i]? = some w) (g : goodWord w = true) : w ∈ aw_T := List.mem_filter.mpr ⟨List.mem_of_getElem? h, g⟩
def aw_isN : Cond → Bool
  | .fieldLinkNest .. => true
  | .methodLinkNest .. => true
  | .declares _ => true
  | .castable .. => true
  | _ => false
def aw_N : List Cond := lw_tbl.filter aw_isN
theorem aw_memN {w : Cond} (i : Nat) (h : lw_tbl[i]? = some w) (g : aw_isN w = true) : w ∈ aw_N := List.mem_filter.mpr ⟨List.mem_of_getElem? h, g⟩
def aw_ws (y : aw_Y) : List Cond := Cond.code y.1 y.2.1 y.2.2.1 y.2.2.2 :: aw_T
def aw_fr (X : aw_X) : Nat → Prop := fun q => X.2.2.2.1 ≤ q
def aw_ad (X : aw_X) (a : Nat) : Nat := if a < aw_K then X.2.2.2.1 + a else X.2.2.2.2 a
def aw_tv (X : aw_X) : Value → Value
  | .ref a => .ref (aw_ad X a)
  | v => v
def aw_fv (X : aw_X) (A : aw_H) (o k : Nat) (ty : FieldType) : Value := match ty with
  | .int => .int (A.1 o k)
  | .boolean => .int (A.1 o k)
  | .long => .long (A.2.1 o k)
  | _ => va_rf ((A.2.2.1 o k).map (aw_ad X))
def aw_fs (X : aw_X) (A : aw_H) (o c : Nat) : List Value := (List.range (aw_nf c)).map (fun k => aw_fv X A o k (aw_ty c k))
def aw_ent (X : aw_X) (A : aw_H) (o : Nat) : va_E :=
  if (aw_sh o).1 < 20 then .inr ((aw_sh o).1, aw_fs X A o (aw_sh o).1)
  else if (aw_sh o).1 = 20 then .inl (X.2.2.1.1, (aw_sh o).2, .inl (A.1 o))
  else if (aw_sh o).1 = 21 then .inl (X.2.2.1.2.1, (aw_sh o).2, .inr (.inl (A.2.1 o)))
  else if (aw_sh o).1 = 22 then .inl (X.2.2.1.2.2.1, (aw_sh o).2, .inl (A.1 o))
  else .inl (X.2.2.1.2.2.2, (aw_sh o).2, .inr (.inr (.inr (.inr (fun k => (A.2.2.1 o k).map (aw_ad X))))))
def aw_w (X : aw_X) (A : aw_H) : va_W := (List.range A.2.2.2.1).map (fun o => (X.2.2.2.1 + o, aw_ent X A o))
def aw_tys (X : aw_X) : List (ClassId × FieldType) := [(X.2.2.1.1, .int), (X.2.2.1.2.1, .long), (X.2.2.1.2.2.1, .int), (X.2.2.1.2.2.2, .object "AllWays$Code")]
/-- an object that stands: one of the first 72 once those are made, or one below the count -/
abbrev aw_ex (A : aw_H) (o : Nat) : Prop := (o < 72 ∧ A.2.2.2.2 = false) ∨ o < A.2.2.2.1
def aw_Rep (X : aw_X) (A : aw_H) (H : Heap) : Prop := va_P X.2.1 aw_cl (aw_w X A) H ∧ A.2.2.2.1 ≤ aw_K ∧ (A.2.2.2.2 = true → H.size = X.2.2.2.1 + A.2.2.2.1) ∧ (A.2.2.2.2 = false → 72 ≤ A.2.2.2.1)
theorem aw_Rep.ex {X : aw_X} {A : aw_H} {H : Heap} (h : aw_Rep X A H) {o : Nat} (ho : aw_ex A o) : o < A.2.2.2.1 := ho.elim (fun q => Nat.lt_of_lt_of_le q.1 (h.2.2.2 q.2)) id
theorem aw_w_at {X : aw_X} {A : aw_H} {o : Nat} (h : o < A.2.2.2.1) : (aw_w X A)[o]? = some (X.2.2.2.1 + o, aw_ent X A o) := by
  simp [aw_w, h]
theorem aw_w_len (X : aw_X) (A : aw_H) : (aw_w X A).length = A.2.2.2.1 := by simp [aw_w]
theorem aw_w_D (X : aw_X) (A : aw_H) : va_D (aw_fr X) (aw_w X A) := by
  have hg : ∀ (i : Nat) (p : Nat × va_E), (aw_w X A)[i]? = some p → p.1 = X.2.2.2.1 + i := by
    intro i p h
    by_cases hi : i < A.2.2.2.1
    · rw [aw_w_at hi] at h; cases h; rfl
    · rw [List.getElem?_eq_none (by rw [aw_w_len]; omega)] at h; cases h
  refine ⟨fun i j p q hp hq he => ?_, fun k q hq => ?_⟩
  · have := hg i p hp; have := hg j q hq; omega
  · have := hg k q hq; show X.2.2.2.1 ≤ q.1; omega
theorem aw_ent_congr {X : aw_X} {A A' : aw_H} {o : Nat} (h1 : A'.1 o = A.1 o) (h2 : A'.2.1 o = A.2.1 o) (h3 : A'.2.2.1 o = A.2.2.1 o) : aw_ent X A' o = aw_ent X A o := by
  unfold aw_ent aw_fs aw_fv
  rw [h1, h2, h3]
theorem aw_w_set {X : aw_X} {A A' : aw_H} {o : Nat} {E : va_E} (hn : A'.2.2.2.1 = A.2.2.2.1) (hE : aw_ent X A' o = E)
    (hO : ∀ j, j ≠ o → A'.1 j = A.1 j ∧ A'.2.1 j = A.2.1 j ∧ A'.2.2.1 j = A.2.2.1 j) : (aw_w X A).set o (X.2.2.2.1 + o, E) = aw_w X A' := by
  apply List.ext_getElem?
  intro j
  rw [List.getElem?_set]
  by_cases hj : o = j
  · subst hj
    by_cases hl : o < A.2.2.2.1
    · rw [if_pos rfl, aw_w_len, if_pos hl, aw_w_at (by rw [hn]; exact hl), hE]
    · rw [if_pos rfl, aw_w_len, if_neg hl, List.getElem?_eq_none (by rw [aw_w_len, hn]; omega)]
  · rw [if_neg hj]
    obtain ⟨a, b, c⟩ := hO j (fun q => hj q.symm)
    by_cases hl : j < A.2.2.2.1
    · rw [aw_w_at hl, aw_w_at (by rw [hn]; exact hl), aw_ent_congr a b c]
    · rw [List.getElem?_eq_none (by rw [aw_w_len]; omega), List.getElem?_eq_none (by rw [aw_w_len, hn]; omega)]
theorem aw_w_push {X : aw_X} {A A' : aw_H} {E : va_E} (hn : A'.2.2.2.1 = A.2.2.2.1 + 1) (hE : aw_ent X A' A.2.2.2.1 = E)
    (hO : ∀ j, j < A.2.2.2.1 → A'.1 j = A.1 j ∧ A'.2.1 j = A.2.1 j ∧ A'.2.2.1 j = A.2.2.1 j) : (aw_w X A) ++ [(X.2.2.2.1 + A.2.2.2.1, E)] = aw_w X A' := by
  unfold aw_w
  rw [hn, List.range_succ, List.map_append, List.map_cons, List.map_nil, hE]
  congr 1
  apply List.map_congr_left
  intro j hj
  obtain ⟨a, b, c⟩ := hO j (List.mem_range.mp hj)
  rw [aw_ent_congr a b c]
def aw_u {α : Type} (f : Nat → Nat → α) (o k : Nat) (v : α) : Nat → Nat → α := fun o' => if o' = o then va_up (f o) k v else f o'
theorem aw_u_same {α : Type} (f : Nat → Nat → α) (o k : Nat) (v : α) : aw_u f o k v o = va_up (f o) k v := by simp [aw_u]
theorem aw_u_ne {α : Type} (f : Nat → Nat → α) {o o' : Nat} (k : Nat) (v : α) (h : o' ≠ o) : aw_u f o k v o' = f o' := by simp [aw_u, h]
/-! what lies outside: strings, the table of threes, the script -/
def aw_SI (X : aw_X) (U : State) (H : Heap) : Prop := va_Z "jdk/internal/util/Preconditions" "SIOOBE_FORMATTER" "Ljava/util/function/BiFunction;" .null (aw_fr X) U H ∨ va_Z "jdk/internal/util/Preconditions" "SIOOBE_FORMATTER" "Ljava/util/function/BiFunction;" (.ref (X.2.2.2.2 1006)) (aw_fr X) U H
/-- the script's ints, its length -/
def aw_xs (X : aw_X) (j : Nat) : Int32 := Int32.ofNat (X.2.2.2.2 (1101 + j))
def aw_xl (X : aw_X) : Nat := X.2.2.2.2 1100
def aw_Ey (X : aw_X) (U : State) (H : Heap) : Prop :=
  va_T .int (X.2.2.2.2 1005) (aw_xl X) (fun j => .int (aw_xs X j)) (aw_fr X) U H ∧ aw_SI X U H ∧ vx_Zq Bundle.tN "UNASSIGNED_STACK" Bundle.steD (aw_fr X) U H ∧ vx_Zq Bundle.tN "SUPPRESSED_SENTINEL" Bundle.listD (aw_fr X) U H ∧ va_AO "AllWays$Code" U
theorem aw_Ey.kept {X : aw_X} {U : State} {H H1 : Heap} (h : aw_Ey X U H) (hq : ∀ a : Nat, a < H.size → ¬ aw_fr X a → H1[a]? = H[a]?) : aw_Ey X U H1 := by
  obtain ⟨h1, h2, h3, h4, h5⟩ := h
  exact ⟨h1.kept hq, h2.elim (fun q => Or.inl (q.kept hq)) (fun q => Or.inr (q.kept hq)), h3.kept hq, h4.kept hq, h5⟩
theorem aw_Ey.moved {X : aw_X} {u U : State} {H : Heap} (hvm : u.vm.Alike U.vm) (h : aw_Ey X u H) : aw_Ey X U H := by
  obtain ⟨h1, h2, h3, h4, h5⟩ := h
  exact ⟨va_T.moved hvm h1, h2.elim (fun q => Or.inl (va_Z.moved hvm q)) (fun q => Or.inr (va_Z.moved hvm q)), vx_Zq.moved hvm h3, vx_Zq.moved hvm h4, va_AO.moved hvm h5⟩
def aw_Ex (X : aw_X) (U : State) (H : Heap) : Prop :=
  True ∧ True ∧
  vk_R "AllWays$Tokens" 99 "proc call cell if   else whilemust let  ask  end  or   and  " (X.2.2.2.2 1002) U ∧ vk_R "AllWays$Tokens" 78 ";{}()[]+-*/=<>#" (X.2.2.2.2 1003) U ∧ vk_R "AllWays" 163 "no such way, or no such thing of it" (X.2.2.2.2 1004) U ∧
  vk_S 2 [60, 15] [(List.map (fun c => Int32.ofNat c.toNat) "proc call cell if   else whilemust let  ask  end  or   and  ".toList), (List.map (fun c => Int32.ofNat c.toNat) ";{}()[]+-*/=<>#".toList)] (fun i => X.2.2.2.2 (1002 + i)) (fun i => X.2.2.2.2 (1012 + i)) (aw_fr X) U H ∧
  va_Z "java/lang/String" "COMPACT_STRINGS" "Z" (.int 1) (aw_fr X) U H ∧ aw_Ey X U H
def aw_Kn (X : aw_X) (U : State) (H : Heap) : Prop := va_K X.2.1 aw_cl (aw_tys X) U ∧ (∀ w ∈ aw_N, va_Nw w U) ∧ aw_Ex X U H
theorem aw_Ex.kept {X : aw_X} {U : State} {H H1 : Heap} (h : aw_Ex X U H) (hq : ∀ a : Nat, a < H.size → ¬ aw_fr X a → H1[a]? = H[a]?) : aw_Ex X U H1 := by
  obtain ⟨h1, h2, h3, h4, h5, h6, h7, h8⟩ := h
  exact ⟨h1, h2, h3, h4, h5, h6.kept hq, h7.kept hq, h8.kept hq⟩
theorem aw_Ex.warm {X : aw_X} {s U : State} {H : Heap} (hW : s.WarmedH U.vm) (h : aw_Ex X s H) : aw_Ex X U H := by
  obtain ⟨h1, h2, h3, h4, h5, h6, h7, h8⟩ := h
  exact ⟨h1, h2, vk_R.warm hW h3, vk_R.warm hW h4, vk_R.warm hW h5, vk_S.moved hW.alike h6, va_Z.moved hW.alike h7, h8.moved hW.alike⟩
theorem aw_Ex.same {X : aw_X} {s U : State} {H : Heap} (hv : U.vm = s.vm) (h : aw_Ex X s H) : aw_Ex X U H := by
  obtain ⟨h1, h2, h3, h4, h5, h6, h7, h8⟩ := h
  have hA : s.vm.Alike U.vm := by rw [hv]; exact Vm.Alike.refl _
  exact ⟨h1, h2, vk_R.same hv h3, vk_R.same hv h4, vk_R.same hv h5, vk_S.moved hA h6, va_Z.moved hA h7, h8.moved hA⟩
theorem aw_N_onT {w : Cond} (h : w ∈ aw_N) : w.onTables = true := by
  have h1 := (List.mem_filter.mp h).2
  cases w <;> simp [aw_isN] at h1 <;> rfl
theorem aw_N_warm {s U : State} (hW : s.WarmedH U.vm) (h : ∀ w ∈ aw_N, va_Nw w s) : ∀ w ∈ aw_N, va_Nw w U := by
  intro w hw
  have h1 := (List.mem_filter.mp hw).2
  have h2 := h w hw
  cases w <;> simp [aw_isN] at h1
  all_goals first | exact va_Nw.warmF hW h2 | exact va_Nw.warmM hW h2 | exact va_Nw.warmD hW h2 | exact va_Nw.warmC hW h2
theorem aw_Kn.warm {X : aw_X} {s U : State} {H : Heap} (hW : s.WarmedH U.vm) (h : aw_Kn X s H) : aw_Kn X U H := ⟨va_K.moved hW.alike h.1, aw_N_warm hW h.2.1, h.2.2.warm hW⟩
theorem aw_Kn.same {X : aw_X} {s U : State} {H : Heap} (hv : U.vm = s.vm) (h : aw_Kn X s H) : aw_Kn X U H :=
  ⟨va_K.moved (by rw [hv]; exact Vm.Alike.refl _) h.1, fun w hw => va_Nw.same (aw_N_onT hw) hv.symm (h.2.1 w hw), h.2.2.same hv⟩
theorem aw_Kn.kept {X : aw_X} {U : State} {H H1 : Heap} (h : aw_Kn X U H) (hq : ∀ a : Nat, a < H.size → ¬ aw_fr X a → H1[a]? = H[a]?) : aw_Kn X U H1 := ⟨h.1, h.2.1, h.2.2.kept hq⟩
/-! rooms, contracts, the judgement -/
def aw_rm (d mc ms : Nat) : Room := { frames := d, cells := mc, slots := ms, locals := if 2048 ≤ d then 84000 + 40 * (d - 2048) else 40 * d }
def aw_Pc (X : aw_X) (av : List Value) (A : aw_H) : Array Value → State → Prop := fun v U => v = (av.map (aw_tv X)).toArray ∧ aw_Rep X A U.heap ∧ aw_Kn X U U.heap ∧ X.2.2.2.1 ≤ U.heap.size
def aw_Qc (X : aw_X) (Q : Option Value → aw_H → Prop) : Array Value → State → Outcome → State → Prop := fun _ st o t =>
  (∃ (r : Option Value) (A : aw_H), o = .returned (r.map (aw_tv X)) ∧ Q r A ∧ aw_Rep X A t.heap) ∧ va_F (aw_fr X) st t
def aw_C (X : aw_X) (d mc ms : Nat) (y : aw_Y) (av : List Value) (A : aw_H) (Q : Option Value → aw_H → Prop) : Prop :=
  Met X.1 y.1 (aw_ws y) (aw_rm d mc ms) (aw_Pc X av A) (aw_Qc X Q) mc ms (aw_fr X)
def aw_LR (X : aw_X) (n : Nat) (ls : aw_L) (r : Array Slot) : Prop := r.size = n ∧ lv_wf r ∧ ls.length ≤ n ∧ ∀ (i : Nat) (v : Value), ls[i]? = some (some v) → r[i]? = some (.val (aw_tv X v))
def aw_Fix (X : aw_X) (y : aw_Y) (p : Program) (s : State) (m : MethodId) (args : Array Value) (meth : Method) (c : Code) : Prop :=
  p.tables.exec = Jvm.exec ∧ c.code = y.2.1 ∧ c.maxLocals = y.2.2.1 ∧ meth.sig.returnType = y.2.2.2 ∧ (∀ w ∈ aw_T, w.before args s = true) ∧ s.vm.findClass y.1.cls = some m.cls ∧ meth.locks = false ∧ meth.name = y.1.name ∧ aw_Kn X s s.heap ∧ X.2.2.2.1 ≤ s.heap.size ∧ (y.1.cls = "AllWaysLaw" ∧ y.1.name = "law" → X.2.2.2.1 = s.heap.size)
def aw_Z (X : aw_X) (d mc ms : Nat) (y : aw_Y) (Q : Option Value → aw_H → Prop) (kc ks pc : Nat) (ls : aw_L) (st : List Value) (A : aw_H) : Prop :=
  ∀ (p : Program) (e : Env) (s : State) (m : MethodId) (args : Array Value) (below : List Frame) (meth : Method) (c : Code), aw_Fix X y p s m args meth c →
    ∀ (H : Heap) (locs : List Loc) (r : Array Slot), aw_Rep X A H → va_S (aw_fr X) s.heap H locs → aw_LR X y.2.2.1 ls r → kc ≤ mc → ks ≤ ms →
      W p X.1 e (aw_rm d mc ms) s m args below meth c H locs kc ks (MQ below (aw_Qc X Q) args s mc ms (aw_fr X)) (F0 m pc r (st.map (aw_tv X)))
theorem aw_tv_cat (X : aw_X) (v : Value) : (aw_tv X v).category = v.category := by cases v <;> rfl
theorem aw_LR.at {X : aw_X} {n : Nat} {ls : aw_L} {r : Array Slot} (h : aw_LR X n ls r) {i : Nat} {v : Value} (hi : ls[i]? = some (some v)) : r[i]? = some (.val (aw_tv X v)) := h.2.2.2 i v hi
/-- fewer known locals -/
def aw_wk : aw_L → aw_L → Prop
  | _, [] => True
  | [], b :: bs => b = none ∧ aw_wk [] bs
  | a :: as, b :: bs => (b = none ∨ b = a) ∧ aw_wk as bs
theorem aw_wk_at : ∀ {a b : aw_L}, aw_wk a b → ∀ (i : Nat) (v : Value), b[i]? = some (some v) → a[i]? = some (some v)
  | _, [], _, i, v, h => by simp at h
  | [], b :: bs, hw, i, v, h => by
    cases i with
    | zero => simp at h; rw [hw.1] at h; cases h
    | succ i => have := aw_wk_at hw.2 i v (by simpa using h); simp at this
  | a :: as, b :: bs, hw, i, v, h => by
    cases i with
    | zero =>
      simp at h ⊢
      rcases hw.1 with q | q
      · rw [q] at h; cases h
      · rw [← q]; exact h
    | succ i => simpa using aw_wk_at hw.2 i v (by simpa using h)
/-- the known locals as pairs -/
def aw_prs (X : aw_X) (ls : aw_L) : List (Nat × Value) := (List.range ls.length).filterMap (fun i => match ls[i]? with
  | some (some v) => some (i, aw_tv X v)
  | _ => none)
theorem aw_prs_mem {X : aw_X} {ls : aw_L} {q : Nat × Value} : q ∈ aw_prs X ls ↔ ∃ v, ls[q.1]? = some (some v) ∧ q.2 = aw_tv X v := by
  unfold aw_prs
  rw [List.mem_filterMap]
  constructor
  · rintro ⟨i, hi, h⟩
    split at h
    · next v hv =>
      cases h
      exact ⟨v, hv, rfl⟩
    · cases h
  · rintro ⟨v, h1, h2⟩
    refine ⟨q.1, ?_, ?_⟩
    · exact List.mem_range.mpr (List.getElem?_eq_some_iff.mp h1).1
    · rw [h1]
      show some (q.1, aw_tv X v) = some q
      rw [← h2]
theorem aw_LR.has {X : aw_X} {n : Nat} {ls : aw_L} {r : Array Slot} (h : aw_LR X n ls r) : lv_has r n (aw_prs X ls) := ⟨h.1, h.2.1, fun q hq => by
  obtain ⟨v, h1, h2⟩ := aw_prs_mem.mp hq
  rw [h2]; exact h.2.2.2 _ _ h1⟩
/-- a value of two slots whose second half is overwritten isn't known any more -/
def aw_clr (ls : aw_L) (i : Nat) : aw_L := match i with
  | 0 => ls
  | j + 1 => match ls[j]? with
    | some (some v) => if v.category = 2 then ls.set j none else ls
    | _ => ls
def aw_s1 (ls : aw_L) (i : Nat) (v : Value) : aw_L := (aw_clr ls i).set i (some v)
def aw_s2 (ls : aw_L) (i : Nat) (v : Value) : aw_L := ((aw_clr ls i).set i (some v)).set (i + 1) none
theorem aw_clr_len (ls : aw_L) (i : Nat) : (aw_clr ls i).length = ls.length := by
  unfold aw_clr; split
  · rfl
  · split
    · split <;> simp
    · rfl
theorem aw_clr_at {ls : aw_L} {i j : Nat} {v : Value} (h : (aw_clr ls i)[j]? = some (some v)) : ls[j]? = some (some v) ∧ (j + 1 = i → ¬ v.category = 2) := by
  unfold aw_clr at h
  split at h
  · exact ⟨h, fun q => by omega⟩
  · next k =>
    split at h
    · next w hw =>
      split at h
      · rw [List.getElem?_set] at h
        split at h
        · split at h <;> cases h
        · next hkj => exact ⟨h, fun q => by omega⟩
      · next hc =>
        refine ⟨h, fun q => ?_⟩
        have e : j = k := by omega
        subst e
        rw [h] at hw; cases hw; exact hc
    · next hx =>
      refine ⟨h, fun q => ?_⟩
      have e : j = k := by omega
      subst e
      exact absurd h (hx v)
theorem aw_LR.s1 {X : aw_X} {n : Nat} {ls : aw_L} {r : Array Slot} (h : aw_LR X n ls r) {i : Nat} {v : Value} (hi : i < ls.length) (hc : v.category = 1) :
    ∃ r', storeLocals r i (aw_tv X v) = some r' ∧ aw_LR X n (aw_s1 ls i v) r' := by
  obtain ⟨r', h1, h2, h3, h4⟩ := lv_store1 (v := aw_tv X v) h.has (show i < n by have := h.2.2.1; omega) (by rw [aw_tv_cat]; exact hc)
  refine ⟨r', h1, h2, h3, by simp [aw_s1, aw_clr_len]; exact h.2.2.1, fun j w hj => ?_⟩
  unfold aw_s1 at hj
  rw [List.getElem?_set] at hj
  split at hj
  · next e =>
    subst e
    split at hj
    · cases hj; exact h4 _ List.mem_cons_self
    · cases hj
  · next e =>
    obtain ⟨g1, g2⟩ := aw_clr_at hj
    refine h4 (j, aw_tv X w) (List.mem_cons_of_mem _ (List.mem_filter.mpr ⟨aw_prs_mem.mpr ⟨w, g1, rfl⟩, ?_⟩))
    have e1 : (j == i) = false := by simp; omega
    simp only [e1, aw_tv_cat]
    by_cases q : j + 1 = i
    · have := g2 q
      simp [this]
    · simp [q]
theorem aw_LR.s2 {X : aw_X} {n : Nat} {ls : aw_L} {r : Array Slot} (h : aw_LR X n ls r) {i : Nat} {v : Value} (hi : i + 1 < ls.length) (hc : v.category = 2) :
    ∃ r', storeLocals r i (aw_tv X v) = some r' ∧ aw_LR X n (aw_s2 ls i v) r' := by
  obtain ⟨r', h1, h2, h3, h4⟩ := lv_store2 (v := aw_tv X v) h.has (show i + 1 < n by have := h.2.2.1; omega) (by rw [aw_tv_cat]; exact hc)
  refine ⟨r', h1, h2, h3, by simp [aw_s2, aw_clr_len]; exact h.2.2.1, fun j w hj => ?_⟩
  unfold aw_s2 at hj
  rw [List.getElem?_set] at hj
  split at hj
  · split at hj <;> cases hj
  · next e0 =>
    rw [List.getElem?_set] at hj
    split at hj
    · next e =>
      subst e
      split at hj
      · cases hj; exact h4 _ List.mem_cons_self
      · cases hj
    · next e =>
      obtain ⟨g1, g2⟩ := aw_clr_at hj
      refine h4 (j, aw_tv X w) (List.mem_cons_of_mem _ (List.mem_filter.mpr ⟨aw_prs_mem.mpr ⟨w, g1, rfl⟩, ?_⟩))
      have e1 : (j == i) = false := by simp; omega
      have e2 : (j == i + 1) = false := by simp; omega
      simp only [e1, e2, aw_tv_cat]
      by_cases q : j + 1 = i
      · have := g2 q
        simp [this]
      · simp [q]
theorem aw_LR.weak {X : aw_X} {n : Nat} {ls ls' : aw_L} {r : Array Slot} (h : aw_LR X n ls r) (hn : ls'.length ≤ ls.length) (hw : aw_wk ls ls') : aw_LR X n ls' r :=
  ⟨h.1, h.2.1, Nat.le_trans hn h.2.2.1, fun i v hi => h.2.2.2 i v (aw_wk_at hw i v hi)⟩
/-- the locals at a method's entry -/
def aw_ent0 : List Value → aw_L
  | [] => []
  | v :: vs => if v.category = 2 then some v :: none :: aw_ent0 vs else some v :: aw_ent0 vs
def aw_en (av : List Value) (n : Nat) : aw_L := aw_ent0 av ++ List.replicate (n - (aw_ent0 av).length) none
theorem aw_ent0_at {X : aw_X} : ∀ (av : List Value) (k i : Nat) (v : Value), (aw_ent0 av)[i]? = some (some v) → (k + i, aw_tv X v) ∈ lv_args k (av.map (aw_tv X))
  | [], k, i, v, h => by simp [aw_ent0] at h
  | w :: vs, k, i, v, h => by
    unfold aw_ent0 at h
    simp only [List.map_cons, lv_args, aw_tv_cat]
    split at h
    · next hc =>
      match i, h with
      | 0, h => simp at h; subst h; exact List.mem_cons_self
      | 1, h => simp at h
      | i + 2, h =>
        have := aw_ent0_at (X := X) vs (k + 2) i v (by simpa using h)
        rw [if_pos hc]
        exact List.mem_cons_of_mem _ (by rw [show k + (i + 2) = k + 2 + i by omega]; exact this)
    · next hc =>
      match i, h with
      | 0, h => simp at h; subst h; exact List.mem_cons_self
      | i + 1, h =>
        have := aw_ent0_at (X := X) vs (k + 1) i v (by simpa using h)
        rw [if_neg hc]
        exact List.mem_cons_of_mem _ (by rw [show k + (i + 1) = k + 1 + i by omega]; exact this)
theorem aw_ent0_len {X : aw_X} : ∀ (av : List Value), (lg_sl (av.map (aw_tv X))).length = (aw_ent0 av).length
  | [] => rfl
  | v :: vs => by
    have := aw_ent0_len (X := X) vs
    simp only [lg_sl, List.map_cons, List.flatMap_cons, aw_tv_cat, aw_ent0] at this ⊢
    split <;> simp [List.length_append, this] <;> omega
theorem aw_LR.entry {X : aw_X} {av : List Value} {n : Nat} (h : (aw_ent0 av).length ≤ n) :
    aw_LR X n (aw_en av n) ((lg_sl (av.map (aw_tv X)) ++ List.replicate (n - (lg_sl (av.map (aw_tv X))).length) Slot.unset).toArray) := by
  have he := lv_entry (av.map (aw_tv X)) (n := n) (by rw [aw_ent0_len]; exact h)
  refine ⟨he.1, he.2.1, by simp [aw_en]; omega, fun i v hi => ?_⟩
  unfold aw_en at hi
  by_cases hl : i < (aw_ent0 av).length
  · rw [List.getElem?_append_left hl] at hi
    have := aw_ent0_at (X := X) av 0 i v hi
    exact he.2.2 (i, aw_tv X v) (by simpa using this)
  · rw [List.getElem?_append_right (by omega)] at hi
    rw [List.getElem?_replicate] at hi
    split at hi <;> cases hi
/-- a contract out of a walk from the entry -/
theorem aw_C.of {X : aw_X} {d mc ms : Nat} {y : aw_Y} {av : List Value} {A : aw_H} {Q : Option Value → aw_H → Prop} (hy : plainName y.1.cls = true) (hn : (aw_ent0 av).length ≤ y.2.2.1)
    (h : aw_Z X d mc ms y Q 0 0 0 (aw_en av y.2.2.1) [] A) (hnl : ¬ (y.1.cls = "AllWaysLaw" ∧ y.1.name = "law") := by decide +kernel) : aw_C X d mc ms y av A Q := by
  unfold aw_C
  refine Met.ofW (cc := y.2.1) (maxL := y.2.2.1) (ret := y.2.2.2) hy rfl ?_
  intro p e s m args below meth c s₁ B hml hv
  obtain ⟨rfl, hRep, hKn, hb⟩ := hv
  rw [lg_entry_eq]
  refine W.widen (Nat.le_refl _) (Nat.le_refl _) ?_
  have hts := atoms_spec (ws := aw_ws y) B.pre
  have := h p e s m _ below meth c ⟨B.exec, B.bytes, hml, B.returns, fun w hw => hts w (List.mem_cons_of_mem _ hw), findClass_of_methodNamed B.named, B.notSynchronized, (name_of_methodNamed B.named B.method).1, hKn, hb, fun q => absurd q hnl⟩
    s.heap [] _ hRep va_S.rf (aw_LR.entry hn) (Nat.zero_le _) (Nat.zero_le _)
  exact this
