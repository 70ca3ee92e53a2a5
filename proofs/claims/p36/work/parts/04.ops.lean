/-! PART 04 (by gen04.py): instructions as functions on (locals, stack, heap), and that the machine does them -/
def aw_V (y : aw_Y) (pc : Nat) (o : aw_St → Option aw_St) (pc' : Nat) : Prop := ∀ (X : aw_X) (d mc ms : Nat) (Q : Option Value → aw_H → Prop) (kc ks : Nat) (ls : aw_L) (st : List Value) (A : aw_H) (σ : aw_St),
  o (ls, st, A) = some σ → aw_Z X d mc ms y Q kc ks pc' σ.1 σ.2.1 σ.2.2 → aw_Z X d mc ms y Q kc ks pc ls st A
def aw_sg : List (aw_St → Option aw_St) → aw_St → Option aw_St
  | [], σ => some σ
  | o :: os, σ => match o σ with
    | some σ' => aw_sg os σ'
    | none => none
/-- a run of instructions without branches -/
def aw_VS (y : aw_Y) (pc : Nat) (os : List (aw_St → Option aw_St)) (pc' : Nat) : Prop := ∀ (X : aw_X) (d mc ms : Nat) (Q : Option Value → aw_H → Prop) (kc ks : Nat) (ls : aw_L) (st : List Value) (A : aw_H) (σ : aw_St),
  aw_sg os (ls, st, A) = some σ → aw_Z X d mc ms y Q kc ks pc' σ.1 σ.2.1 σ.2.2 → aw_Z X d mc ms y Q kc ks pc ls st A
theorem aw_VS.nil {y : aw_Y} {pc : Nat} : aw_VS y pc [] pc := by
  intro X d mc ms Q kc ks ls st A σ h k
  cases h; exact k
theorem aw_VS.cons {y : aw_Y} {pc pc' pc2 : Nat} {o : aw_St → Option aw_St} {os : List (aw_St → Option aw_St)} (v : aw_V y pc o pc') (vs : aw_VS y pc' os pc2) : aw_VS y pc (o :: os) pc2 := by
  intro X d mc ms Q kc ks ls st A σ h k
  unfold aw_sg at h
  split at h
  · next σ' h1 => exact v X d mc ms Q kc ks ls st A σ' h1 (vs X d mc ms Q kc ks σ'.1 σ'.2.1 σ'.2.2 σ h k)
  · cases h
/-- a run of instructions, in use -/
theorem aw_VS.go {y : aw_Y} {pc pc' : Nat} {os : List (aw_St → Option aw_St)} (v : aw_VS y pc os pc') {X : aw_X} {d mc ms : Nat} {Q : Option Value → aw_H → Prop} {kc ks : Nat} {ls : aw_L} {st : List Value} {A : aw_H} (ls' : aw_L) (st' : List Value) (A' : aw_H)
    (h : aw_sg os (ls, st, A) = some (ls', st', A')) (k : aw_Z X d mc ms y Q kc ks pc' ls' st' A') : aw_Z X d mc ms y Q kc ks pc ls st A := v X d mc ms Q kc ks ls st A (ls', st', A') h k
section OPS
variable {y : aw_Y} {pc : Nat}

def o_i2 (f : Int32 → Int32 → Int32) : aw_St → Option aw_St
  | (ls, .int b :: .int a :: st, A) => some (ls, .int (f a b) :: st, A)
  | _ => none
def o_l2 (f : Int64 → Int64 → Int64) : aw_St → Option aw_St
  | (ls, .long b :: .long a :: st, A) => some (ls, .long (f a b) :: st, A)
  | _ => none
def o_ls (f : Int64 → Int32 → Int64) : aw_St → Option aw_St
  | (ls, .int b :: .long a :: st, A) => some (ls, .long (f a b) :: st, A)
  | _ => none
def o_lc : aw_St → Option aw_St
  | (ls, .long b :: .long a :: st, A) => some (ls, .int (lg_cmp a b) :: st, A)
  | _ => none
def o_il (f : Int32 → Int64) : aw_St → Option aw_St
  | (ls, .int a :: st, A) => some (ls, .long (f a) :: st, A)
  | _ => none
def o_li (f : Int64 → Int32) : aw_St → Option aw_St
  | (ls, .long a :: st, A) => some (ls, .int (f a) :: st, A)
  | _ => none
def o_i1 (f : Int32 → Int32) : aw_St → Option aw_St
  | (ls, .int a :: st, A) => some (ls, .int (f a) :: st, A)
  | _ => none
def o_c (v : Value) : aw_St → Option aw_St
  | (ls, st, A) => some (ls, v :: st, A)
def o_ild (i : Nat) : aw_St → Option aw_St := fun σ => match σ.1[i]? with
  | some (some (.int x)) => some (σ.1, .int x :: σ.2.1, σ.2.2)
  | _ => none
def o_lld (i : Nat) : aw_St → Option aw_St := fun σ => match σ.1[i]? with
  | some (some (.long x)) => some (σ.1, .long x :: σ.2.1, σ.2.2)
  | _ => none
def o_ald (i : Nat) : aw_St → Option aw_St := fun σ => match σ.1[i]? with
  | some (some (.ref x)) => some (σ.1, .ref x :: σ.2.1, σ.2.2)
  | some (some .null) => some (σ.1, .null :: σ.2.1, σ.2.2)
  | _ => none
def o_ist (i : Nat) : aw_St → Option aw_St
  | (ls, .int a :: st, A) => if i < ls.length then some (aw_s1 ls i (.int a), st, A) else none
  | _ => none
def o_lst (i : Nat) : aw_St → Option aw_St
  | (ls, .long a :: st, A) => if i + 1 < ls.length then some (aw_s2 ls i (.long a), st, A) else none
  | _ => none
def o_ast (i : Nat) : aw_St → Option aw_St
  | (ls, .ref a :: st, A) => if i < ls.length then some (aw_s1 ls i (.ref a), st, A) else none
  | (ls, .null :: st, A) => if i < ls.length then some (aw_s1 ls i .null, st, A) else none
  | _ => none
def o_inc (i : Nat) (k : Int32) : aw_St → Option aw_St := fun σ => match σ.1[i]? with
  | some (some (.int x)) => if i < σ.1.length then some (aw_s1 σ.1 i (.int (x + k)), σ.2.1, σ.2.2) else none
  | _ => none
def o_dup : aw_St → Option aw_St
  | (ls, v :: st, A) => if v.category = 1 then some (ls, v :: v :: st, A) else none
  | _ => none
def o_pop : aw_St → Option aw_St
  | (ls, v :: st, A) => if v.category = 1 then some (ls, st, A) else none
  | _ => none
def o_dup2 : aw_St → Option aw_St
  | (ls, v :: w :: st, A) => if v.category = 1 ∧ w.category = 1 then some (ls, v :: w :: v :: w :: st, A) else none
  | _ => none
def o_getI (ci k : Nat) : aw_St → Option aw_St
  | (ls, .ref o :: st, A) => if (aw_sh o).1 = ci then if aw_ex A o then some (ls, .int (A.1 o k) :: st, A) else none else none
  | _ => none
def o_getJ (ci k : Nat) : aw_St → Option aw_St
  | (ls, .ref o :: st, A) => if (aw_sh o).1 = ci then if aw_ex A o then some (ls, .long (A.2.1 o k) :: st, A) else none else none
  | _ => none
def aw_rv : Option Nat → Value
  | none => .null
  | some a => .ref a
def o_getA (ci k : Nat) : aw_St → Option aw_St
  | (ls, .ref o :: st, A) => if (aw_sh o).1 = ci then if aw_ex A o then some (ls, aw_rv (A.2.2.1 o k) :: st, A) else none else none
  | _ => none
def o_putI (ci k : Nat) : aw_St → Option aw_St
  | (ls, .int v :: .ref o :: st, A) => if (aw_sh o).1 = ci then if aw_ex A o then some (ls, st, (aw_u A.1 o k v, A.2)) else none else none
  | _ => none
def o_putJ (ci k : Nat) : aw_St → Option aw_St
  | (ls, .long v :: .ref o :: st, A) => if (aw_sh o).1 = ci then if aw_ex A o then some (ls, st, (A.1, aw_u A.2.1 o k v, A.2.2)) else none else none
  | _ => none
def o_putA (ci k : Nat) : aw_St → Option aw_St
  | (ls, .ref v :: .ref o :: st, A) => if (aw_sh o).1 = ci then if aw_ex A o then some (ls, st, (A.1, A.2.1, aw_u A.2.2.1 o k (some v), A.2.2.2)) else none else none
  | _ => none
def o_alen : aw_St → Option aw_St
  | (ls, .ref o :: st, A) => if 20 ≤ (aw_sh o).1 then if aw_ex A o then some (ls, .int (Int32.ofNat (aw_sh o).2) :: st, A) else none else none
  | _ => none
theorem aw_i2 {n : Nat} {f : Int32 → Int32 → Int32} (hW : ∀ (p : Program) (l : Launch) (e : Env) (R : Room) (s : State) (m : MethodId) (args : Array Value) (below : List Frame) (meth : Method) (c : Code) (H : Heap) (locs : List Loc) (cells slots : Nat) (Q : State → Prop) (ls : Array Slot) (rest : List Value) (x z : Int32), p.tables.exec = Jvm.exec → c.code = y.2.1 → W p l e R s m args below meth c H locs cells slots Q (F0 m (pc + n) ls (.int (f x z) :: rest)) → W p l e R s m args below meth c H locs cells slots Q (F0 m pc ls (.int z :: .int x :: rest))) : aw_V y pc (o_i2 f) (pc + n) := by
  intro X d mc ms Q kc ks ls st A σ h k
  unfold o_i2 at h
  split at h
  · rename_i heq; cases heq; cases h
    intro p e s m args below meth c F H locs r hR hS hL h1 h2
    exact hW _ _ _ _ _ _ _ _ _ _ _ _ _ _ _ _ _ _ _ F.1 F.2.1 (k p e s m args below meth c F H locs r hR hS hL h1 h2)
  · cases h
theorem aw_l2 {n : Nat} {f : Int64 → Int64 → Int64} (hW : ∀ (p : Program) (l : Launch) (e : Env) (R : Room) (s : State) (m : MethodId) (args : Array Value) (below : List Frame) (meth : Method) (c : Code) (H : Heap) (locs : List Loc) (cells slots : Nat) (Q : State → Prop) (ls : Array Slot) (rest : List Value) (x z : Int64), p.tables.exec = Jvm.exec → c.code = y.2.1 → W p l e R s m args below meth c H locs cells slots Q (F0 m (pc + n) ls (.long (f x z) :: rest)) → W p l e R s m args below meth c H locs cells slots Q (F0 m pc ls (.long z :: .long x :: rest))) : aw_V y pc (o_l2 f) (pc + n) := by
  intro X d mc ms Q kc ks ls st A σ h k
  unfold o_l2 at h
  split at h
  · rename_i heq; cases heq; cases h
    intro p e s m args below meth c F H locs r hR hS hL h1 h2
    exact hW _ _ _ _ _ _ _ _ _ _ _ _ _ _ _ _ _ _ _ F.1 F.2.1 (k p e s m args below meth c F H locs r hR hS hL h1 h2)
  · cases h
theorem aw_ls {n : Nat} {f : Int64 → Int32 → Int64} (hW : ∀ (p : Program) (l : Launch) (e : Env) (R : Room) (s : State) (m : MethodId) (args : Array Value) (below : List Frame) (meth : Method) (c : Code) (H : Heap) (locs : List Loc) (cells slots : Nat) (Q : State → Prop) (ls : Array Slot) (rest : List Value) (x : Int64) (z : Int32), p.tables.exec = Jvm.exec → c.code = y.2.1 → W p l e R s m args below meth c H locs cells slots Q (F0 m (pc + n) ls (.long (f x z) :: rest)) → W p l e R s m args below meth c H locs cells slots Q (F0 m pc ls (.int z :: .long x :: rest))) : aw_V y pc (o_ls f) (pc + n) := by
  intro X d mc ms Q kc ks ls st A σ h k
  unfold o_ls at h
  split at h
  · rename_i heq; cases heq; cases h
    intro p e s m args below meth c F H locs r hR hS hL h1 h2
    exact hW _ _ _ _ _ _ _ _ _ _ _ _ _ _ _ _ _ _ _ F.1 F.2.1 (k p e s m args below meth c F H locs r hR hS hL h1 h2)
  · cases h
theorem aw_lc {n : Nat} (hW : ∀ (p : Program) (l : Launch) (e : Env) (R : Room) (s : State) (m : MethodId) (args : Array Value) (below : List Frame) (meth : Method) (c : Code) (H : Heap) (locs : List Loc) (cells slots : Nat) (Q : State → Prop) (ls : Array Slot) (rest : List Value) (x z : Int64), p.tables.exec = Jvm.exec → c.code = y.2.1 → W p l e R s m args below meth c H locs cells slots Q (F0 m (pc + n) ls (.int (lg_cmp x z) :: rest)) → W p l e R s m args below meth c H locs cells slots Q (F0 m pc ls (.long z :: .long x :: rest))) : aw_V y pc (o_lc) (pc + n) := by
  intro X d mc ms Q kc ks ls st A σ h k
  unfold o_lc at h
  split at h
  · rename_i heq; cases heq; cases h
    intro p e s m args below meth c F H locs r hR hS hL h1 h2
    exact hW _ _ _ _ _ _ _ _ _ _ _ _ _ _ _ _ _ _ _ F.1 F.2.1 (k p e s m args below meth c F H locs r hR hS hL h1 h2)
  · cases h
theorem aw_il {n : Nat} {f : Int32 → Int64} (hW : ∀ (p : Program) (l : Launch) (e : Env) (R : Room) (s : State) (m : MethodId) (args : Array Value) (below : List Frame) (meth : Method) (c : Code) (H : Heap) (locs : List Loc) (cells slots : Nat) (Q : State → Prop) (ls : Array Slot) (rest : List Value) (x : Int32), p.tables.exec = Jvm.exec → c.code = y.2.1 → W p l e R s m args below meth c H locs cells slots Q (F0 m (pc + n) ls (.long (f x) :: rest)) → W p l e R s m args below meth c H locs cells slots Q (F0 m pc ls (.int x :: rest))) : aw_V y pc (o_il f) (pc + n) := by
  intro X d mc ms Q kc ks ls st A σ h k
  unfold o_il at h
  split at h
  · rename_i heq; cases heq; cases h
    intro p e s m args below meth c F H locs r hR hS hL h1 h2
    exact hW _ _ _ _ _ _ _ _ _ _ _ _ _ _ _ _ _ _ F.1 F.2.1 (k p e s m args below meth c F H locs r hR hS hL h1 h2)
  · cases h
theorem aw_li {n : Nat} {f : Int64 → Int32} (hW : ∀ (p : Program) (l : Launch) (e : Env) (R : Room) (s : State) (m : MethodId) (args : Array Value) (below : List Frame) (meth : Method) (c : Code) (H : Heap) (locs : List Loc) (cells slots : Nat) (Q : State → Prop) (ls : Array Slot) (rest : List Value) (x : Int64), p.tables.exec = Jvm.exec → c.code = y.2.1 → W p l e R s m args below meth c H locs cells slots Q (F0 m (pc + n) ls (.int (f x) :: rest)) → W p l e R s m args below meth c H locs cells slots Q (F0 m pc ls (.long x :: rest))) : aw_V y pc (o_li f) (pc + n) := by
  intro X d mc ms Q kc ks ls st A σ h k
  unfold o_li at h
  split at h
  · rename_i heq; cases heq; cases h
    intro p e s m args below meth c F H locs r hR hS hL h1 h2
    exact hW _ _ _ _ _ _ _ _ _ _ _ _ _ _ _ _ _ _ F.1 F.2.1 (k p e s m args below meth c F H locs r hR hS hL h1 h2)
  · cases h
theorem aw_i1 {n : Nat} {f : Int32 → Int32} (hW : ∀ (p : Program) (l : Launch) (e : Env) (R : Room) (s : State) (m : MethodId) (args : Array Value) (below : List Frame) (meth : Method) (c : Code) (H : Heap) (locs : List Loc) (cells slots : Nat) (Q : State → Prop) (ls : Array Slot) (rest : List Value) (x : Int32), p.tables.exec = Jvm.exec → c.code = y.2.1 → W p l e R s m args below meth c H locs cells slots Q (F0 m (pc + n) ls (.int (f x) :: rest)) → W p l e R s m args below meth c H locs cells slots Q (F0 m pc ls (.int x :: rest))) : aw_V y pc (o_i1 f) (pc + n) := by
  intro X d mc ms Q kc ks ls st A σ h k
  unfold o_i1 at h
  split at h
  · rename_i heq; cases heq; cases h
    intro p e s m args below meth c F H locs r hR hS hL h1 h2
    exact hW _ _ _ _ _ _ _ _ _ _ _ _ _ _ _ _ _ _ F.1 F.2.1 (k p e s m args below meth c F H locs r hR hS hL h1 h2)
  · cases h
theorem v_iadd (hd : decode y.2.1 pc = .ok (.iadd, 1)) : aw_V y pc (o_i2 (fun x z => x + z)) (pc + 1) := aw_i2 fun _ _ _ _ _ _ _ _ _ _ _ _ _ _ _ _ _ _ _ hx hb k => lv_iadd hx hb hd k
theorem v_isub (hd : decode y.2.1 pc = .ok (.isub, 1)) : aw_V y pc (o_i2 (fun x z => x - z)) (pc + 1) := aw_i2 fun _ _ _ _ _ _ _ _ _ _ _ _ _ _ _ _ _ _ _ hx hb k => lv_isub hx hb hd k
theorem v_imul (hd : decode y.2.1 pc = .ok (.imul, 1)) : aw_V y pc (o_i2 (fun x z => x * z)) (pc + 1) := aw_i2 fun _ _ _ _ _ _ _ _ _ _ _ _ _ _ _ _ _ _ _ hx hb k => lv_imul hx hb hd k
theorem v_iand (hd : decode y.2.1 pc = .ok (.iand, 1)) : aw_V y pc (o_i2 (fun x z => x &&& z)) (pc + 1) := aw_i2 fun _ _ _ _ _ _ _ _ _ _ _ _ _ _ _ _ _ _ _ hx hb k => lv_iand hx hb hd k
theorem v_ior (hd : decode y.2.1 pc = .ok (.ior, 1)) : aw_V y pc (o_i2 (fun x z => x ||| z)) (pc + 1) := aw_i2 fun _ _ _ _ _ _ _ _ _ _ _ _ _ _ _ _ _ _ _ hx hb k => lv_ior hx hb hd k
theorem v_ixor (hd : decode y.2.1 pc = .ok (.ixor, 1)) : aw_V y pc (o_i2 (fun x z => x ^^^ z)) (pc + 1) := aw_i2 fun _ _ _ _ _ _ _ _ _ _ _ _ _ _ _ _ _ _ _ hx hb k => lv_ixor hx hb hd k
theorem v_ishl (hd : decode y.2.1 pc = .ok (.ishl, 1)) : aw_V y pc (o_i2 (fun x z => x <<< (z &&& 31))) (pc + 1) := aw_i2 fun _ _ _ _ _ _ _ _ _ _ _ _ _ _ _ _ _ _ _ hx hb k => lv_ishl hx hb hd k
theorem v_ishr (hd : decode y.2.1 pc = .ok (.ishr, 1)) : aw_V y pc (o_i2 (fun x z => x >>> (z &&& 31))) (pc + 1) := aw_i2 fun _ _ _ _ _ _ _ _ _ _ _ _ _ _ _ _ _ _ _ hx hb k => lv_ishr hx hb hd k
theorem v_iushr (hd : decode y.2.1 pc = .ok (.iushr, 1)) : aw_V y pc (o_i2 (fun x z => (x.toUInt32 >>> (z.toUInt32 &&& Int32.toUInt32 31)).toInt32)) (pc + 1) := aw_i2 fun _ _ _ _ _ _ _ _ _ _ _ _ _ _ _ _ _ _ _ hx hb k => lv_iushr hx hb hd rfl k
theorem v_ladd (hd : decode y.2.1 pc = .ok (.ladd, 1)) : aw_V y pc (o_l2 (fun x z => x + z)) (pc + 1) := aw_l2 fun _ _ _ _ _ _ _ _ _ _ _ _ _ _ _ _ _ _ _ hx hb k => lv_ladd hx hb hd k
theorem v_lsub (hd : decode y.2.1 pc = .ok (.lsub, 1)) : aw_V y pc (o_l2 (fun x z => x - z)) (pc + 1) := aw_l2 fun _ _ _ _ _ _ _ _ _ _ _ _ _ _ _ _ _ _ _ hx hb k => lv_lsub hx hb hd k
theorem v_lmul (hd : decode y.2.1 pc = .ok (.lmul, 1)) : aw_V y pc (o_l2 (fun x z => x * z)) (pc + 1) := aw_l2 fun _ _ _ _ _ _ _ _ _ _ _ _ _ _ _ _ _ _ _ hx hb k => lv_lmul hx hb hd k
theorem v_land (hd : decode y.2.1 pc = .ok (.land, 1)) : aw_V y pc (o_l2 (fun x z => x &&& z)) (pc + 1) := aw_l2 fun _ _ _ _ _ _ _ _ _ _ _ _ _ _ _ _ _ _ _ hx hb k => lv_land hx hb hd k
theorem v_lor (hd : decode y.2.1 pc = .ok (.lor, 1)) : aw_V y pc (o_l2 (fun x z => x ||| z)) (pc + 1) := aw_l2 fun _ _ _ _ _ _ _ _ _ _ _ _ _ _ _ _ _ _ _ hx hb k => lv_lor hx hb hd k
theorem v_lxor (hd : decode y.2.1 pc = .ok (.lxor, 1)) : aw_V y pc (o_l2 (fun x z => x ^^^ z)) (pc + 1) := aw_l2 fun _ _ _ _ _ _ _ _ _ _ _ _ _ _ _ _ _ _ _ hx hb k => lv_lxor hx hb hd k
theorem v_lshl (hd : decode y.2.1 pc = .ok (.lshl, 1)) : aw_V y pc (o_ls (fun x z => x <<< (z.toInt64 &&& 63))) (pc + 1) := aw_ls fun _ _ _ _ _ _ _ _ _ _ _ _ _ _ _ _ _ _ _ hx hb k => lv_lshl hx hb hd rfl k
theorem v_lshr (hd : decode y.2.1 pc = .ok (.lshr, 1)) : aw_V y pc (o_ls (fun x z => x >>> (z.toInt64 &&& 63))) (pc + 1) := aw_ls fun _ _ _ _ _ _ _ _ _ _ _ _ _ _ _ _ _ _ _ hx hb k => lv_lshr hx hb hd rfl k
theorem v_lushr (hd : decode y.2.1 pc = .ok (.lushr, 1)) : aw_V y pc (o_ls (fun x z => (x.toUInt64 >>> (z.toInt64.toUInt64 &&& Int64.toUInt64 63)).toInt64)) (pc + 1) := aw_ls fun _ _ _ _ _ _ _ _ _ _ _ _ _ _ _ _ _ _ _ hx hb k => lv_lushr hx hb hd rfl k
theorem v_lcmp (hd : decode y.2.1 pc = .ok (.lcmp, 1)) : aw_V y pc o_lc (pc + 1) := aw_lc fun _ _ _ _ _ _ _ _ _ _ _ _ _ _ _ _ _ _ _ hx hb k => W.lcmp hx hb hd k
theorem v_i2l (hd : decode y.2.1 pc = .ok (.i2l, 1)) : aw_V y pc (o_il (fun x => x.toInt64)) (pc + 1) := aw_il fun _ _ _ _ _ _ _ _ _ _ _ _ _ _ _ _ _ _ hx hb k => lv_i2l hx hb hd rfl k
theorem v_l2i (hd : decode y.2.1 pc = .ok (.l2i, 1)) : aw_V y pc (o_li (fun x => x.toInt32)) (pc + 1) := aw_li fun _ _ _ _ _ _ _ _ _ _ _ _ _ _ _ _ _ _ hx hb k => lv_l2i hx hb hd rfl k
theorem v_i2c (hd : decode y.2.1 pc = .ok (.i2c, 1)) : aw_V y pc (o_i1 (fun x => (x.toUInt32 % 65536).toInt32)) (pc + 1) := aw_i1 fun _ _ _ _ _ _ _ _ _ _ _ _ _ _ _ _ _ _ hx hb k => lv_i2c hx hb hd rfl k
theorem aw_c {v : Value} {n : Nat} (hv : ∀ X, aw_tv X v = v) (hW : ∀ (p : Program) (l : Launch) (e : Env) (R : Room) (s : State) (m : MethodId) (args : Array Value) (below : List Frame) (meth : Method) (c : Code) (H : Heap) (locs : List Loc) (cells slots : Nat) (Q : State → Prop) (ls : Array Slot) (rest : List Value), p.tables.exec = Jvm.exec → c.code = y.2.1 → s.vm.findClass y.1.cls = some m.cls → (∀ w ∈ aw_T, w.before args s = true) → W p l e R s m args below meth c H locs cells slots Q (F0 m (pc + n) ls (v :: rest)) → W p l e R s m args below meth c H locs cells slots Q (F0 m pc ls rest)) : aw_V y pc (o_c v) (pc + n) := by
  intro X d mc ms Q kc ks ls st A σ h k
  cases h
  intro p e s m args below meth c F H locs r hR hS hL h1 h2
  have k1 := k p e s m args below meth c F H locs r hR hS hL h1 h2
  rw [List.map_cons, hv X] at k1
  exact hW _ _ _ _ _ _ _ _ _ _ _ _ _ _ _ _ _ F.1 F.2.1 F.2.2.2.2.2.1 F.2.2.2.2.1 k1
theorem v_iconst {n : Int} {v : Int32} (hd : decode y.2.1 pc = .ok (.iconst n, 1)) (hv : Int32.ofInt n = v) : aw_V y pc (o_c (.int v)) (pc + 1) := aw_c (fun _ => rfl) fun _ _ _ _ _ _ _ _ _ _ _ _ _ _ _ _ _ hx hb _ _ k => lv_iconst hx hb hd hv k
theorem v_bipush {n : Int} {v : Int32} (hd : decode y.2.1 pc = .ok (.bipush n, 2)) (hv : (Int8.ofInt n).toInt32 = v) : aw_V y pc (o_c (.int v)) (pc + 2) := aw_c (fun _ => rfl) fun _ _ _ _ _ _ _ _ _ _ _ _ _ _ _ _ _ hx hb _ _ k => lv_bipush hx hb hd hv k
theorem v_sipush {n : Int} {v : Int32} (hd : decode y.2.1 pc = .ok (.sipush n, 3)) (hv : (Int16.ofInt n).toInt32 = v) : aw_V y pc (o_c (.int v)) (pc + 3) := aw_c (fun _ => rfl) fun _ _ _ _ _ _ _ _ _ _ _ _ _ _ _ _ _ hx hb _ _ k => lv_sipush hx hb hd hv k
theorem v_lconst {n : Fin 2} {v : Int64} (hd : decode y.2.1 pc = .ok (.lconst n, 1)) (hv : Int64.ofNat (n : Nat) = v) : aw_V y pc (o_c (.long v)) (pc + 1) := aw_c (fun _ => rfl) fun _ _ _ _ _ _ _ _ _ _ _ _ _ _ _ _ _ hx hb _ _ k => lv_lconst hx hb hd hv k
theorem v_null (hd : decode y.2.1 pc = .ok (.aconst_null, 1)) : aw_V y pc (o_c .null) (pc + 1) := aw_c (fun _ => rfl) fun _ _ _ _ _ _ _ _ _ _ _ _ _ _ _ _ _ hx hb _ _ k => lv_null hx hb hd k
theorem v_ldc {i : Nat} {v : Int32} (hd : decode y.2.1 pc = .ok (.ldc i, 2)) (hw : Cond.constant y.1.cls i v ∈ aw_T) : aw_V y pc (o_c (.int v)) (pc + 2) := aw_c (fun _ => rfl) fun _ _ _ _ _ _ _ _ _ _ _ _ _ _ _ _ _ hx hb ho ht k => lv_ldc hx hb ho (ht _ hw) hd k
theorem v_ldc_w {i : Nat} {v : Int32} (hd : decode y.2.1 pc = .ok (.ldc_w i, 3)) (hw : Cond.constant y.1.cls i v ∈ aw_T) : aw_V y pc (o_c (.int v)) (pc + 3) := aw_c (fun _ => rfl) fun _ _ _ _ _ _ _ _ _ _ _ _ _ _ _ _ _ hx hb ho ht k => lv_ldcw hx hb ho (ht _ hw) hd k
theorem v_ldc2 {i : Nat} {v : Int64} (hd : decode y.2.1 pc = .ok (.ldc2_w i, 3)) (hw : Cond.constantLong y.1.cls i v ∈ aw_T) : aw_V y pc (o_c (.long v)) (pc + 3) := aw_c (fun _ => rfl) fun _ _ _ _ _ _ _ _ _ _ _ _ _ _ _ _ _ hx hb ho ht k => lv_ldc2 hx hb ho (ht _ hw) hd k
theorem v_iload {i : Nat} (hd : decode y.2.1 pc = .ok (.iload i, 2)) : aw_V y pc (o_ild i) (pc + 2) := by
  intro X d mc ms Q kc ks ls st A σ h k
  unfold o_ild at h
  split at h
  · rename_i hl; cases h
    intro p e s m args below meth c F H locs r hR hS hL h1 h2
    exact lv_iload F.1 F.2.1 hd (hL.at hl) (k p e s m args below meth c F H locs r hR hS hL h1 h2)
  · cases h
theorem v_iload_n {j : Fin 4} {i : Nat} (hd : decode y.2.1 pc = .ok (.iload_n j, 1)) (hi : (j : Nat) = i) : aw_V y pc (o_ild i) (pc + 1) := by
  intro X d mc ms Q kc ks ls st A σ h k
  unfold o_ild at h
  split at h
  · rename_i hl; cases h
    intro p e s m args below meth c F H locs r hR hS hL h1 h2
    exact lv_iload_n F.1 F.2.1 hd hi (hL.at hl) (k p e s m args below meth c F H locs r hR hS hL h1 h2)
  · cases h
theorem v_lload {i : Nat} (hd : decode y.2.1 pc = .ok (.lload i, 2)) : aw_V y pc (o_lld i) (pc + 2) := by
  intro X d mc ms Q kc ks ls st A σ h k
  unfold o_lld at h
  split at h
  · rename_i hl; cases h
    intro p e s m args below meth c F H locs r hR hS hL h1 h2
    exact lv_lload F.1 F.2.1 hd (hL.at hl) (k p e s m args below meth c F H locs r hR hS hL h1 h2)
  · cases h
theorem v_lload_n {j : Fin 4} {i : Nat} (hd : decode y.2.1 pc = .ok (.lload_n j, 1)) (hi : (j : Nat) = i) : aw_V y pc (o_lld i) (pc + 1) := by
  intro X d mc ms Q kc ks ls st A σ h k
  unfold o_lld at h
  split at h
  · rename_i hl; cases h
    intro p e s m args below meth c F H locs r hR hS hL h1 h2
    exact lv_lload_n F.1 F.2.1 hd hi (hL.at hl) (k p e s m args below meth c F H locs r hR hS hL h1 h2)
  · cases h
theorem v_aload {i : Nat} (hd : decode y.2.1 pc = .ok (.aload i, 2)) : aw_V y pc (o_ald i) (pc + 2) := by
  intro X d mc ms Q kc ks ls st A σ h k
  unfold o_ald at h
  split at h
  · rename_i hl; cases h
    intro p e s m args below meth c F H locs r hR hS hL h1 h2
    exact lv_aload F.1 F.2.1 hd (hL.at hl) (k p e s m args below meth c F H locs r hR hS hL h1 h2)
  · rename_i hl; cases h
    intro p e s m args below meth c F H locs r hR hS hL h1 h2
    exact lv_aloadN F.1 F.2.1 hd (hL.at hl) (k p e s m args below meth c F H locs r hR hS hL h1 h2)
  · cases h
theorem v_aload_n {j : Fin 4} {i : Nat} (hd : decode y.2.1 pc = .ok (.aload_n j, 1)) (hi : (j : Nat) = i) : aw_V y pc (o_ald i) (pc + 1) := by
  intro X d mc ms Q kc ks ls st A σ h k
  unfold o_ald at h
  split at h
  · rename_i hl; cases h
    intro p e s m args below meth c F H locs r hR hS hL h1 h2
    exact lv_aload_n F.1 F.2.1 hd hi (hL.at hl) (k p e s m args below meth c F H locs r hR hS hL h1 h2)
  · rename_i hl; cases h
    intro p e s m args below meth c F H locs r hR hS hL h1 h2
    exact lv_aload_nN F.1 F.2.1 hd hi (hL.at hl) (k p e s m args below meth c F H locs r hR hS hL h1 h2)
  · cases h
theorem w_istore {p : Program} {l : Launch} {e : Env} {R : Room} {s : State} {m : MethodId} {args : Array Value} {below : List Frame} {meth : Method} {c : Code} {H : Heap} {locs : List Loc} {cells slots : Nat} {Q : State → Prop} {r r2 : Array Slot} {rest : List Value} {cc : ByteArray} {i : Nat} {x : Int32} (hexec : p.tables.exec = Jvm.exec) (hb : c.code = cc) (hdg : decode cc pc = .ok (.istore i, 2)) (e1 : storeLocals r i (.int x) = some r2) (kk : W p l e R s m args below meth c H locs cells slots Q (F0 m (pc + 2) r2 rest)) : W p l e R s m args below meth c H locs cells slots Q (F0 m pc r (.int x :: rest)) := by
  intro T hT X
  obtain ⟨t, a, b⟩ := kk T hT X
  refine ⟨t, ?_, b⟩
  jvm_step X.here [X.here.top, ↓top_set X.here.top, hexec, hb, hdg, e1]
  exact a
theorem v_istore {i : Nat} (hd : decode y.2.1 pc = .ok (.istore i, 2)) : aw_V y pc (o_ist i) (pc + 2) := by
  intro X d mc ms Q kc ks ls st A σ h k
  unfold o_ist at h
  split at h
  · rename_i heq; cases heq
    split at h
    · cases h
      intro p e s m args below meth c F H locs r hR hS hL h1 h2
      obtain ⟨r', e1, hL'⟩ := hL.s1 (v := Value.int _) (by assumption) rfl
      exact w_istore F.1 F.2.1 hd e1 (k p e s m args below meth c F H locs r' hR hS hL' h1 h2)
    · cases h
  · cases h
theorem w_istore_n {p : Program} {l : Launch} {e : Env} {R : Room} {s : State} {m : MethodId} {args : Array Value} {below : List Frame} {meth : Method} {c : Code} {H : Heap} {locs : List Loc} {cells slots : Nat} {Q : State → Prop} {r r2 : Array Slot} {rest : List Value} {cc : ByteArray} {j : Fin 4} {x : Int32} (hexec : p.tables.exec = Jvm.exec) (hb : c.code = cc) (hdg : decode cc pc = .ok (.istore_n j, 1)) (e1 : storeLocals r (j : Nat) (.int x) = some r2) (kk : W p l e R s m args below meth c H locs cells slots Q (F0 m (pc + 1) r2 rest)) : W p l e R s m args below meth c H locs cells slots Q (F0 m pc r (.int x :: rest)) := by
  intro T hT X
  obtain ⟨t, a, b⟩ := kk T hT X
  refine ⟨t, ?_, b⟩
  jvm_step X.here [X.here.top, ↓top_set X.here.top, hexec, hb, hdg, e1]
  exact a
theorem v_istore_n {j : Fin 4} (hd : decode y.2.1 pc = .ok (.istore_n j, 1)) : aw_V y pc (o_ist (j : Nat)) (pc + 1) := by
  intro X d mc ms Q kc ks ls st A σ h k
  unfold o_ist at h
  split at h
  · rename_i heq; cases heq
    split at h
    · cases h
      intro p e s m args below meth c F H locs r hR hS hL h1 h2
      obtain ⟨r', e1, hL'⟩ := hL.s1 (v := Value.int _) (by assumption) rfl
      exact w_istore_n F.1 F.2.1 hd e1 (k p e s m args below meth c F H locs r' hR hS hL' h1 h2)
    · cases h
  · cases h
theorem w_lstore {p : Program} {l : Launch} {e : Env} {R : Room} {s : State} {m : MethodId} {args : Array Value} {below : List Frame} {meth : Method} {c : Code} {H : Heap} {locs : List Loc} {cells slots : Nat} {Q : State → Prop} {r r2 : Array Slot} {rest : List Value} {cc : ByteArray} {i : Nat} {x : Int64} (hexec : p.tables.exec = Jvm.exec) (hb : c.code = cc) (hdg : decode cc pc = .ok (.lstore i, 2)) (e1 : storeLocals r i (.long x) = some r2) (kk : W p l e R s m args below meth c H locs cells slots Q (F0 m (pc + 2) r2 rest)) : W p l e R s m args below meth c H locs cells slots Q (F0 m pc r (.long x :: rest)) := by
  intro T hT X
  obtain ⟨t, a, b⟩ := kk T hT X
  refine ⟨t, ?_, b⟩
  jvm_step X.here [X.here.top, ↓top_set X.here.top, hexec, hb, hdg, e1]
  exact a
theorem v_lstore {i : Nat} (hd : decode y.2.1 pc = .ok (.lstore i, 2)) : aw_V y pc (o_lst i) (pc + 2) := by
  intro X d mc ms Q kc ks ls st A σ h k
  unfold o_lst at h
  split at h
  · rename_i heq; cases heq
    split at h
    · cases h
      intro p e s m args below meth c F H locs r hR hS hL h1 h2
      obtain ⟨r', e1, hL'⟩ := hL.s2 (v := Value.long _) (by assumption) rfl
      exact w_lstore F.1 F.2.1 hd e1 (k p e s m args below meth c F H locs r' hR hS hL' h1 h2)
    · cases h
  · cases h
theorem w_lstore_n {p : Program} {l : Launch} {e : Env} {R : Room} {s : State} {m : MethodId} {args : Array Value} {below : List Frame} {meth : Method} {c : Code} {H : Heap} {locs : List Loc} {cells slots : Nat} {Q : State → Prop} {r r2 : Array Slot} {rest : List Value} {cc : ByteArray} {j : Fin 4} {x : Int64} (hexec : p.tables.exec = Jvm.exec) (hb : c.code = cc) (hdg : decode cc pc = .ok (.lstore_n j, 1)) (e1 : storeLocals r (j : Nat) (.long x) = some r2) (kk : W p l e R s m args below meth c H locs cells slots Q (F0 m (pc + 1) r2 rest)) : W p l e R s m args below meth c H locs cells slots Q (F0 m pc r (.long x :: rest)) := by
  intro T hT X
  obtain ⟨t, a, b⟩ := kk T hT X
  refine ⟨t, ?_, b⟩
  jvm_step X.here [X.here.top, ↓top_set X.here.top, hexec, hb, hdg, e1]
  exact a
theorem v_lstore_n {j : Fin 4} (hd : decode y.2.1 pc = .ok (.lstore_n j, 1)) : aw_V y pc (o_lst (j : Nat)) (pc + 1) := by
  intro X d mc ms Q kc ks ls st A σ h k
  unfold o_lst at h
  split at h
  · rename_i heq; cases heq
    split at h
    · cases h
      intro p e s m args below meth c F H locs r hR hS hL h1 h2
      obtain ⟨r', e1, hL'⟩ := hL.s2 (v := Value.long _) (by assumption) rfl
      exact w_lstore_n F.1 F.2.1 hd e1 (k p e s m args below meth c F H locs r' hR hS hL' h1 h2)
    · cases h
  · cases h
theorem w_astore {p : Program} {l : Launch} {e : Env} {R : Room} {s : State} {m : MethodId} {args : Array Value} {below : List Frame} {meth : Method} {c : Code} {H : Heap} {locs : List Loc} {cells slots : Nat} {Q : State → Prop} {r r2 : Array Slot} {rest : List Value} {cc : ByteArray} {i : Nat} {x : Nat} (hexec : p.tables.exec = Jvm.exec) (hb : c.code = cc) (hdg : decode cc pc = .ok (.astore i, 2)) (e1 : storeLocals r i (.ref x) = some r2) (kk : W p l e R s m args below meth c H locs cells slots Q (F0 m (pc + 2) r2 rest)) : W p l e R s m args below meth c H locs cells slots Q (F0 m pc r (.ref x :: rest)) := by
  intro T hT X
  obtain ⟨t, a, b⟩ := kk T hT X
  refine ⟨t, ?_, b⟩
  jvm_step X.here [X.here.top, ↓top_set X.here.top, hexec, hb, hdg, e1, Value.isRef]
  exact a
theorem w_astoreN {p : Program} {l : Launch} {e : Env} {R : Room} {s : State} {m : MethodId} {args : Array Value} {below : List Frame} {meth : Method} {c : Code} {H : Heap} {locs : List Loc} {cells slots : Nat} {Q : State → Prop} {r r2 : Array Slot} {rest : List Value} {cc : ByteArray} {i : Nat}  (hexec : p.tables.exec = Jvm.exec) (hb : c.code = cc) (hdg : decode cc pc = .ok (.astore i, 2)) (e1 : storeLocals r i (.null) = some r2) (kk : W p l e R s m args below meth c H locs cells slots Q (F0 m (pc + 2) r2 rest)) : W p l e R s m args below meth c H locs cells slots Q (F0 m pc r (.null :: rest)) := by
  intro T hT X
  obtain ⟨t, a, b⟩ := kk T hT X
  refine ⟨t, ?_, b⟩
  jvm_step X.here [X.here.top, ↓top_set X.here.top, hexec, hb, hdg, e1, Value.isRef]
  exact a
theorem v_astore {i : Nat} (hd : decode y.2.1 pc = .ok (.astore i, 2)) : aw_V y pc (o_ast i) (pc + 2) := by
  intro X d mc ms Q kc ks ls st A σ h k
  unfold o_ast at h
  split at h
  · rename_i heq; cases heq
    split at h
    · cases h
      intro p e s m args below meth c F H locs r hR hS hL h1 h2
      obtain ⟨r', e1, hL'⟩ := hL.s1 (v := Value.ref _) (by assumption) rfl
      exact w_astore F.1 F.2.1 hd e1 (k p e s m args below meth c F H locs r' hR hS hL' h1 h2)
    · cases h
  · rename_i heq; cases heq
    split at h
    · cases h
      intro p e s m args below meth c F H locs r hR hS hL h1 h2
      obtain ⟨r', e1, hL'⟩ := hL.s1 (v := Value.null) (by assumption) rfl
      exact w_astoreN F.1 F.2.1 hd e1 (k p e s m args below meth c F H locs r' hR hS hL' h1 h2)
    · cases h
  · cases h
theorem w_astore_n {p : Program} {l : Launch} {e : Env} {R : Room} {s : State} {m : MethodId} {args : Array Value} {below : List Frame} {meth : Method} {c : Code} {H : Heap} {locs : List Loc} {cells slots : Nat} {Q : State → Prop} {r r2 : Array Slot} {rest : List Value} {cc : ByteArray} {j : Fin 4} {x : Nat} (hexec : p.tables.exec = Jvm.exec) (hb : c.code = cc) (hdg : decode cc pc = .ok (.astore_n j, 1)) (e1 : storeLocals r (j : Nat) (.ref x) = some r2) (kk : W p l e R s m args below meth c H locs cells slots Q (F0 m (pc + 1) r2 rest)) : W p l e R s m args below meth c H locs cells slots Q (F0 m pc r (.ref x :: rest)) := by
  intro T hT X
  obtain ⟨t, a, b⟩ := kk T hT X
  refine ⟨t, ?_, b⟩
  jvm_step X.here [X.here.top, ↓top_set X.here.top, hexec, hb, hdg, e1, Value.isRef]
  exact a
theorem w_astore_nN {p : Program} {l : Launch} {e : Env} {R : Room} {s : State} {m : MethodId} {args : Array Value} {below : List Frame} {meth : Method} {c : Code} {H : Heap} {locs : List Loc} {cells slots : Nat} {Q : State → Prop} {r r2 : Array Slot} {rest : List Value} {cc : ByteArray} {j : Fin 4}  (hexec : p.tables.exec = Jvm.exec) (hb : c.code = cc) (hdg : decode cc pc = .ok (.astore_n j, 1)) (e1 : storeLocals r (j : Nat) (.null) = some r2) (kk : W p l e R s m args below meth c H locs cells slots Q (F0 m (pc + 1) r2 rest)) : W p l e R s m args below meth c H locs cells slots Q (F0 m pc r (.null :: rest)) := by
  intro T hT X
  obtain ⟨t, a, b⟩ := kk T hT X
  refine ⟨t, ?_, b⟩
  jvm_step X.here [X.here.top, ↓top_set X.here.top, hexec, hb, hdg, e1, Value.isRef]
  exact a
theorem v_astore_n {j : Fin 4} (hd : decode y.2.1 pc = .ok (.astore_n j, 1)) : aw_V y pc (o_ast (j : Nat)) (pc + 1) := by
  intro X d mc ms Q kc ks ls st A σ h k
  unfold o_ast at h
  split at h
  · rename_i heq; cases heq
    split at h
    · cases h
      intro p e s m args below meth c F H locs r hR hS hL h1 h2
      obtain ⟨r', e1, hL'⟩ := hL.s1 (v := Value.ref _) (by assumption) rfl
      exact w_astore_n F.1 F.2.1 hd e1 (k p e s m args below meth c F H locs r' hR hS hL' h1 h2)
    · cases h
  · rename_i heq; cases heq
    split at h
    · cases h
      intro p e s m args below meth c F H locs r hR hS hL h1 h2
      obtain ⟨r', e1, hL'⟩ := hL.s1 (v := Value.null) (by assumption) rfl
      exact w_astore_nN F.1 F.2.1 hd e1 (k p e s m args below meth c F H locs r' hR hS hL' h1 h2)
    · cases h
  · cases h
theorem v_iinc {i : Nat} {n : Int} {k0 : Int32} (hd : decode y.2.1 pc = .ok (.iinc i n, 3)) (hk : Int32.ofInt n = k0) : aw_V y pc (o_inc i k0) (pc + 3) := by
  subst hk
  intro X d mc ms Q kc ks ls st A σ h k
  unfold o_inc at h
  split at h
  · rename_i x hl
    split at h
    · cases h
      intro p e s m args below meth c F H locs r hR hS hL h1 h2
      obtain ⟨r', e1, hL'⟩ := hL.s1 (v := Value.int (x + Int32.ofInt n)) (by assumption) rfl
      intro T hT Xs
      obtain ⟨t, a1, b1⟩ := k p e s m args below meth c F H locs r' hR hS hL' h1 h2 T hT Xs
      refine ⟨t, ?_, b1⟩
      have hexec := F.1
      have hb := F.2.1
      have hg : r[i]? = some (.val (.int x)) := hL.at hl
      have e' : storeLocals r i (.int (x + Int32.ofInt n)) = some r' := e1
      jvm_step Xs.here [Xs.here.top, ↓top_set Xs.here.top, hexec, hb, hd, hg, e']
      exact a1
    · cases h
  · cases h
theorem v_dup (hd : decode y.2.1 pc = .ok (.dup, 1)) : aw_V y pc o_dup (pc + 1) := by
  intro X d mc ms Q kc ks ls st A σ h k
  unfold o_dup at h
  split at h
  · rename_i heq; cases heq
    split at h
    · rename_i hc; cases h
      intro p e s m args below meth c F H locs r hR hS hL h1 h2
      exact lv_dup F.1 F.2.1 hd (by rw [aw_tv_cat]; exact hc) (k p e s m args below meth c F H locs r hR hS hL h1 h2)
    · cases h
  · cases h
theorem v_pop (hd : decode y.2.1 pc = .ok (.pop, 1)) : aw_V y pc o_pop (pc + 1) := by
  intro X d mc ms Q kc ks ls st A σ h k
  unfold o_pop at h
  split at h
  · rename_i heq; cases heq
    split at h
    · rename_i hc; cases h
      intro p e s m args below meth c F H locs r hR hS hL h1 h2
      exact lv_pop F.1 F.2.1 hd (by rw [aw_tv_cat]; exact hc) (k p e s m args below meth c F H locs r hR hS hL h1 h2)
    · cases h
  · cases h
theorem v_dup2 (hd : decode y.2.1 pc = .ok (.dup2, 1)) : aw_V y pc o_dup2 (pc + 1) := by
  intro X d mc ms Q kc ks ls st A σ h k
  unfold o_dup2 at h
  split at h
  · rename_i heq; cases heq
    split at h
    · rename_i hc; cases h
      intro p e s m args below meth c F H locs r hR hS hL h1 h2
      exact lv_dup2_11 F.1 F.2.1 hd (by rw [aw_tv_cat]; exact hc.1) (by rw [aw_tv_cat]; exact hc.2) (k p e s m args below meth c F H locs r hR hS hL h1 h2)
    · cases h
  · cases h
end OPS
