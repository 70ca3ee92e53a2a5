/-! PART c0: what is made: the next object is the next cell -/
/-- what isn't made yet is empty -/
def aw_F (I : Nat → Nat → Int32) (L : Nat → Nat → Int64) (R : Nat → Nat → Option Nat) (n : Nat) : Prop := ∀ o, n ≤ o → (∀ k, I o k = 0) ∧ (∀ k, L o k = 0) ∧ ∀ k, R o k = none
theorem aw_F.n {I : Nat → Nat → Int32} {L : Nat → Nat → Int64} {R : Nat → Nat → Option Nat} {n m : Nat} (h : aw_F I L R n) (hm : n ≤ m) : aw_F I L R m := fun o ho => h o (Nat.le_trans hm ho)
theorem aw_F.i {I : Nat → Nat → Int32} {L : Nat → Nat → Int64} {R : Nat → Nat → Option Nat} {n o k : Nat} {v : Int32} (h : aw_F I L R n) (ho : o < n) : aw_F (aw_u I o k v) L R n := fun q hq => ⟨fun j => by rw [aw_u_ne _ _ _ (show q ≠ o by omega)]; exact (h q hq).1 j, (h q hq).2⟩
theorem aw_F.r {I : Nat → Nat → Int32} {L : Nat → Nat → Int64} {R : Nat → Nat → Option Nat} {n o k : Nat} {v : Option Nat} (h : aw_F I L R n) (ho : o < n) : aw_F I L (aw_u R o k v) n := fun q hq => ⟨(h q hq).1, (h q hq).2.1, fun j => by rw [aw_u_ne _ _ _ (show q ≠ o by omega)]; exact (h q hq).2.2 j⟩
def aw_gt : FieldType → Bool
  | .int => true
  | .boolean => true
  | .long => true
  | .object _ => true
  | .array _ => true
  | _ => false
theorem aw_dv {ty : FieldType} (h : aw_gt ty = true) {X : aw_X} {A : aw_H} {o k : Nat} (hi : A.1 o k = 0) (hl : A.2.1 o k = 0) (hr : A.2.2.1 o k = none) : defaultValue ty = aw_fv X A o k ty := by
  cases ty <;> first | exact absurd h (by decide) | (show _ = Value.int (A.1 o k); rw [hi]; rfl) | (show _ = Value.long (A.2.1 o k); rw [hl]; rfl) | (show _ = va_rf ((A.2.2.1 o k).map (aw_ad X)); rw [hr]; rfl)
section MAKE
variable {y : aw_Y} {pc : Nat} {X : aw_X} {d mc ms : Nat} {Q : Option Value → aw_H → Prop} {kc ks : Nat} {ls : aw_L} {st : List Value} {I : Nat → Nat → Int32} {L : Nat → Nat → Int64} {R : Nat → Nat → Option Nat} {n : Nat}
theorem aw_rm_c {d mc ms : Nat} : (aw_rm d mc ms).cells = mc := rfl
theorem z_new {ci idx N : Nat} {C : String} {T : u_T} (K : aw_cls ci C T N) (hg : ∀ j, j < N → aw_gt (aw_ty ci j) = true) (hcl : Cond.classLink y.1.cls idx C ∈ aw_T) (hins : Cond.instantiable C N ∈ aw_T) (hini : Cond.initialized C ∈ aw_T) (hd : decode y.2.1 pc = .ok (.new idx, 3)) (hsh : (aw_sh n).1 = ci) (hn : n < aw_K) (f : aw_F I L R n) (hm1 : kc + 1 ≤ mc) (hm2 : ks + N ≤ ms)
    (kk : aw_F I L R (n + 1) → aw_Z X d mc ms y Q (kc + 1) (ks + N) (pc + 3) ls (.ref n :: st) (I, L, R, n + 1, true)) : aw_Z X d mc ms y Q kc ks pc ls st (I, L, R, n, true) := by
  intro p e s m args below meth c F H locs r hR hS hL h1 h2
  obtain ⟨c1, c2, c3, c4, c5, c6⟩ := K
  have hK := F.2.2.2.2.2.2.2.2.1.1
  have hts := F.2.2.2.2.1
  have hsz : H.size = X.2.2.2.1 + n := hR.2.2.1 rfl
  have hKn := hK.1 ci _ c1
  refine W.newcK F.1 F.2.1 F.2.2.2.2.2.1 (hts _ hcl) (hts _ hins) (hts _ hini) rfl hd hm1 hm2 hKn.2.1 hsz fun H1 kC hkC e1 z1 o1 => ?_
  have hk : ∀ (k : Nat) (x : Nat × va_E), (aw_w X (I, L, R, n, true))[k]? = some x → H1[x.1]? = H[x.1]? := fun k x hx => o1 x.1 (by rw [← hsz]; exact (hR.1 k x hx).lt)
  have hw : aw_w X (I, L, R, n, true) ++ [(X.2.2.2.1 + n, .inr (ci, aw_fs X (I, L, R, n + 1, true) n ci))] = aw_w X (I, L, R, n + 1, true) := aw_w_push (A := (I, L, R, n, true)) (A' := (I, L, R, n + 1, true)) rfl (aw_ent_o hsh c6) (fun j _ => ⟨rfl, rfl, rfl⟩)
  have hP : va_P X.2.1 aw_cl (aw_w X (I, L, R, n + 1, true)) H1 := by
    rw [← hw]
    refine (hR.1.kept hk).app (fun k x hx => ?_)
    have hz : k < 1 := (List.getElem?_eq_some_iff.mp hx).1
    rw [show k = 0 by omega] at hx
    cases hx
    refine ⟨_, c1, (u_born (aw_ty ci) hts c3 hKn hkC e1 c4).to (fun j hj => ?_)⟩
    have hj : j < N := hj
    have hf : (aw_fs X (I, L, R, n + 1, true) n ci)[j]? = some (aw_fv X (I, L, R, n + 1, true) n j (aw_ty ci j)) := aw_fs_at (by omega)
    show defaultValue (aw_ty ci j) = (aw_fs X (I, L, R, n + 1, true) n ci).getD j .null
    rw [List.getD_eq_getElem?_getD, hf]
    obtain ⟨f1, f2, f3⟩ := f n (Nat.le_refl _)
    exact aw_dv (hg j hj) (f1 j) (f2 j) (f3 j)
  have hr : Value.ref (X.2.2.2.1 + n) = aw_tv X (.ref n) := by show _ = Value.ref _; rw [aw_ad_in hn]
  have := kk (f.n (Nat.le_succ n)) p e s m args below meth c F H1 locs r ⟨hP, hn, (fun _ => by rw [z1]; show _ = X.2.2.2.1 + (n + 1); omega), fun q => Bool.noConfusion q⟩ ⟨Nat.le_trans hS.1 (by rw [z1, hsz]; omega), fun x g1 g2 => (o1 x (by rw [← hsz]; exact Nat.lt_of_lt_of_le g1 hS.1)).trans (hS.2.1 x g1 g2), hS.2.2⟩ hL hm1 hm2
  rw [List.map_cons, ← hr] at this
  exact this
/-- a new row, of ints, longs or booleans -/
theorem z_newa {at9 : ArrayType} {ty : FieldType} {t0 N : Nat} {cA0 : ClassId} {v : Int32} (hty : newarray.typeOf at9 = ty) (hca : Cond.arrayClass ty ∈ aw_T) (hd : decode y.2.1 pc = .ok (.newarray at9, 2)) (hn : n < aw_K) (hv : ¬ v < 0) (hN : v.toNatClampNeg = N) (hb : N * componentBytes ty ≤ 536870912)
    (ht : (aw_tys X)[t0]? = some (cA0, ty)) (hra : ∀ (U : State) (cA : ClassId), va_RA U cA ty → U.vm.findClass ("[" ++ ty.toString) = some cA) (he : ∃ q : va_E, aw_ent X (I, L, R, n + 1, true) n = q ∧ ∃ a0 : vp_A, q = .inl (cA0, a0) ∧ vp_cell cA0 a0 = arrV cA0 N (fun _ => defaultValue ty)) (f : aw_F I L R n) (hm1 : kc + 1 ≤ mc) (hm2 : ks + N ≤ ms)
    (kk : aw_F I L R (n + 1) → aw_Z X d mc ms y Q (kc + 1) (ks + N) (pc + 2) ls (.ref n :: st) (I, L, R, n + 1, true)) : aw_Z X d mc ms y Q kc ks pc ls (.int v :: st) (I, L, R, n, true) := by
  intro p e s m args below meth c F H locs r hR hS hL h1 h2
  have hK := F.2.2.2.2.2.2.2.2.1.1
  have hts := F.2.2.2.2.1
  have hsz : H.size = X.2.2.2.1 + n := hR.2.2.1 rfl
  subst hty
  refine va_newaK F.1 F.2.1 (hts _ hca) rfl hd rfl hv hN hb hm1 hm2 hsz fun H1 cA e1 z1 o1 hAr hNm => ?_
  have ec : cA = cA0 := Option.some.inj (hNm.symm.trans (hra _ _ (hK.2 t0 _ ht).2))
  subst ec
  have hk : ∀ (k : Nat) (x : Nat × va_E), (aw_w X (I, L, R, n, true))[k]? = some x → H1[x.1]? = H[x.1]? := fun k x hx => o1 x.1 (by rw [← hsz]; exact (hR.1 k x hx).lt)
  obtain ⟨q, g1, a0, g2, g3⟩ := he
  subst g2
  have hw : aw_w X (I, L, R, n, true) ++ [(X.2.2.2.1 + n, .inl (cA, a0))] = aw_w X (I, L, R, n + 1, true) := aw_w_push (A := (I, L, R, n, true)) (A' := (I, L, R, n + 1, true)) rfl g1 (fun j _ => ⟨rfl, rfl, rfl⟩)
  have hP : va_P X.2.1 aw_cl (aw_w X (I, L, R, n + 1, true)) H1 := by
    rw [← hw]
    refine (hR.1.kept hk).app (fun k x hx => ?_)
    have hz : k < 1 := (List.getElem?_eq_some_iff.mp hx).1
    rw [show k = 0 by omega] at hx
    cases hx
    show H1[X.2.2.2.1 + n]? = some (vp_cell cA a0)
    rw [g3]; exact e1
  have hr : Value.ref (X.2.2.2.1 + n) = aw_tv X (.ref n) := by show _ = Value.ref _; rw [aw_ad_in hn]
  have := kk (f.n (Nat.le_succ n)) p e s m args below meth c F H1 locs r ⟨hP, hn, (fun _ => by rw [z1]; show _ = X.2.2.2.1 + (n + 1); omega), fun q => Bool.noConfusion q⟩ ⟨Nat.le_trans hS.1 (by rw [z1, hsz]; omega), fun x g1 g2 => (o1 x (by rw [← hsz]; exact Nat.lt_of_lt_of_le g1 hS.1)).trans (hS.2.1 x g1 g2), hS.2.2⟩ hL hm1 hm2
  rw [List.map_cons, ← hr] at this
  exact this
theorem z_newI {N : Nat} {v : Int32} (hca : Cond.arrayClass .int ∈ aw_T) (hd : decode y.2.1 pc = .ok (.newarray .int, 2)) (hsh : aw_sh n = (20, N)) (hn : n < aw_K) (hv : ¬ v < 0) (hN : v.toNatClampNeg = N) (hb : Nat.ble (N * 4) 536870912 = true) (f : aw_F I L R n) (hm1 : kc + 1 ≤ mc) (hm2 : ks + N ≤ ms)
    (kk : aw_F I L R (n + 1) → aw_Z X d mc ms y Q (kc + 1) (ks + N) (pc + 2) ls (.ref n :: st) (I, L, R, n + 1, true)) : aw_Z X d mc ms y Q kc ks pc ls (.int v :: st) (I, L, R, n, true) :=
  z_newa (t0 := 0) (cA0 := X.2.2.1.1) (ty := .int) rfl hca hd hn hv hN (Nat.le_of_ble_eq_true hb) rfl (fun _ _ h => h) ⟨_, aw_ent_i hsh, _, rfl, by rw [vp_cell_i]; congr 1; funext j; exact congrArg Value.int ((f n (Nat.le_refl _)).1 j)⟩ f hm1 hm2 kk
theorem z_newJ {N : Nat} {v : Int32} (hca : Cond.arrayClass .long ∈ aw_T) (hd : decode y.2.1 pc = .ok (.newarray .long, 2)) (hsh : aw_sh n = (21, N)) (hn : n < aw_K) (hv : ¬ v < 0) (hN : v.toNatClampNeg = N) (hb : Nat.ble (N * 8) 536870912 = true) (f : aw_F I L R n) (hm1 : kc + 1 ≤ mc) (hm2 : ks + N ≤ ms)
    (kk : aw_F I L R (n + 1) → aw_Z X d mc ms y Q (kc + 1) (ks + N) (pc + 2) ls (.ref n :: st) (I, L, R, n + 1, true)) : aw_Z X d mc ms y Q kc ks pc ls (.int v :: st) (I, L, R, n, true) :=
  z_newa (t0 := 1) (cA0 := X.2.2.1.2.1) (ty := .long) rfl hca hd hn hv hN (Nat.le_of_ble_eq_true hb) rfl (fun _ _ h => h) ⟨_, aw_ent_l hsh, _, rfl, by rw [vp_cell_l]; congr 1; funext j; exact congrArg Value.long ((f n (Nat.le_refl _)).2.1 j)⟩ f hm1 hm2 kk
theorem z_newQ {idx N : Nat} {v : Int32} (hcl : Cond.classLink y.1.cls idx "AllWays$Code" ∈ aw_T) (hd : decode y.2.1 pc = .ok (.anewarray idx, 3)) (hsh : aw_sh n = (23, N)) (hn : n < aw_K) (hv : ¬ v < 0) (hN : v.toNatClampNeg = N) (hb : Nat.ble (N * 4) 536870912 = true) (f : aw_F I L R n) (hm1 : kc + 1 ≤ mc) (hm2 : ks + N ≤ ms)
    (kk : aw_F I L R (n + 1) → aw_Z X d mc ms y Q (kc + 1) (ks + N) (pc + 3) ls (.ref n :: st) (I, L, R, n + 1, true)) : aw_Z X d mc ms y Q kc ks pc ls (.int v :: st) (I, L, R, n, true) := by
  intro p e s m args below meth c F H locs r hR hS hL h1 h2
  have hK := F.2.2.2.2.2.2.2.2.1.1
  have hts := F.2.2.2.2.1
  have hsz : H.size = X.2.2.2.1 + n := hR.2.2.1 rfl
  subst hN
  have hov : (Cond.arrayOver (.object "AllWays$Code")).before args s = true := by
    obtain ⟨-, -, -, -, -, -, -, -, -, -, -, eO⟩ := F.2.2.2.2.2.2.2.2.1.2.2
    exact eO.use
  refine W.anew F.1 F.2.1 F.2.2.2.2.2.1 (hts _ hcl) hov rfl hd rfl hv (Nat.le_of_ble_eq_true hb) hm1 hm2 fun cA kA comp g1 g2 g3 g4 => ?_
  have ec : cA = X.2.2.1.2.2.2 := by
    obtain ⟨k9, c9, -, -, -, h9⟩ := (hK.2 3 _ (show (aw_tys X)[3]? = some (X.2.2.1.2.2.2, .object "AllWays$Code") from rfl)).2
    exact Option.some.inj (g1.symm.trans h9)
  subst ec
  have z1 : (H.push { cls := X.2.2.1.2.2.2, slots := Array.replicate v.toNatClampNeg .null, vm := .none }).size = H.size + 1 := by simp
  have o1 : ∀ q, q < H.size → (H.push { cls := X.2.2.1.2.2.2, slots := Array.replicate v.toNatClampNeg .null, vm := .none })[q]? = H[q]? := fun q hq => by rw [Array.getElem?_push, if_neg (Nat.ne_of_lt hq)]
  have e1 : (H.push { cls := X.2.2.1.2.2.2, slots := Array.replicate v.toNatClampNeg .null, vm := .none })[H.size]? = some (arrV X.2.2.1.2.2.2 v.toNatClampNeg (fun _ => .null)) := by rw [← arrV_new]; simp
  generalize H.push { cls := X.2.2.1.2.2.2, slots := Array.replicate v.toNatClampNeg .null, vm := .none } = H1 at *
  have hk : ∀ (k : Nat) (x : Nat × va_E), (aw_w X (I, L, R, n, true))[k]? = some x → H1[x.1]? = H[x.1]? := fun k x hx => o1 x.1 (hR.1 k x hx).lt
  have hw : aw_w X (I, L, R, n, true) ++ [(X.2.2.2.1 + n, .inl (X.2.2.1.2.2.2, v.toNatClampNeg, .inr (.inr (.inr (.inr (fun k => (R n k).map (aw_ad X)))))))] = aw_w X (I, L, R, n + 1, true) := aw_w_push (A := (I, L, R, n, true)) (A' := (I, L, R, n + 1, true)) rfl (aw_ent_q hsh) (fun j _ => ⟨rfl, rfl, rfl⟩)
  have hP : va_P X.2.1 aw_cl (aw_w X (I, L, R, n + 1, true)) H1 := by
    rw [← hw]
    refine (hR.1.kept hk).app (fun k x hx => ?_)
    have hz : k < 1 := (List.getElem?_eq_some_iff.mp hx).1
    rw [show k = 0 by omega] at hx
    cases hx
    show H1[X.2.2.2.1 + n]? = some (arrV X.2.2.1.2.2.2 v.toNatClampNeg (fun j => va_rf ((R n j).map (aw_ad X))))
    rw [← hsz, e1]
    congr 2
    funext j
    rw [(f n (Nat.le_refl _)).2.2 j]; rfl
  have hr : Value.ref H.size = aw_tv X (.ref n) := by show _ = Value.ref _; rw [aw_ad_in hn, hsz]
  have := kk (f.n (Nat.le_succ n)) p e s m args below meth c F H1 locs r ⟨hP, hn, (fun _ => by rw [z1]; show _ = X.2.2.2.1 + (n + 1); omega), fun q => Bool.noConfusion q⟩ ⟨Nat.le_trans hS.1 (by rw [z1]; omega), fun x g1 g2 => (o1 x (Nat.lt_of_lt_of_le g1 hS.1)).trans (hS.2.1 x g1 g2), hS.2.2⟩ hL hm1 hm2
  rw [List.map_cons, ← hr] at this
  exact this
end MAKE
