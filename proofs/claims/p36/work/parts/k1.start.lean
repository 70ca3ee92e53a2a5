/-! PART k1: the law's entry: what the Statement gives of the start -/
theorem lw_noTrace {l : Launch} (h : l.flags = flags0) : l.stackTraces = false := by
  unfold Launch.stackTraces
  rw [h]
  decide +kernel
theorem lw_arr {ty : FieldType} {args : Array Value} {s : State} (h : (Cond.arrayClass ty).before args s = true) (hp : ty = .int ∨ ty = .long ∨ ty = .boolean) : ∃ cA : ClassId, ArrOfT s cA ty ∧ va_RA s cA ty := by
  obtain ⟨c, k, comp, h1, h2, h3⟩ := Cond.arrayClass_spec h
  exact ⟨c, fun n z => ⟨(fun k h => by cases h), k, h2, comp, h3⟩, by rcases hp with rfl | rfl | rfl <;> exact h1⟩
theorem lw_arrQ {args : Array Value} {s : State} (h : (Cond.arrayOver (.object "AllWays$Code")).before args s = true) : ∃ cA : ClassId, ArrOfT s cA (.object "AllWays$Code") ∧ va_RA s cA (.object "AllWays$Code") := by
  obtain ⟨comp, c, k, h1, h2, h3, h4, h5⟩ := Cond.arrayOver_spec h
  exact ⟨c, fun n z => ⟨(fun k h => by cases h), k, h3, comp, h4⟩, k, comp, h3, h4, h1, h5⟩
theorem lw_cls1 {ci : Nat} {C : String} {T : u_T} {N : Nat} {s : State} {args : Array Value} (K : aw_cls ci C T N) (hts : ∀ w ∈ aw_T, w.before args s = true) (hi : Cond.instantiable C N ∈ aw_T) : ∃ q : ClassId × (Nat → Nat), ∀ r : vw_C, aw_cl[ci]? = some r → u_Kn s r.1 r.2.1 r.2.2 q.1 q.2 := by
  obtain ⟨cC, iS, h⟩ := u_known hts K.2.2.1 (hts _ hi)
  exact ⟨(cC, iS), fun r hr => by rw [K.1] at hr; cases hr; exact h⟩
theorem lw_cls {s : State} {args : Array Value} (hts : ∀ w ∈ aw_T, w.before args s = true) : ∃ D : va_G, ∀ (c : Nat) (q : vw_C), aw_cl[c]? = some q → u_Kn s q.1 q.2.1 q.2.2 (D.1 c) (D.2 c) := by
  have h0 : ∀ c : Nat, ∃ q : ClassId × (Nat → Nat), ∀ r : vw_C, aw_cl[c]? = some r → u_Kn s r.1 r.2.1 r.2.2 q.1 q.2 := by
    intro c
    by_cases hc : c < 9
    · rcases (show c = 0 ∨ c = 1 ∨ c = 2 ∨ c = 3 ∨ c = 4 ∨ c = 5 ∨ c = 6 ∨ c = 7 ∨ c = 8 by omega) with e | e | e | e | e | e | e | e | e <;> subst e
      · exact lw_cls1 k_AW hts w_74
      · exact lw_cls1 k_Sz hts w_82
      · exact lw_cls1 k_Tp hts w_100
      · exact lw_cls1 k_Mc hts w_116
      · exact lw_cls1 k_Wk hts w_195
      · exact lw_cls1 k_Pf hts w_254
      · exact lw_cls1 k_Cd hts w_287
      · exact lw_cls1 k_Ps hts w_335
      · exact lw_cls1 k_Tk hts w_341
    · obtain ⟨q, -⟩ := lw_cls1 (s := s) k_AW hts w_74
      have hn : aw_cl[c]? = none := List.getElem?_eq_none (Nat.le_trans (show aw_cl.length ≤ 9 from Nat.le_refl _) (Nat.not_lt.mp hc))
      exact ⟨q, fun r hr => by rw [hn] at hr; cases hr⟩
  obtain ⟨f, hf⟩ := Classical.axiomOfChoice h0
  exact ⟨(fun c => (f c).1, fun c => (f c).2), fun c q h => hf c q h⟩
theorem lw_i32 (x : Int32) : Int32.ofNat x.toUInt32.toNat = x := by
  apply Int32.toBitVec_inj.mp
  simp
theorem lw_drop {s s' : State} {J : List Loc} {k n : Nat} (h : s.sameButNew s' J k n) (hJ : ∀ x ∈ J, s.heap.size ≤ x.base) : s.sameButNew s' [] k n := by
  obtain ⟨h1, h2, h3, h4, h5, h6⟩ := h
  refine ⟨h1, h2, h3, h4, h5, fun a c hc => ?_⟩
  obtain ⟨c', g1, g2, g3, g4⟩ := h6 a c hc
  exact ⟨c', g1, g2, g3, fun i _ => g4 i (fun q => absurd (Array.getElem?_eq_some_iff.mp hc).1 (Nat.not_lt.mpr (hJ _ q)))⟩
/-- words that are no goodWord, by their places -/
theorem lw_q376 : Cond.arrayOver (.object "AllWays$Code") ∈ lw_tbl := aw_sub1 (List.mem_of_getElem? (i := 234) rfl)
theorem lw_q629 : Cond.stringRef "AllWays$Tokens" 99 "proc call cell if   else whilemust let  ask  end  or   and  " ∈ lw_tbl := aw_sub2 (List.mem_of_getElem? (i := 224) rfl)
theorem lw_q639 : Cond.laysStatic "java/lang/String" "COMPACT_STRINGS" "Z" ∈ lw_tbl := aw_sub2 (List.mem_of_getElem? (i := 234) rfl)
theorem lw_q655 : Cond.laysStatic "jdk/internal/util/Preconditions" "SIOOBE_FORMATTER" "Ljava/util/function/BiFunction;" ∈ lw_tbl := aw_sub3 (List.mem_of_getElem? (i := 10) rfl)
theorem lw_q682 : Cond.stringRef "AllWays$Tokens" 78 ";{}()[]+-*/=<>#" ∈ lw_tbl := aw_sub3 (List.mem_of_getElem? (i := 37) rfl)
theorem lw_q1410 : Cond.laysStatic "java/lang/Throwable" "UNASSIGNED_STACK" "[Ljava/lang/StackTraceElement;" ∈ lw_tbl := aw_sub5 (List.mem_of_getElem? (i := 20) rfl)
theorem lw_q1412 : Cond.laysStatic "java/lang/Throwable" "SUPPRESSED_SENTINEL" "Ljava/util/List;" ∈ lw_tbl := aw_sub5 (List.mem_of_getElem? (i := 22) rfl)
theorem lw_q1422 : Cond.stringRef "AllWays" 163 "no such way, or no such thing of it" ∈ lw_tbl := aw_sub5 (List.mem_of_getElem? (i := 32) rfl)
theorem lw_q149 : Cond.initialized "java/lang/Throwable" ∈ lw_tbl := aw_sub1 (List.mem_of_getElem? (i := 17) rfl)
def lw_fc : List Cond := flatC (Jvm.Cond.and given_1 narrow_1)
/-- where what lies outside lies -/
def lw_out (t3 s0 s1 s2 b t6 b0 b1 L : Nat) (xs : Nat → Int32) : Nat → Nat := fun a => if a = 1001 then t3 else if a = 1002 then s0 else if a = 1003 then s1 else if a = 1004 then s2 else if a = 1005 then b else if a = 1006 then t6 else if a = 1012 then b0 else if a = 1013 then b1 else if a = 1100 then L else (xs (a - 1101)).toUInt32.toNat
def lw_lit : List Nat := [99, 78]
def lw_byt : List (List Int32) := [(List.map (fun c => Int32.ofNat c.toNat) "proc call cell if   else whilemust let  ask  end  or   and  ".toList), (List.map (fun c => Int32.ofNat c.toNat) ";{}()[]+-*/=<>#".toList)]
theorem lw_me : ∀ i, i < 2 → ∀ j, j < [60, 15].getD i 0 → Cond.eq (.elem (.field (.string "AllWays$Tokens" (lw_lit.getD i 0)) "java/lang/String" "value" "[B") (.int (Int32.ofNat j))) (.int ((lw_byt.getD i []).getD j 0)) ∈ lw_fc := by decide +kernel
theorem lw_mx : ∀ i, i < 2 → Cond.exactly (.string "AllWays$Tokens" (lw_lit.getD i 0)) "java/lang/String" ∈ lw_fc ∧ Cond.eq (.field (.string "AllWays$Tokens" (lw_lit.getD i 0)) "java/lang/String" "coder" "B") (.int 0) ∈ lw_fc ∧ Cond.arrayOf (.field (.string "AllWays$Tokens" (lw_lit.getD i 0)) "java/lang/String" "value" "[B") .byte ∈ lw_fc ∧ Cond.eq (.length (.field (.string "AllWays$Tokens" (lw_lit.getD i 0)) "java/lang/String" "value" "[B")) (.int (Int32.ofNat ([60, 15].getD i 0))) ∈ lw_fc := by decide +kernel
/-- all that is known at the entry -/
theorem lw_Kn {s : State} {b L : Nat} {xs : Nat → Int32} (l : Launch) (hts : ∀ w ∈ lw_tbl, w.before #[Value.ref b] s = true) (hX : va_X b L xs s s.heap) (hbl : b < s.heap.size) (hgv : (Jvm.Cond.and given_1 narrow_1).before #[Value.ref b] s = true) :
    ∃ X : aw_X, X.1 = l ∧ X.2.2.2.1 = s.heap.size ∧ aw_ad X 1005 = b ∧ aw_xl X = L ∧ aw_Kn X s s.heap := by
  have hT : ∀ w ∈ aw_T, w.before #[Value.ref b] s = true := fun w hw => hts w (List.mem_filter.mp hw).1
  have hs : ∀ w ∈ lw_fc, w.before #[Value.ref b] s = true := flat_of_before _ hgv
  have hA : ∀ a : Nat, a < s.heap.size → ¬ (fun q : Nat => s.heap.size ≤ q) a := fun a h => Nat.not_le.mpr h
  obtain ⟨D, hD⟩ := lw_cls hT
  obtain ⟨cI, hI⟩ := lw_arr (hT _ w_ac_int) (Or.inl rfl)
  obtain ⟨cJ, hJ⟩ := lw_arr (hT _ w_ac_long) (Or.inr (Or.inl rfl))
  obtain ⟨cQ, hQ⟩ := lw_arrQ (hts _ lw_q376)
  obtain ⟨aK, aV, hS, hE⟩ := vk_Sof (N := 2) (tm := fun i => .string "AllWays$Tokens" (lw_lit.getD i 0)) (len := [60, 15]) (byt := lw_byt) (A := fun q : Nat => s.heap.size ≤ q) (by decide) (fun i hi => hs _ (lw_mx i hi).1) (fun i hi => hs _ (lw_mx i hi).2.1) (fun i hi => hs _ (lw_mx i hi).2.2.1) (fun i hi => hs _ (lw_mx i hi).2.2.2) (fun i hi j hj => hs _ (lw_me i hi j hj))
    (fun i j hi hj hn => by
      rcases (show i = 0 ∧ j = 1 ∨ i = 1 ∧ j = 0 by omega) with ⟨rfl, rfl⟩ | ⟨rfl, rfl⟩
      · exact Or.inl (hs _ (by decide +kernel))
      · exact Or.inr (hs _ (by decide +kernel))) hA
  obtain ⟨a4, -, -, -, e4, -⟩ := Cond.exactly_spec (args := #[Value.ref b]) (first := s) (o := none) (s := s) (idx := []) (t := .string "AllWays" 163) (cls := "java/lang/String") (hs (Cond.exactly (.string "AllWays" 163) "java/lang/String") (by decide +kernel))
  have Zc := va_Zof (hts _ lw_q639) (hT _ wj_62) (va_eqt (z := 1) (hs _ (by decide +kernel))) hA
  obtain ⟨t6, h6⟩ : ∃ t6 : Nat, va_Z "jdk/internal/util/Preconditions" "SIOOBE_FORMATTER" "Ljava/util/function/BiFunction;" .null (fun q : Nat => s.heap.size ≤ q) s s.heap ∨ va_Z "jdk/internal/util/Preconditions" "SIOOBE_FORMATTER" "Ljava/util/function/BiFunction;" (.ref t6) (fun q : Nat => s.heap.size ≤ q) s s.heap := by
    rcases va_Zqof (hts _ lw_q655) (hT _ wj_64) (hs _ (by decide +kernel)) hA with h | ⟨t, h⟩
    · exact ⟨0, Or.inl h⟩
    · exact ⟨t, Or.inr h⟩
  have U1 : vx_Zq Bundle.tN "UNASSIGNED_STACK" Bundle.steD (fun q : Nat => s.heap.size ≤ q) s s.heap := vx_Zqof (hts _ lw_q1410) (hts _ lw_q149) (hs _ (by decide +kernel)) hA
  have U2 : vx_Zq Bundle.tN "SUPPRESSED_SENTINEL" Bundle.listD (fun q : Nat => s.heap.size ≤ q) s s.heap := vx_Zqof (hts _ lw_q1412) (hts _ lw_q149) (hs _ (by decide +kernel)) hA
  obtain ⟨scr, x1, x2, x3, x4, x5⟩ := hX
  refine ⟨(l, D, (cI, cJ, cI, cQ), s.heap.size, lw_out 0 (aK 0) (aK 1) a4 b t6 (aV 0) (aV 1) L xs), rfl, rfl, rfl, rfl, ⟨hD, fun k q hk => ?_⟩, fun w hw => va_Nw.of (aw_N_onT hw) (hts w (List.mem_filter.mp hw).1), trivial, trivial, vk_R.of (hts _ lw_q629) (hE 0 (by decide)), vk_R.of (hts _ lw_q682) (hE 1 (by decide)), vk_R.of (hts _ lw_q1422) e4, ⟨fun i hi => ?_, fun i j hi hj e => ?_⟩, Zc, ⟨scr, x1, x2, x3, ?_, ?_, fun j hj => ?_, hA b hbl⟩, h6, U1, U2, va_AO.of (hts _ lw_q376)⟩
  · match k, hk with
    | 0, hk => cases hk; exact hI
    | 1, hk => cases hk; exact hJ
    | 2, hk => cases hk; exact hI
    | 3, hk => cases hk; exact hQ
    | k + 4, hk => simp [aw_tys] at hk
  · rcases (show i = 0 ∨ i = 1 by omega) with rfl | rfl
    · exact hS.1 0 (by decide)
    · exact hS.1 1 (by decide)
  · rcases (show i = 0 ∨ i = 1 by omega) with rfl | rfl <;> rcases (show j = 0 ∨ j = 1 by omega) with rfl | rfl
    · rfl
    · exact hS.2 0 1 (by decide) (by decide) e
    · exact hS.2 1 0 (by decide) (by decide) e
    · rfl
  · exact Nat.le_of_eq x4.symm
  · rw [x4]; rfl
  · have e : aw_xs (l, D, (cI, cJ, cI, cQ), s.heap.size, lw_out 0 (aK 0) (aK 1) a4 b t6 (aV 0) (aV 1) L xs) j = xs j := by
      unfold aw_xs lw_out
      dsimp only
      rw [if_neg (by omega), if_neg (by omega), if_neg (by omega), if_neg (by omega), if_neg (by omega), if_neg (by omega), if_neg (by omega), if_neg (by omega), if_neg (by omega), Nat.add_sub_cancel_left, lw_i32]
    show scr.slots[j]? = some (Value.int (aw_xs (l, D, (cI, cJ, cI, cQ), s.heap.size, lw_out 0 (aK 0) (aK 1) a4 b t6 (aV 0) (aV 1) L xs) j))
    rw [e]; exact x5 j hj
theorem lw_room : aw_rm 2048 600086 7301442 = room_1 := rfl
/-- the law, from its entry, for every script of at most 260 ints -/
theorem whole_start {p : Program} {e : Env} {s : State} {m : MethodId} {below : List Frame} {meth : Method} {c : Code} (l : Launch) (hflags : l.flags = flags0) {b L : Nat} {xs : Nat → Int32} (hL : L ≤ 260) (C0 : lw_At p s m meth c b L xs) : W p l e room_1 s m #[Value.ref b] below meth c s.heap [] 0 0 (lw_Z below #[Value.ref b] s) (entryFrame m ([Value.ref b] : List Value).toArray 20) := by
  obtain ⟨hnm, hx, hb, hr, hml, hown, hts, hX, hbl, hlocks, hgv⟩ := C0
  obtain ⟨X, rfl, hsz, had, hxl, hKn⟩ := lw_Kn l hts hX hbl hgv
  have hT : ∀ w ∈ aw_T, w.before #[Value.ref b] s = true := fun w hw => hts w (List.mem_filter.mp hw).1
  have F : aw_Fix X y_Law_law p s m #[Value.ref b] meth c := ⟨hx, hb, hml, hr, hT, hown, hlocks, hnm, hKn, by rw [hsz]; exact Nat.le_refl _, fun _ => hsz⟩
  have top := law_top (X := X) (lw_noTrace hflags) (by rw [hxl]; exact hL) (Q := fun r _ => r = some (.int 1)) (fun _ => rfl)
  have hRep : aw_Rep X (fun _ _ => 0, fun _ _ => 0, fun _ _ => none, 0, true) s.heap := ⟨fun k q h => by simp [aw_w] at h, Nat.zero_le _, fun _ => hsz.symm, fun q => Bool.noConfusion q⟩
  have hv : ([Value.ref b] : List Value) = ([.ref 1005] : List Value).map (aw_tv X) := by
    show [Value.ref b] = [Value.ref (aw_ad X 1005)]
    rw [had]
  have hF : W p X.1 e room_1 s m #[Value.ref b] below meth c s.heap [] 0 0 (MQ below (aw_Qc X (fun r _ => r = some (.int 1))) #[Value.ref b] s 600086 7301442 (aw_fr X)) (entryFrame m ([Value.ref b] : List Value).toArray 20) := by
    rw [lg_entry_eq, ← lw_room]
    have LR := aw_LR.entry (X := X) (av := [.ref 1005]) (n := 20) (Nat.le_of_ble_eq_true rfl)
    rw [← hv] at LR
    exact top p e s m _ below meth c F s.heap [] _ hRep va_S.rf LR (Nat.zero_le _) (Nat.zero_le _)
  intro T hT2 Xs
  obtain ⟨t, a1, o, b1, b2, ⟨⟨r, A', ho, hr1, -⟩, -⟩, Lc, hfe, hfr⟩ := hF T hT2 Xs
  refine ⟨t, a1, o, b1, b2, by rw [ho, hr1]; rfl, hfe.1, hfe.2.1, lw_drop hfe.2.2 (fun x hx => ?_)⟩
  have := hfr x hx
  rw [← hsz]; exact this
