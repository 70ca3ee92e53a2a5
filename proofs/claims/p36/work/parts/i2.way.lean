/-! PART i2 (head by gen_way.py): way(): what it throws -/
def y_Law_way : aw_Y := (⟨"AllWaysLaw", "way", "(LAllWays;II)I"⟩, method_6_code, 4, some .int)
theorem d_AW_way_0 : decode y_AW_way.2.1 0 = .ok (.aload_n 0, 1) := by decide +kernel
theorem d_AW_way_1 : decode y_AW_way.2.1 1 = .ok (.getfield 35, 3) := by decide +kernel
theorem d_AW_way_4 : decode y_AW_way.2.1 4 = .ok (.iload_n 1, 1) := by decide +kernel
theorem d_AW_way_5 : decode y_AW_way.2.1 5 = .ok (.invokevirtual 158, 3) := by decide +kernel
theorem s_AW_way_0 : aw_VS y_AW_way 0 [o_ald 0, o_getA 0 3, o_ild 1] 5 := .cons (v_aload_n (i := 0) d_AW_way_0 rfl) (.cons (v_getA (k := 3) k_AW (by decide) rfl (Or.inl w_398) d_AW_way_1) (.cons (v_iload_n (i := 1) d_AW_way_4 rfl) .nil))
theorem d_AW_way_8 : decode y_AW_way.2.1 8 = .ok (.ifCond .eq (12), 3) := by decide +kernel
theorem d_AW_way_11 : decode y_AW_way.2.1 11 = .ok (.iload_n 2, 1) := by decide +kernel
theorem d_AW_way_12 : decode y_AW_way.2.1 12 = .ok (.ifCond .lt (8), 3) := by decide +kernel
theorem s_AW_way_11 : aw_VS y_AW_way 11 [o_ild 2] 12 := .cons (v_iload_n (i := 2) d_AW_way_11 rfl) .nil
theorem d_AW_way_15 : decode y_AW_way.2.1 15 = .ok (.iload_n 2, 1) := by decide +kernel
theorem d_AW_way_16 : decode y_AW_way.2.1 16 = .ok (.iconst 5, 1) := by decide +kernel
theorem d_AW_way_17 : decode y_AW_way.2.1 17 = .ok (.if_icmp .le (13), 3) := by decide +kernel
theorem s_AW_way_15 : aw_VS y_AW_way 15 [o_ild 2, o_c (.int (5 : Int32))] 17 := .cons (v_iload_n (i := 2) d_AW_way_15 rfl) (.cons (v_iconst (v := (5 : Int32)) d_AW_way_16 (by decide +kernel)) .nil)
theorem d_AW_way_20 : decode y_AW_way.2.1 20 = .ok (.new 161, 3) := by decide +kernel
theorem d_AW_way_23 : decode y_AW_way.2.1 23 = .ok (.dup, 1) := by decide +kernel
theorem d_AW_way_24 : decode y_AW_way.2.1 24 = .ok (.ldc 163, 2) := by decide +kernel
theorem s_AW_way_23 : aw_VS y_AW_way 23 [o_dup] 24 := .cons (v_dup d_AW_way_23) .nil
theorem d_AW_way_26 : decode y_AW_way.2.1 26 = .ok (.invokespecial 165, 3) := by decide +kernel
theorem d_AW_way_29 : decode y_AW_way.2.1 29 = .ok (.athrow, 1) := by decide +kernel
theorem d_AW_way_30 : decode y_AW_way.2.1 30 = .ok (.aload_n 0, 1) := by decide +kernel
theorem d_AW_way_31 : decode y_AW_way.2.1 31 = .ok (.getfield 35, 3) := by decide +kernel
theorem d_AW_way_34 : decode y_AW_way.2.1 34 = .ok (.iload_n 1, 1) := by decide +kernel
theorem d_AW_way_35 : decode y_AW_way.2.1 35 = .ok (.iload_n 2, 1) := by decide +kernel
theorem d_AW_way_36 : decode y_AW_way.2.1 36 = .ok (.invokevirtual 168, 3) := by decide +kernel
theorem s_AW_way_30 : aw_VS y_AW_way 30 [o_ald 0, o_getA 0 3, o_ild 1, o_ild 2] 36 := .cons (v_aload_n (i := 0) d_AW_way_30 rfl) (.cons (v_getA (k := 3) k_AW (by decide) rfl (Or.inl w_398) d_AW_way_31) (.cons (v_iload_n (i := 1) d_AW_way_34 rfl) (.cons (v_iload_n (i := 2) d_AW_way_35 rfl) .nil)))
theorem d_AW_way_39 : decode y_AW_way.2.1 39 = .ok (.ireturn, 1) := by decide +kernel
theorem d_Law_way_0 : decode y_Law_way.2.1 0 = .ok (.aload_n 0, 1) := by decide +kernel
theorem d_Law_way_1 : decode y_Law_way.2.1 1 = .ok (.iload_n 1, 1) := by decide +kernel
theorem d_Law_way_2 : decode y_Law_way.2.1 2 = .ok (.iload_n 2, 1) := by decide +kernel
theorem d_Law_way_3 : decode y_Law_way.2.1 3 = .ok (.invokevirtual 23, 3) := by decide +kernel
theorem s_Law_way_0 : aw_VS y_Law_way 0 [o_ald 0, o_ild 1, o_ild 2] 3 := .cons (v_aload_n (i := 0) d_Law_way_0 rfl) (.cons (v_iload_n (i := 1) d_Law_way_1 rfl) (.cons (v_iload_n (i := 2) d_Law_way_2 rfl) .nil))
theorem d_Law_way_6 : decode y_Law_way.2.1 6 = .ok (.ireturn, 1) := by decide +kernel
theorem d_Law_way_7 : decode y_Law_way.2.1 7 = .ok (.astore_n 3, 1) := by decide +kernel
theorem d_Law_way_8 : decode y_Law_way.2.1 8 = .ok (.bipush (-77), 2) := by decide +kernel
theorem d_Law_way_10 : decode y_Law_way.2.1 10 = .ok (.ireturn, 1) := by decide +kernel
theorem s_Law_way_7 : aw_VS y_Law_way 7 [o_ast 3, o_c (.int (-77 : Int32))] 10 := .cons (v_astore_n d_Law_way_7) (.cons (v_bipush (v := (-77 : Int32)) d_Law_way_8 (by decide +kernel)) .nil)
theorem wy_cl : Cond.classLink "AllWays" 161 "java/util/NoSuchElementException" ∈ aw_T := aw_t4 233 rfl rfl
theorem wy_ini : Cond.initialized "java/util/NoSuchElementException" ∈ aw_T := aw_t1 20 rfl rfl
theorem wy_lcl : Cond.classLink "AllWaysLaw" 27 "java/util/NoSuchElementException" ∈ aw_T := aw_t4 227 rfl rfl
theorem wy_ml : Cond.methodLink "AllWaysLaw" 107 y_Law_way.1 ∈ aw_T := aw_t4 224 rfl rfl
theorem wy_st : Cond.static y_Law_way.1 ∈ aw_T := aw_t4 225 rfl rfl
theorem wy_cw : Cond.codeWith y_Law_way.1 method_6_code 4 (some .int) [(0, 6, 7, 27)] ∈ aw_T := aw_t4 226 rfl rfl
theorem wy_mlA : Cond.methodLink "AllWaysLaw" 23 y_AW_way.1 ∈ aw_T := aw_t4 228 rfl rfl
theorem wy_iniL : Cond.initialized "AllWaysLaw" ∈ aw_T := aw_t1 0 rfl rfl
theorem wy_ct : Cond.castable "java/util/NoSuchElementException" "java/util/NoSuchElementException" ∈ aw_N := aw_n4 235 rfl rfl
def wy_E : String := "java/util/NoSuchElementException"
def wy_L : List Cond := Bundle.throwableAtoms ++ Bundle.throwableSAtoms ++ Bundle.passSAtoms wy_E "java/lang/RuntimeException" 13 prog_26_method_4_code ++ Bundle.chainSAtoms "java/lang/RuntimeException" ["java/lang/Exception"] ++
  [.methodLink "AllWays" 165 (Bundle.initS wy_E), .instantiable wy_E 6, .castable wy_E wy_E, .selects wy_E Bundle.tFill0 Bundle.tFill0, .selects wy_E Bundle.tFill Bundle.tFill,
   .lays wy_E Bundle.tN "cause" "Ljava/lang/Throwable;", .lays wy_E Bundle.tN "stackTrace" Bundle.steD, .lays wy_E Bundle.tN "suppressedExceptions" Bundle.listD, .lays wy_E Bundle.tN "detailMessage" "Ljava/lang/String;",
   .isRef (.static Bundle.tN "UNASSIGNED_STACK" Bundle.steD), .isRef (.static Bundle.tN "SUPPRESSED_SENTINEL" Bundle.listD),
   .fieldLink Bundle.tN 198 Bundle.tN "backtrace" "Ljava/lang/Object;", .lays Bundle.tN Bundle.tN "backtrace" "Ljava/lang/Object;", .lays wy_E Bundle.tN "backtrace" "Ljava/lang/Object;"]
def wy_pl : List Nat := [69, 1027, 1036, 1038, 1041, 1043, 1028, 1029, 79, 80, 1030, 1035, 1039, 1059, 1017, 1060, 1019, 1061, 1021, 1031, 1033, 1023, 1055, 1056, 1058, 1023, 1046, 1047, 1048, 1049, 1009, 1049, 1050, 1051, 1052, 1011, 1052, 1053, 1054, 1055, 1013, 1045, 1006, 1007, 1014, 1015, 1016, 1018, 1020, 1022, 1026, 1025, 1024]
theorem wy_mem : wy_L.filter vx_no = wy_pl.filterMap (fun i => lw_tbl[i]?) := by decide +kernel
theorem wy_good : (wy_L.filter vx_no).all (fun w => goodWord w || aw_isN w) = true := by decide +kernel
theorem wy_vx : wy_L.all (fun w => vx_ot w || !vx_no w) = true := by decide +kernel
theorem wy_ok {X : aw_X} {y : aw_Y} {p : Program} {s : State} {m : MethodId} {args : Array Value} {meth : Method} {c : Code} (F : aw_Fix X y p s m args meth c) : ∀ w ∈ wy_L.filter vx_no, w.before args s = true := by
  intro w hw
  have hg := List.all_eq_true.mp wy_good w hw
  rw [wy_mem] at hw
  obtain ⟨i, -, hi⟩ := List.mem_filterMap.mp hw
  have hm : w ∈ lw_tbl := List.mem_of_getElem? hi
  simp only [Bool.or_eq_true] at hg
  rcases hg with g | g
  · exact F.2.2.2.2.1 _ (List.mem_filter.mpr ⟨hm, g⟩)
  · have hN : w ∈ aw_N := List.mem_filter.mpr ⟨hm, g⟩
    exact va_Nw.use (aw_N_onT hN) (F.2.2.2.2.2.2.2.2.1.2.1 w hN)
theorem wy_x0 : decode prog_26_method_4_code 0 = .ok (.aload_n 0, 1) := by decide +kernel
theorem wy_x1 : decode prog_26_method_4_code 1 = .ok (.aload_n 1, 1) := by decide +kernel
theorem wy_x2 : decode prog_26_method_4_code 2 = .ok (.invokespecial 13, 3) := by decide +kernel
theorem wy_x5 : decode prog_26_method_4_code 5 = .ok (.return_, 1) := by decide +kernel
section WYC
variable {p : Program} {l : Launch} {e : Env} {R : Room} {s : State} {m₀ : MethodId} {args : Array Value} {below : List Frame} {meth : Method} {c : Code} {W : State} {cells slots : Nat}
/-! the making and throwing of a NoSuchElementException with a text: after the library's ctorThrowS, but with another link in the first constructor -/
set_option maxHeartbeats 4000000 in
theorem wy_ctor (X : Stand p l e R s m₀ args below meth c W [] cells slots) (hexec : p.tables.exec = Jvm.exec) (htr : e.platform.stackTraces = false) (hown : s.vm.findClass "AllWays" = some m₀.cls) (h : ∀ a ∈ wy_L, a.before args s = true)
    {a : Addr} {cX : ClassId} {kX : Class} (hfoundX : s.vm.findClass wy_E = some cX) (hkX : s.vm.classes[cX]? = some kX) (hcell : W.heap[a]? = some (freshCell cX kX)) (hnew : s.heap.size ≤ a) {msg : Value} (hmsg : msg.isRef = true)
    {g : JFrame} (hg : g.method = m₀) (hsize : g.locals.size = c.maxLocals) (hlocked : g.locked = none) (hentered : g.entered = []) {rest : List Value} (hstack : g.stack = msg :: .ref a :: .ref a :: rest)
    (hd6 : decode c.code g.pc = .ok (.invokespecial 165, 3)) (hd9 : decode c.code (g.pc + 3) = .ok (.athrow, 1)) (hout : ∀ x ∈ c.exceptionTable.toList, covers x (g.pc + 3) = false)
    (hRframes : 5 < R.frames) (hRlocals : 2 * g.monitorRoom + ((Value.ref a :: rest).map fun v => v.category).sum + (13 * 3 + 42) ≤ R.locals) (hlocks : meth.locks = false) :
    ∃ (U : State) (ce : Cell), Steps p.tables e below (W.setTop g) U ∧ U.status = .running ∧ Ended U below (.threw a) ∧ s.WarmedH U.vm ∧ s.sameButNew ({ U with vm := s.vm } : State) [] cells slots ∧ U.heap[a]? = some ce ∧ s.vm.findClass wy_E = some ce.cls ∧ ce.vm = .none := by
  have howns : e.platform.frameOwnsMonitors = true := by rw [X.admits.platform]
  have hfin : e.platform.finalization = false := by rw [X.admits.platform]
  have hpl : e.platform.magicAccessors = ({} : Platform).magicAccessors := by rw [X.admits.platform]
  have a' : ∀ x, x ∈ wy_L → x.holds args s none s [] = true := fun x hx => h x hx
  obtain ⟨T, Z0, L, -, Y⟩ := ThrowableC.of_atoms (args := args) howns hfin hpl (fun x hx => h x (by simp [wy_L, hx]))
  obtain ⟨Z, M, LZ, LM, hnZ⟩ := Init0T.ofS_atoms (args := args) hpl L Y (fun x hx => h x (by simp [wy_L, hx]))
  obtain ⟨P1, L1, hP1m, hs1⟩ := PassC.ofS_atoms (args := args) (s := s) hpl (X := wy_E) (Y := "java/lang/RuntimeException") (by decide +kernel) ⟨by decide +kernel, by decide +kernel⟩ wy_x0 wy_x1 wy_x2 wy_x5 (fun x hx => h x (by simp [wy_L, hx]))
  obtain ⟨P2, Ps, hlen, L2, hL, hP2m, hlink2, hpass⟩ := Bundle.chainS (args := args) hpl hnZ ["java/lang/Exception"] "java/lang/RuntimeException" (by decide +kernel) (by decide +kernel) (fun x hx => h x (by simp [wy_L, hx]))
  have hlink1 : P1.sup = P2.m := Option.some.inj (hs1.symm.trans hP2m)
  have hfound : s.vm.findClass wy_E = some P1.m.cls := findClass_of_methodNamed hP1m
  cases Option.some.inj (hfoundX.symm.trans hfound)
  obtain ⟨c1, kX', hc1, hk, hord, -, -, hn6⟩ := Cond.instantiable_spec (a' (.instantiable wy_E 6) (by simp [wy_L]))
  cases Option.some.inj (hc1.symm.trans hfound)
  cases Option.some.inj (hkX.symm.trans hk)
  have hsel0 : selectMethod e.platform s.vm P1.m.cls T.fill0 = .method T.fill0 := by
    obtain ⟨c2, r2, m2, q1, q2, q3, q4, -⟩ := Cond.selects_spec (a' (.selects wy_E Bundle.tFill0 Bundle.tFill0) (by simp [wy_L]))
    cases Option.some.inj (q1.symm.trans hfound)
    cases Option.some.inj (q2.symm.trans (State.methodFound?_of_named Y.fill0 (by decide)))
    cases Option.some.inj (q3.symm.trans Y.fill0)
    rw [Launch.admits_selectMethod X.admits]; exact q4
  have hselF : selectMethod e.platform s.vm P1.m.cls T.fill = .method T.fill := by
    obtain ⟨c2, r2, m2, q1, q2, q3, q4, -⟩ := Cond.selects_spec (a' (.selects wy_E Bundle.tFill Bundle.tFill) (by simp [wy_L]))
    cases Option.some.inj (q1.symm.trans hfound)
    cases Option.some.inj (q2.symm.trans (State.methodFound?_of_named Y.fill (by decide)))
    cases Option.some.inj (q3.symm.trans Y.fill)
    rw [Launch.admits_selectMethod X.admits]; exact q4
  obtain ⟨cellS0, hcS0, hiss⟩ := Y.statics
  obtain ⟨u0, hu0⟩ := Cond.staticRefV Y.unassigned L.unassignedStatic L.statics hcS0 hiss (a' (.isRef (.static Bundle.tN "UNASSIGNED_STACK" Bundle.steD)) (by simp [wy_L]))
  obtain ⟨sen, hsen⟩ := Cond.staticRefV Y.sentinel L.sentinelStatic L.statics hcS0 hiss (a' (.isRef (.static Bundle.tN "SUPPRESSED_SENTINEL" Bundle.listD)) (by simp [wy_L]))
  obtain ⟨ci198, i198, fB, hk198, hg198, ha198, hsB, -, hnB, htB, hffB⟩ := Cond.ownField (t := .object "java/lang/Object") Y.found L.cls (by decide +kernel) (a' (.fieldLink Bundle.tN 198 Bundle.tN "backtrace" "Ljava/lang/Object;") (by simp [wy_L])) (a' (.lays Bundle.tN Bundle.tN "backtrace" "Ljava/lang/Object;") (by simp [wy_L])) e.platform hpl
  obtain ⟨cellS, hcS', heS, -, hkeep⟩ := X.same.2.2.2.2.2 T.aS cellS0 hcS0
  have hcellS : W.heap[T.aS]? = some cellS := hcS'
  have hknownS : cellS.vm ≠ .unknown := by
    rw [heS]; intro hu
    rw [show cellS0.vm = .unknown from hu] at hiss
    cases hiss
  have hneS : T.aS ≠ a := Nat.ne_of_lt (Nat.lt_of_lt_of_le (Array.getElem?_eq_some_iff.mp hcS0).1 hnew)
  obtain ⟨iM, hffM⟩ := Y.msg
  obtain ⟨tyC, dC, hdC, hdnC⟩ := Cond.laysAt hfound hk Y.cause (a' (.lays wy_E Bundle.tN "cause" "Ljava/lang/Throwable;") (by simp [wy_L]))
  obtain ⟨tyS, dS, hdS, hdnS⟩ := Cond.laysAt hfound hk Y.stack (a' (.lays wy_E Bundle.tN "stackTrace" Bundle.steD) (by simp [wy_L]))
  obtain ⟨tyP, dP, hdP, hdnP⟩ := Cond.laysAt hfound hk Y.supp (a' (.lays wy_E Bundle.tN "suppressedExceptions" Bundle.listD) (by simp [wy_L]))
  obtain ⟨tyM, dM, hdM, hdnM⟩ := Cond.laysAt hfound hk hffM (a' (.lays wy_E Bundle.tN "detailMessage" "Ljava/lang/String;") (by simp [wy_L]))
  obtain ⟨tyB, dB, hdB, hdnB⟩ := Cond.laysAt hfound hk hffB (a' (.lays wy_E Bundle.tN "backtrace" "Ljava/lang/Object;") (by simp [wy_L]))
  have bC := Cond.laysApart hdB hdC hdnB hdnC (by rw [hnB, Y.causeName]; decide)
  have bS := Cond.laysApart hdB hdS hdnB hdnS (by rw [hnB, Y.stackName]; decide)
  have bP := Cond.laysApart hdB hdP hdnB hdnP (by rw [hnB, Y.suppName]; decide)
  have hskip : SkipFacts T e.platform s (fun u => u) u0 ((preparedCellV T.toThrowableT (freshCell P1.m.cls kX) a u0 sen).withEntry W.cur) :=
    ⟨{ ci198 := ci198, i198 := i198, fBack := fB }, ⟨hk198, hg198, ha198, hsB⟩, by
      have := fresh_default (c := P1.m.cls) tyB
      rw [htB] at this
      simpa [preparedCellV, Cell.setSlot, Cell.withEntry, Array.getElem?_setIfInBounds, bC, bS, bP, bC.symm, bS.symm, bP.symm, defaultValue] using this, fun _ _ => rfl⟩
  obtain ⟨tm, methC, cdC, kC, vm₁, hnC, -, -, -, -, -, -, -, hW₁, st1⟩ := Steps.initColdS (tb := p.tables) (e := e) (below := below) (s := s) (U := W) X.here hexec X.warmed hpl hown (t := Bundle.initS wy_E) rfl rfl ⟨by decide +kernel, by decide +kernel⟩
    (a' (.methodLink "AllWays" 165 (Bundle.initS wy_E)) (by simp [wy_L])) (h (.instanceMethod (Bundle.initS wy_E)) (by simp [wy_L, Bundle.passSAtoms])) (bytes := prog_26_method_4_code) (maxL := 2) (h (.code (Bundle.initS wy_E) prog_26_method_4_code 2 none) (by simp [wy_L, Bundle.passSAtoms]))
    (f := g) hg (a := a) (msg := msg) (rest := .ref a :: rest) hstack hd6
  cases Option.some.inj (hnC.symm.trans hP1m)
  have X₁ := X.noted hW₁
  obtain ⟨vm₂, X₂, st2⟩ := X₁.ctorMessageOffV hexec (g := { g with stack := .ref a :: rest }) hg hsize T L Z LZ M LM (P1 :: P2 :: Ps)
    (fun P hP => by
      rcases List.mem_cons.mp hP with rfl | hP
      · exact L1
      · rcases List.mem_cons.mp hP with rfl | hP
        · exact L2
        · exact hL P hP) ⟨hlink1, hlink2, hpass⟩ (u0 := u0) (sen := sen) (self := a) hmsg (cell := freshCell P1.m.cls kX) (cellS := cellS)
    hcell (fun _ => by simp) (by simp) rfl rfl hsel0 hselF hcellS hneS hknownS (by rw [hkeep _ (by simp)]; exact hu0) (by rw [hkeep _ (by simp)]; exact hsen)
    (Takes.of_laid hk hord tyC (by rw [Y.causeType]; rfl)) (Takes.of_laid hk hord tyS (by rw [Y.stackType]; exact fits_refV_array _ u0)) (Takes.of_laid hk hord tyP (by rw [Y.suppType]; exact fits_refV_object _ sen))
    (Takes.of_laid hk hord tyM (by rw [Y.msgType]; exact fits_refV_object _ ⟨msg, hmsg⟩)) Y.objLocals hskip htr [] hd6
    (by simp only [List.length_cons, hlen, List.length_nil]; omega) (by simp only [List.length_cons, hlen, List.length_nil]; exact hRlocals)
  obtain ⟨hwalk, hrun, hended, hWU, hsame⟩ := X₂.athrowLeaves hexec (g := { g with stack := .ref a :: rest, pc := g.pc + 3 }) hg hlocked hentered hout (a := a) (rest := rest) rfl hd9
  have hlt : a < ((W.setVm vm₁).setVm vm₂).heap.size := (Array.getElem?_eq_some_iff.mp hcell).1
  have hU := heapAt_setCell_self (s := (W.setVm vm₁).setVm vm₂) (plainBareV T.toThrowableT (freshCell P1.m.cls kX) a u0 sen msg) hlt
  refine ⟨_, _, st1 _ (fun acts => ?_), hrun, hended, hWU, hsame.weaken (fun y hy hlt' => ?_) (Nat.le_refl _) (Nat.le_refl _), hU, hfound, rfl⟩
  · rw [doInvoke_state]
    exact st2 _ hwalk
  · rcases List.mem_append.mp hy with h1 | h1
    · exact h1
    · exfalso
      have hb : y.base = a := by
        simp only [List.mem_cons, List.not_mem_nil, or_false] at h1
        rcases h1 with rfl | rfl | rfl | rfl | rfl <;> rfl
      rw [hb] at hlt'
      exact Nat.not_lt.mpr hnew hlt'
end WYC
/-! what a method that throws so leaves -/
def wy_XC (X : aw_X) (A : aw_H) (PX : Prop) : String → State → State → Prop := fun E st t => PX ∧ E = wy_E ∧ aw_Rep X A t.heap ∧ va_F (aw_fr X) st t
def aw_CX (X : aw_X) (d : Nat) (y : aw_Y) (av : List Value) (A : aw_H) (PX : Prop) (Q : Option Value → aw_H → Prop) : Prop :=
  vx_Met X.1 y.1 (aw_ws y) (aw_rm d 1 6) (aw_Pc X av A) (aw_Qc X Q) (wy_XC X A PX) 1 6 (aw_fr X)
theorem aw_CX.of {X : aw_X} {d : Nat} {y : aw_Y} {av : List Value} {A : aw_H} {PX : Prop} {Q : Option Value → aw_H → Prop} (hy : plainName y.1.cls = true) (hn : (aw_ent0 av).length ≤ y.2.2.1) (h : aw_Z X d 1 6 y Q 0 0 0 (aw_en av y.2.2.1) [] A) (hnl : ¬ (y.1.cls = "AllWaysLaw" ∧ y.1.name = "law") := by decide +kernel) : aw_CX X d y av A PX Q := by
  unfold aw_CX
  refine vx_ofW (cc := y.2.1) (maxL := y.2.2.1) (ret := y.2.2.2) hy rfl ?_
  intro p e s m args below meth c s₁ B hml ht hv
  obtain ⟨rfl, hRep, hKn, hb⟩ := hv
  rw [lg_entry_eq]
  have hts := atoms_spec (ws := aw_ws y) B.pre
  exact vx_ret (h p e s m _ below meth c ⟨B.exec, B.bytes, hml, B.returns, fun w hw => hts w (List.mem_cons_of_mem _ hw), findClass_of_methodNamed B.named, B.notSynchronized, (name_of_methodNamed B.named B.method).1, hKn, hb, fun q => absurd q hnl⟩
    s.heap [] _ hRep va_S.rf (aw_LR.entry hn) (Nat.zero_le _) (Nat.zero_le _))
section WYT
variable {X : aw_X} {d : Nat} {A : aw_H} {p : Program} {e : Env} {s : State} {m : MethodId} {args : Array Value} {below : List Frame} {meth : Method} {c : Code} {H : Heap} {locs : List Loc} {r : Array Slot} {Qc : Array Value → State → Outcome → State → Prop} {PX : Prop}
set_option maxHeartbeats 4000000 in
theorem wy_throw (hPX : PX) (F : aw_Fix X y_AW_way p s m args meth c) (hl : X.1.stackTraces = false) (hR : aw_Rep X A H) (hfl : A.2.2.2.2 = false) (hS : va_S (aw_fr X) s.heap H locs) (hsize : r.size = c.maxLocals) (ht : ∀ x ∈ c.exceptionTable.toList, False) :
    W p X.1 e (aw_rm (d + 6) 1 6) s m args below meth c H locs 0 0 (vx_MQ below Qc (wy_XC X A PX) args s 1 6 (aw_fr X)) (F0 m 20 r []) := by
  intro T hT Z
  have hexec := F.1
  have hb := F.2.1
  have hown : s.vm.findClass "AllWays" = some m.cls := F.2.2.2.2.2.1
  obtain ⟨-, -, -, -, hstr, -, -, -, -, hU, hN, -⟩ := F.2.2.2.2.2.2.2.2.1.2.2
  have hat := wy_ok F
  have htr : e.platform.stackTraces = false := (show e.platform.stackTraces = X.1.stackTraces by rw [Z.admits.platform]).trans hl
  have hlo : (13 * 3 + 43) ≤ (aw_rm (d + 6) 1 6).locals := Nat.le_trans (show 82 ≤ 40 * (d + 6) by omega) aw_rm_l
  have Y := vx_rebase Z (R' := { frames := (aw_rm (d + 6) 1 6).frames, locals := (aw_rm (d + 6) 1 6).locals, cells := 1, slots := 6 }) (Nat.le_refl _) (Nat.le_refl _) (Nat.le_refl _) (Nat.le_refl _)
  obtain ⟨s', hA⟩ : ∃ z, z = (T.setVm s.vm).setFrames (.invoking m args :: below) := ⟨_, rfl⟩
  rw [← hA] at Y
  have hvm : s'.vm = s.vm := by rw [hA]; rfl
  have hhp : s'.heap = H := by rw [hA]; exact hT
  have hW0 : s.WarmedH s'.vm := by rw [hvm]; exact State.WarmedH.refl s
  have hat' : ∀ w ∈ wy_L.filter vx_no, w.before args s' = true := fun w hw => by
    have hm := List.mem_filter.mp hw
    have hg := List.all_eq_true.mp wy_vx w hm.1
    simp only [hm.2, Bool.not_true, Bool.or_false] at hg
    exact vx_ot_at hW0 hvm.symm hg (hat w hw)
  have hk' : (Cond.classLink "AllWays" 161 wy_E).before args s' = true := vx_ot_at hW0 hvm.symm rfl (F.2.2.2.2.1 _ wy_cl)
  have hini' : (Cond.initialized wy_E).before args s' = true := vx_ot_at hW0 hvm.symm rfl (F.2.2.2.2.1 _ wy_ini)
  have hU' : vx_Zq Bundle.tN "UNASSIGNED_STACK" Bundle.steD (aw_fr X) s' s'.heap := by rw [hhp]; exact vx_Zq.moved hW0.alike (hU.kept hS.2.1)
  have hN' : vx_Zq Bundle.tN "SUPPRESSED_SENTINEL" Bundle.listD (aw_fr X) s' s'.heap := by rw [hhp]; exact vx_Zq.moved hW0.alike (hN.kept hS.2.1)
  have h : ∀ w ∈ wy_L, w.before args s' = true := vx_own hat' (vx_isRefq hU'.1) (vx_isRefq hN'.1) hU'.2.word hN'.2.word
  have hown' : s'.vm.findClass "AllWays" = some m.cls := by rw [hvm]; exact hown
  have hins : (Cond.instantiable wy_E 6).before args s' = true := h _ (by simp [wy_L])
  have d0 : decode c.code 20 = .ok (.new 161, 3) := by rw [hb]; exact d_AW_way_20
  have d3 : decode c.code 23 = .ok (.dup, 1) := by rw [hb]; exact d_AW_way_23
  have d4 : decode c.code 24 = .ok (.ldc 163, 2) := by rw [hb]; exact d_AW_way_24
  have d6 : decode c.code 26 = .ok (.invokespecial 165, 3) := by rw [hb]; exact d_AW_way_26
  have d9 : decode c.code 29 = .ok (.athrow, 1) := by rw [hb]; exact d_AW_way_29
  obtain ⟨vm₁, cX, kX, hfX, hkX, -, -, X₁, st1⟩ := Y.newCold hexec (own := "AllWays") (C := wy_E) (index := 161) (n := 6) hown' hk' hins hini' (g := F0 m 20 r []) rfl d0 (Nat.le_refl _) (Nat.le_refl _)
  generalize hT1 : (T.setVm vm₁).pushCell { cls := cX, slots := kX.instanceTypes.map defaultValue, vm := .none } = T1 at X₁ st1
  have hcat : (Value.ref T.heap.size).category = 1 := rfl
  have hcellA : T1.heap[T.heap.size]? = some (freshCell cX kX) := by rw [← hT1]; exact State.heap_pushCell_size _ _
  have hstr' : vk_R "AllWays" 163 "no such way, or no such thing of it" (X.2.2.2.2 1004) s' := vk_R.warm hW0 hstr
  obtain ⟨U, ce, hsteps, hrun, hend, hW, hsame, hce, hcl0, hcv⟩ := wy_ctor X₁ hexec htr hown' h hfX hkX hcellA (by rw [hhp, hT]; exact Nat.le_refl _) (msg := .ref (X.2.2.2.2 1004)) rfl
    (g := { method := m, pc := 26, locals := r, stack := .ref (X.2.2.2.2 1004) :: .ref T.heap.size :: .ref T.heap.size :: [], locked := none }) rfl hsize rfl rfl (rest := []) rfl d6 d9 (fun x hx => (ht x hx).elim) (by show 5 < d + 6; omega) (by simp only [List.map_cons, List.map_nil, List.sum_cons, List.sum_nil, hcat]; exact Nat.le_trans (by show 2 * 0 + _ + _ ≤ _; omega) hlo) F.2.2.2.2.2.2.1
  obtain ⟨f1, f2⟩ := vx_frame hsame
  rw [hhp] at f1 f2
  have hWs : s.WarmedH U.vm := State.WarmedH.trans hW0 hW
  have hcl : s.vm.findClass wy_E = some ce.cls := by rw [← hvm]; exact hcl0
  have hall : s.sameButNew ({ U with vm := s.vm } : State) locs 1 6 := by
    subst hA
    obtain ⟨e1, e2⟩ := hsame
    rw [State.setFrames_setFrames] at e1
    have h2 : (T.setVm s.vm).sameButNew ({ U with vm := s.vm } : State) [] (0 + 1) (0 + 6) := ⟨e1, e2⟩
    have h3 := Z.same.trans h2
    rw [List.append_nil] at h3
    exact h3.mono (Nat.le_refl _) (Nat.le_refl _)
  have hk2 : ∀ q : Nat, q < H.size → U.heap[q]? = H[q]? := fun q hq => f2 q hq (fun z hz => nomatch hz)
  have hx : wy_XC X A PX wy_E s U := ⟨hPX, rfl, ⟨hR.1.kept (fun k q hq => hk2 _ (hR.1 k q hq).lt), hR.2.1, (fun z => by rw [hfl] at z; cases z), hR.2.2.2⟩, Nat.le_trans hS.1 f1, fun q g1 g2 => (hk2 q (Nat.lt_of_lt_of_le g1 hS.1)).trans (hS.2.1 q g1 g2)⟩
  refine ⟨U, ?_, .threw T.heap.size, hrun, hend, Or.inr ⟨T.heap.size, rfl, wy_E, ce, locs, hx, hce, hcv, hcl, hWs, hall, hS.2.2⟩⟩
  refine st1 _ ?_
  show Steps p.tables e below (T1.setTop { method := m, pc := 23, locals := r, stack := .ref T.heap.size :: [], locked := none }) _
  jvm_step X₁.here [X₁.here.top, hexec, d3, Value.category]
  exact X₁.ldcString hexec (own := "AllWays") (text := "no such way, or no such thing of it") (index := 163) (a := X.2.2.2.2 1004) hown' hstr'.1 hstr'.2
    (g := { method := m, pc := 24, locals := r, stack := .ref T.heap.size :: .ref T.heap.size :: [], locked := none }) rfl d4 _ hsteps
end WYT
