/-! PART 06 (by gen06.py): branches, division, ends, calls, what is made -/
section CTL
variable {y : aw_Y} {pc : Nat} {X : aw_X} {d mc ms : Nat} {Q : Option Value → aw_H → Prop} {kc ks : Nat} {ls : aw_L} {st : List Value} {A : aw_H}
theorem aw_Z.weak {ls' : aw_L} (h : aw_Z X d mc ms y Q kc ks pc ls' st A) (hn : ls'.length ≤ ls.length) (hw : aw_wk ls ls') : aw_Z X d mc ms y Q kc ks pc ls st A := by
  intro p e s m args below meth c F H locs r hR hS hL h1 h2
  exact h p e s m args below meth c F H locs r hR hS (hL.weak hn hw) h1 h2
theorem aw_Z.at {pc' : Nat} (h : aw_Z X d mc ms y Q kc ks pc ls st A) (e : pc = pc') : aw_Z X d mc ms y Q kc ks pc' ls st A := e ▸ h
theorem z_if_eq {x : Int32} {off : Int} {tgt : Nat} (hd : decode y.2.1 pc = .ok (.ifCond .eq off, 3)) (ht : (pc : Int) + off = (tgt : Int)) (kt : x = 0 → aw_Z X d mc ms y Q kc ks tgt ls st A) (kf : ¬ x = 0 → aw_Z X d mc ms y Q kc ks (pc + 3) ls st A) : aw_Z X d mc ms y Q kc ks pc ls (.int x :: st) A := by
  intro p e s m args below meth c F H locs r hR hS hL h1 h2
  exact lv_if_eq F.1 F.2.1 hd ht (fun q => kt q p e s m args below meth c F H locs r hR hS hL h1 h2) (fun q => kf q p e s m args below meth c F H locs r hR hS hL h1 h2)
theorem z_icmp_eq {x z : Int32} {off : Int} {tgt : Nat} (hd : decode y.2.1 pc = .ok (.if_icmp .eq off, 3)) (ht : (pc : Int) + off = (tgt : Int)) (kt : x = z → aw_Z X d mc ms y Q kc ks tgt ls st A) (kf : ¬ x = z → aw_Z X d mc ms y Q kc ks (pc + 3) ls st A) : aw_Z X d mc ms y Q kc ks pc ls (.int z :: .int x :: st) A := by
  intro p e s m args below meth c F H locs r hR hS hL h1 h2
  exact lv_icmp_eq F.1 F.2.1 hd ht (fun q => kt q p e s m args below meth c F H locs r hR hS hL h1 h2) (fun q => kf q p e s m args below meth c F H locs r hR hS hL h1 h2)
theorem z_if_ne {x : Int32} {off : Int} {tgt : Nat} (hd : decode y.2.1 pc = .ok (.ifCond .ne off, 3)) (ht : (pc : Int) + off = (tgt : Int)) (kt : ¬ x = 0 → aw_Z X d mc ms y Q kc ks tgt ls st A) (kf : x = 0 → aw_Z X d mc ms y Q kc ks (pc + 3) ls st A) : aw_Z X d mc ms y Q kc ks pc ls (.int x :: st) A := by
  intro p e s m args below meth c F H locs r hR hS hL h1 h2
  exact lv_if_ne F.1 F.2.1 hd ht (fun q => kt q p e s m args below meth c F H locs r hR hS hL h1 h2) (fun q => kf q p e s m args below meth c F H locs r hR hS hL h1 h2)
theorem z_icmp_ne {x z : Int32} {off : Int} {tgt : Nat} (hd : decode y.2.1 pc = .ok (.if_icmp .ne off, 3)) (ht : (pc : Int) + off = (tgt : Int)) (kt : ¬ x = z → aw_Z X d mc ms y Q kc ks tgt ls st A) (kf : x = z → aw_Z X d mc ms y Q kc ks (pc + 3) ls st A) : aw_Z X d mc ms y Q kc ks pc ls (.int z :: .int x :: st) A := by
  intro p e s m args below meth c F H locs r hR hS hL h1 h2
  exact lv_icmp_ne F.1 F.2.1 hd ht (fun q => kt q p e s m args below meth c F H locs r hR hS hL h1 h2) (fun q => kf q p e s m args below meth c F H locs r hR hS hL h1 h2)
theorem z_if_lt {x : Int32} {off : Int} {tgt : Nat} (hd : decode y.2.1 pc = .ok (.ifCond .lt off, 3)) (ht : (pc : Int) + off = (tgt : Int)) (kt : x < 0 → aw_Z X d mc ms y Q kc ks tgt ls st A) (kf : ¬ x < 0 → aw_Z X d mc ms y Q kc ks (pc + 3) ls st A) : aw_Z X d mc ms y Q kc ks pc ls (.int x :: st) A := by
  intro p e s m args below meth c F H locs r hR hS hL h1 h2
  exact lv_if_lt F.1 F.2.1 hd ht (fun q => kt q p e s m args below meth c F H locs r hR hS hL h1 h2) (fun q => kf q p e s m args below meth c F H locs r hR hS hL h1 h2)
theorem z_icmp_lt {x z : Int32} {off : Int} {tgt : Nat} (hd : decode y.2.1 pc = .ok (.if_icmp .lt off, 3)) (ht : (pc : Int) + off = (tgt : Int)) (kt : x < z → aw_Z X d mc ms y Q kc ks tgt ls st A) (kf : ¬ x < z → aw_Z X d mc ms y Q kc ks (pc + 3) ls st A) : aw_Z X d mc ms y Q kc ks pc ls (.int z :: .int x :: st) A := by
  intro p e s m args below meth c F H locs r hR hS hL h1 h2
  exact lv_icmp_lt F.1 F.2.1 hd ht (fun q => kt q p e s m args below meth c F H locs r hR hS hL h1 h2) (fun q => kf q p e s m args below meth c F H locs r hR hS hL h1 h2)
theorem z_if_ge {x : Int32} {off : Int} {tgt : Nat} (hd : decode y.2.1 pc = .ok (.ifCond .ge off, 3)) (ht : (pc : Int) + off = (tgt : Int)) (kt : 0 ≤ x → aw_Z X d mc ms y Q kc ks tgt ls st A) (kf : ¬ 0 ≤ x → aw_Z X d mc ms y Q kc ks (pc + 3) ls st A) : aw_Z X d mc ms y Q kc ks pc ls (.int x :: st) A := by
  intro p e s m args below meth c F H locs r hR hS hL h1 h2
  exact lv_if_ge F.1 F.2.1 hd ht (fun q => kt q p e s m args below meth c F H locs r hR hS hL h1 h2) (fun q => kf q p e s m args below meth c F H locs r hR hS hL h1 h2)
theorem z_icmp_ge {x z : Int32} {off : Int} {tgt : Nat} (hd : decode y.2.1 pc = .ok (.if_icmp .ge off, 3)) (ht : (pc : Int) + off = (tgt : Int)) (kt : z ≤ x → aw_Z X d mc ms y Q kc ks tgt ls st A) (kf : ¬ z ≤ x → aw_Z X d mc ms y Q kc ks (pc + 3) ls st A) : aw_Z X d mc ms y Q kc ks pc ls (.int z :: .int x :: st) A := by
  intro p e s m args below meth c F H locs r hR hS hL h1 h2
  exact lv_icmp_ge F.1 F.2.1 hd ht (fun q => kt q p e s m args below meth c F H locs r hR hS hL h1 h2) (fun q => kf q p e s m args below meth c F H locs r hR hS hL h1 h2)
theorem z_if_gt {x : Int32} {off : Int} {tgt : Nat} (hd : decode y.2.1 pc = .ok (.ifCond .gt off, 3)) (ht : (pc : Int) + off = (tgt : Int)) (kt : 0 < x → aw_Z X d mc ms y Q kc ks tgt ls st A) (kf : ¬ 0 < x → aw_Z X d mc ms y Q kc ks (pc + 3) ls st A) : aw_Z X d mc ms y Q kc ks pc ls (.int x :: st) A := by
  intro p e s m args below meth c F H locs r hR hS hL h1 h2
  exact lv_if_gt F.1 F.2.1 hd ht (fun q => kt q p e s m args below meth c F H locs r hR hS hL h1 h2) (fun q => kf q p e s m args below meth c F H locs r hR hS hL h1 h2)
theorem z_icmp_gt {x z : Int32} {off : Int} {tgt : Nat} (hd : decode y.2.1 pc = .ok (.if_icmp .gt off, 3)) (ht : (pc : Int) + off = (tgt : Int)) (kt : z < x → aw_Z X d mc ms y Q kc ks tgt ls st A) (kf : ¬ z < x → aw_Z X d mc ms y Q kc ks (pc + 3) ls st A) : aw_Z X d mc ms y Q kc ks pc ls (.int z :: .int x :: st) A := by
  intro p e s m args below meth c F H locs r hR hS hL h1 h2
  exact lv_icmp_gt F.1 F.2.1 hd ht (fun q => kt q p e s m args below meth c F H locs r hR hS hL h1 h2) (fun q => kf q p e s m args below meth c F H locs r hR hS hL h1 h2)
theorem z_if_le {x : Int32} {off : Int} {tgt : Nat} (hd : decode y.2.1 pc = .ok (.ifCond .le off, 3)) (ht : (pc : Int) + off = (tgt : Int)) (kt : x ≤ 0 → aw_Z X d mc ms y Q kc ks tgt ls st A) (kf : ¬ x ≤ 0 → aw_Z X d mc ms y Q kc ks (pc + 3) ls st A) : aw_Z X d mc ms y Q kc ks pc ls (.int x :: st) A := by
  intro p e s m args below meth c F H locs r hR hS hL h1 h2
  exact lv_if_le F.1 F.2.1 hd ht (fun q => kt q p e s m args below meth c F H locs r hR hS hL h1 h2) (fun q => kf q p e s m args below meth c F H locs r hR hS hL h1 h2)
theorem z_icmp_le {x z : Int32} {off : Int} {tgt : Nat} (hd : decode y.2.1 pc = .ok (.if_icmp .le off, 3)) (ht : (pc : Int) + off = (tgt : Int)) (kt : x ≤ z → aw_Z X d mc ms y Q kc ks tgt ls st A) (kf : ¬ x ≤ z → aw_Z X d mc ms y Q kc ks (pc + 3) ls st A) : aw_Z X d mc ms y Q kc ks pc ls (.int z :: .int x :: st) A := by
  intro p e s m args below meth c F H locs r hR hS hL h1 h2
  exact lv_icmp_le F.1 F.2.1 hd ht (fun q => kt q p e s m args below meth c F H locs r hR hS hL h1 h2) (fun q => kf q p e s m args below meth c F H locs r hR hS hL h1 h2)
theorem z_goto {off : Int} {tgt : Nat} (hd : decode y.2.1 pc = .ok (.goto off, 3)) (ht : (pc : Int) + off = (tgt : Int)) (k : aw_Z X d mc ms y Q kc ks tgt ls st A) : aw_Z X d mc ms y Q kc ks pc ls st A := by
  intro p e s m args below meth c F H locs r hR hS hL h1 h2
  exact lv_goto F.1 F.2.1 hd ht (k p e s m args below meth c F H locs r hR hS hL h1 h2)
theorem z_ifnull {o : Nat} {off : Int} (hd : decode y.2.1 pc = .ok (.ifnull off, 3)) (k : aw_Z X d mc ms y Q kc ks (pc + 3) ls st A) : aw_Z X d mc ms y Q kc ks pc ls (.ref o :: st) A := by
  intro p e s m args below meth c F H locs r hR hS hL h1 h2
  exact lv_ifnull F.1 F.2.1 hd (k p e s m args below meth c F H locs r hR hS hL h1 h2)
theorem z_ifnullN {off : Int} {tgt : Nat} (hd : decode y.2.1 pc = .ok (.ifnull off, 3)) (ht : (pc : Int) + off = (tgt : Int)) (k : aw_Z X d mc ms y Q kc ks tgt ls st A) : aw_Z X d mc ms y Q kc ks pc ls (.null :: st) A := by
  intro p e s m args below meth c F H locs r hR hS hL h1 h2
  exact lv_ifnullN F.1 F.2.1 hd ht (k p e s m args below meth c F H locs r hR hS hL h1 h2)
theorem z_ifnonnull {o : Nat} {off : Int} {tgt : Nat} (hd : decode y.2.1 pc = .ok (.ifnonnull off, 3)) (ht : (pc : Int) + off = (tgt : Int)) (k : aw_Z X d mc ms y Q kc ks tgt ls st A) : aw_Z X d mc ms y Q kc ks pc ls (.ref o :: st) A := by
  intro p e s m args below meth c F H locs r hR hS hL h1 h2
  exact lv_ifnonnull F.1 F.2.1 hd ht (k p e s m args below meth c F H locs r hR hS hL h1 h2)
theorem z_ifnonnullN {off : Int} (hd : decode y.2.1 pc = .ok (.ifnonnull off, 3)) (k : aw_Z X d mc ms y Q kc ks (pc + 3) ls st A) : aw_Z X d mc ms y Q kc ks pc ls (.null :: st) A := by
  intro p e s m args below meth c F H locs r hR hS hL h1 h2
  exact lv_ifnonnullN F.1 F.2.1 hd (k p e s m args below meth c F H locs r hR hS hL h1 h2)
theorem z_idiv {x z : Int32} (hd : decode y.2.1 pc = .ok (.idiv, 1)) (hz : ¬ z = 0) (k : aw_Z X d mc ms y Q kc ks (pc + 1) ls (.int (x / z) :: st) A) : aw_Z X d mc ms y Q kc ks pc ls (.int z :: .int x :: st) A := by
  intro p e s m args below meth c F H locs r hR hS hL h1 h2
  exact lv_idiv F.1 F.2.1 hd hz (k p e s m args below meth c F H locs r hR hS hL h1 h2)
theorem z_irem {x z : Int32} (hd : decode y.2.1 pc = .ok (.irem, 1)) (hz : ¬ z = 0) (k : aw_Z X d mc ms y Q kc ks (pc + 1) ls (.int (x - x / z * z) :: st) A) : aw_Z X d mc ms y Q kc ks pc ls (.int z :: .int x :: st) A := by
  intro p e s m args below meth c F H locs r hR hS hL h1 h2
  exact lv_irem F.1 F.2.1 hd hz (k p e s m args below meth c F H locs r hR hS hL h1 h2)
theorem z_lookup {dflt : Int} {ps : Array (Int × Int)} {len : Nat} {x : Int32} {off : Int} {tgt : Nat} (hd : decode y.2.1 pc = .ok (.lookupswitch dflt ps, len)) (hp : (ps.toList.zip (ps.toList.drop 1)).all (fun (a, next) => a.1 < next.1) = true) (ho : Op.lookupswitch.offset ps.toList dflt x.toInt = off) (ht : (pc : Int) + off = (tgt : Int)) (k : aw_Z X d mc ms y Q kc ks tgt ls st A) : aw_Z X d mc ms y Q kc ks pc ls (.int x :: st) A := by
  intro p e s m args below meth c F H locs r hR hS hL h1 h2
  exact lv_lookup F.1 F.2.1 hd hp ho ht (k p e s m args below meth c F H locs r hR hS hL h1 h2)
theorem z_tableOut {dflt lo hi : Int} {offs : Array Int} {len : Nat} {x : Int32} {tgt : Nat} (hd : decode y.2.1 pc = .ok (.tableswitch dflt lo hi offs, len)) (h : x.toInt < lo ∨ hi < x.toInt) (ht : (pc : Int) + dflt = (tgt : Int)) (k : aw_Z X d mc ms y Q kc ks tgt ls st A) : aw_Z X d mc ms y Q kc ks pc ls (.int x :: st) A := by
  intro p e s m args below meth c F H locs r hR hS hL h1 h2
  exact lv_tableOut F.1 F.2.1 hd h ht (k p e s m args below meth c F H locs r hR hS hL h1 h2)
theorem z_tableIn {dflt lo hi : Int} {offs : Array Int} {len : Nat} {x : Int32} {off : Int} {tgt : Nat} (hd : decode y.2.1 pc = .ok (.tableswitch dflt lo hi offs, len)) (g1 : ¬ x.toInt < lo) (g2 : ¬ hi < x.toInt) (ho : offs[(x.toInt - lo).toNat]? = some off) (ht : (pc : Int) + off = (tgt : Int)) (k : aw_Z X d mc ms y Q kc ks tgt ls st A) : aw_Z X d mc ms y Q kc ks pc ls (.int x :: st) A := by
  intro p e s m args below meth c F H locs r hR hS hL h1 h2
  exact lv_tableIn F.1 F.2.1 hd g1 g2 ho ht (k p e s m args below meth c F H locs r hR hS hL h1 h2)
/-! ends -/
theorem z_iret {ty : FieldType} {v : Int32} (hd : decode y.2.1 pc = .ok (.ireturn, 1)) (hr : y.2.2.2 = some ty) (hn : narrow ty (.int v) = .int v) (hq : Q (some (.int v)) A) : aw_Z X d mc ms y Q kc ks pc ls [.int v] A := by
  intro p e s m args below meth c F H locs r hR hS hL h1 h2
  refine W.widen h1 h2 ?_
  exact W.zret F.1 F.2.1 (F.2.2.2.1.trans hr) hn (fun t ht hW => ⟨⟨some (.int v), A, rfl, hq, by rw [ht]; exact hR⟩, hS.F ht⟩) hS.2.2 hd (hlocks := F.2.2.2.2.2.2.1)
theorem z_lret {v : Int64} (hd : decode y.2.1 pc = .ok (.lreturn, 1)) (hr : y.2.2.2 = some .long) (hq : Q (some (.long v)) A) : aw_Z X d mc ms y Q kc ks pc ls [.long v] A := by
  intro p e s m args below meth c F H locs r hR hS hL h1 h2
  refine W.widen h1 h2 ?_
  exact W.lret F.1 F.2.1 (F.2.2.2.1.trans hr) (fun t ht hW => ⟨⟨some (.long v), A, rfl, hq, by rw [ht]; exact hR⟩, hS.F ht⟩) hS.2.2 hd (hlocks := F.2.2.2.2.2.2.1)
theorem z_vret (hd : decode y.2.1 pc = .ok (.return_, 1)) (hr : y.2.2.2 = none) (hq : Q none A) : aw_Z X d mc ms y Q kc ks pc ls [] A := by
  intro p e s m args below meth c F H locs r hR hS hL h1 h2
  refine W.widen h1 h2 ?_
  exact W.vret F.1 F.2.1 (F.2.2.2.1.trans hr) (fun t ht hW => ⟨⟨none, A, rfl, hq, by rw [ht]; exact hR⟩, hS.F ht⟩) hS.2.2 hd (hlocks := F.2.2.2.2.2.2.1)
theorem z_aret {v : Option Nat} {rt : FieldType} (hd : decode y.2.1 pc = .ok (.areturn, 1)) (hr : y.2.2.2 = some rt) (hrt : (∃ n, rt = .object n) ∨ ∃ t, rt = .array t) (hq : Q (some (aw_rv v)) A) : aw_Z X d mc ms y Q kc ks pc ls [aw_rv v] A := by
  intro p e s m args below meth c F H locs r hR hS hL h1 h2
  refine W.widen h1 h2 ?_
  exact W.aret F.1 F.2.1 (F.2.2.2.1.trans hr) hrt (by cases v; exact Or.inl rfl; exact Or.inr ⟨_, rfl⟩) (fun t ht hW => ⟨⟨some (aw_rv v), A, rfl, hq, by rw [ht]; exact hR⟩, hS.F ht⟩) hS.2.2 hd (hlocks := F.2.2.2.2.2.2.1)
/-! calls -/
def aw_ok (y2 : aw_Y) (n : Nat) : Prop := y2.1.cls ≠ "java/lang/invoke/MethodHandle" ∧ y2.1.cls ≠ "java/lang/invoke/VarHandle" ∧ (parseMethodDescriptor y2.1.desc).map (fun d => d.parameters.length) = some n ∧ Cond.code y2.1 y2.2.1 y2.2.2.1 y2.2.2.2 ∈ aw_T ∧ Cond.initialized y2.1.cls ∈ aw_T ∧ y2.2.2.1 ≤ 21
def aw_ml (y y2 : aw_Y) (idx : Nat) : Prop := Cond.methodLink y.1.cls idx y2.1 ∈ aw_T ∨ ∃ h, Cond.methodLinkNest y.1.cls idx y2.1 h ∈ aw_N
theorem aw_goodT {w : Cond} (h : w ∈ aw_T) : (w.onTables && w.keeps) = true ∨ ∃ ty, w = .arrayClass ty := good_of_word (List.mem_filter.mp h).2
theorem aw_goodIn {y2 : aw_Y} {n : Nat} (ok : aw_ok y2 n) : GoodIn aw_T (aw_ws y2) := by
  intro w hw
  rcases List.mem_cons.mp hw with rfl | hw
  · exact ⟨ok.2.2.2.1, aw_goodT ok.2.2.2.1⟩
  · exact ⟨hw, aw_goodT hw⟩
theorem aw_blind {av : List Value} : FrameBlind (aw_Pc X av A) := by
  intro a U g mk h
  obtain ⟨h1, h2, h3, h4⟩ := h
  exact ⟨h1, h2, aw_Kn.same (s := U) (U := U.calling g mk a) (H := U.heap) rfl h3, h4⟩
theorem aw_rm_step {d2 n : Nat} (h : n ≤ 21) {mc2 ms2 : Nat} : 8 + (n + 11) + (aw_rm d2 mc2 ms2).locals ≤ (aw_rm (d2 + 1) mc ms).locals := by
  unfold aw_rm; dsimp only; split <;> split <;> omega
theorem aw_callPre {y0 : aw_Y} {p : Program} {s : State} {m : MethodId} {args : Array Value} {meth : Method} {c : Code} {H : Heap} {locs : List Loc} {av : List Value} (F : aw_Fix X y0 p s m args meth c) (hR : aw_Rep X A H) (hS : va_S (aw_fr X) s.heap H locs) :
    ∀ U : State, U.heap = H → s.WarmedH U.vm → aw_Pc X av A (av.map (aw_tv X)).toArray U := by
  intro U hU hW
  have hkn := F.2.2.2.2.2.2.2.2.1
  refine ⟨rfl, by rw [hU]; exact hR, ?_, by rw [hU]; exact Nat.le_trans F.2.2.2.2.2.2.2.2.2.1 hS.1⟩
  rw [hU]
  exact (hkn.warm hW).kept hS.2.1
/-- behind a call -/
theorem aw_behind {p : Program} {e : Env} {s : State} {m : MethodId} {args : Array Value} {below : List Frame} {meth : Method} {c : Code} {H : Heap} {locs : List Loc} {r : Array Slot} {a : Array Value} {R : Room} {stk rest : List Value} {mc2 ms2 : Nat} {Qb : Option Value → aw_H → Prop} {G : State → Prop}
    (hr : va_Run p X.1 e R s m args below meth c H locs kc ks mc2 ms2 (F0 m pc r stk) rest (aw_Qc X Qb a) (aw_fr X)) (hS : va_S (aw_fr X) s.heap H locs)
    (kk : ∀ (rv : Option Value) (A' : aw_H) (H1 : Heap) (locs1 : List Loc), Qb rv A' → aw_Rep X A' H1 → va_S (aw_fr X) s.heap H1 locs1 → W p X.1 e R s m args below meth c H1 locs1 (kc + mc2) (ks + ms2) G (F0 m (pc + 3) r ((rv.map (aw_tv X)).toList ++ rest))) :
    W p X.1 e R s m args below meth c H locs kc ks G (F0 m pc r stk) := by
  intro T hT Xs
  obtain ⟨v, st₀, t, T', L, h0, X', hL, e1, e2, ⟨⟨rv, A', hv, hq, hRep⟩, hF⟩, stp⟩ := hr T hT Xs
  obtain ⟨hz, hk⟩ := hF
  rw [h0] at hz hk
  have hv' : v = rv.map (aw_tv X) := by injection hv
  subst hv'
  obtain ⟨t2, a1, b1⟩ := kk rv A' T'.heap (locs ++ L) hq (by rw [e1]; exact hRep) ⟨Nat.le_trans hS.1 (by rw [e1]; exact hz), fun q g1 g2 => by rw [e1, hk q (Nat.lt_of_lt_of_le g1 hS.1) g2]; exact hS.2.1 q g1 g2, fun q hq => by
      rcases List.mem_append.mp hq with h | h
      · exact hS.2.2 q h
      · exact hL q h⟩ T' rfl X'
  exact ⟨t2, stp t2 a1, b1⟩
theorem aw_cat_map (X : aw_X) : ∀ l : List Value, ((l.map (aw_tv X)).map fun v => v.category) = l.map fun v => v.category
  | [] => rfl
  | v :: l => by rw [List.map_cons, List.map_cons, List.map_cons, aw_cat_map X l, aw_tv_cat]
theorem z_callV {y2 : aw_Y} {idx n ci o N mc2 ms2 : Nat} {T : u_T} {av : List Value} {S : List Value} (ok : aw_ok y2 n) (hl : aw_ml y y2 idx) (hi : Cond.instanceMethod y2.1 ∈ aw_T) (hse : Cond.selects y2.1.cls y2.1 y2.1 ∈ aw_T) (K : aw_cls ci y2.1.cls T N) (hd : decode y.2.1 pc = .ok (.invokevirtual idx, 3)) (ho : (aw_sh o).1 = ci) (hn : aw_ex A o)
    (hS0 : S = av.reverse ++ .ref o :: st) (hlen : av.length = n) (hcat : (st.map fun v => v.category).sum ≤ 8) (hm1 : kc + mc2 ≤ mc) (hm2 : ks + ms2 ≤ ms)
    (hc : aw_C X d mc2 ms2 y2 (.ref o :: av) A (fun r A' => aw_Z X (d + 1) mc ms y Q (kc + mc2) (ks + ms2) (pc + 3) ls (r.toList ++ st) A')) : aw_Z X (d + 1) mc ms y Q kc ks pc ls S A := by
  subst hS0
  intro p e s m args below meth c F H locs r hR hS hL h1 h2
  have ha : aw_tv X (.ref o) = .ref (X.2.2.2.1 + o) := by show Value.ref _ = _; rw [aw_ad_in (hR.lt hn)]
  obtain ⟨c1, c2, c3, c4, c5, c6⟩ := K
  have he : (aw_w X A)[o]? = some (X.2.2.2.1 + o, .inr (ci, aw_fs X A o ci)) := by rw [aw_w_at (hR.ex hn), aw_ent_o ho c6]
  have hrecv := va_recv F.2.2.2.2.2.2.2.2.1.1 hR.1 c1 he
  have hpre := aw_callPre (av := .ref o :: av) F hR hS
  rw [List.map_cons, ha] at hpre
  have hPV : PreV s H y2.1.cls (X.2.2.2.1 + o) (aw_Pc X (.ref o :: av) A) (av.map (aw_tv X)) := ⟨aw_blind, hrecv, hpre⟩
  have hgood := pay_in F.2.2.2.2.1 (aw_goodIn ok)
  have hcw : Cond.code y2.1 y2.2.1 y2.2.2.1 y2.2.2.2 ∈ aw_ws y2 := List.mem_cons_self
  have hpl : ∀ sig, parseMethodDescriptor y2.1.desc = some sig → n = sig.parameters.length := fun sig h => by
    have h2 := ok.2.2.1; rw [h] at h2; exact (Option.some.inj h2).symm
  have hstk : (av.reverse ++ Value.ref o :: st).map (aw_tv X) = (av.map (aw_tv X)).reverse ++ .ref (X.2.2.2.1 + o) :: st.map (aw_tv X) := by rw [List.map_append, List.map_reverse, List.map_cons, ha]
  rw [hstk]
  have hroom : 2 * (F0 m pc r ((av.map (aw_tv X)).reverse ++ .ref (X.2.2.2.1 + o) :: st.map (aw_tv X))).monitorRoom + ((st.map (aw_tv X)).map fun v => v.category).sum ≤ 8 := by
    rw [aw_cat_map]; exact lv_room hcat
  have fin : va_Run p X.1 e (aw_rm (d + 1) mc ms) s m args below meth c H locs kc ks mc2 ms2 (F0 m pc r ((av.map (aw_tv X)).reverse ++ .ref (X.2.2.2.1 + o) :: st.map (aw_tv X))) (st.map (aw_tv X)) (aw_Qc X (fun r A' => aw_Z X (d + 1) mc ms y Q (kc + mc2) (ks + ms2) (pc + 3) ls (r.toList ++ st) A') (Value.ref (X.2.2.2.1 + o) :: av.map (aw_tv X)).toArray) (aw_fr X) := by
    rcases hl with hl | ⟨host, hl⟩
    · exact va_runV (nL := y.2.2.1) ⟨F.1, F.2.1, F.2.2.1, F.2.2.2.2.2.1, F.2.2.2.2.1⟩ hc ⟨⟨rfl, rfl, Nat.le_refl _, aw_rm_step ok.2.2.2.2.2, hgood, hcw, F.2.2.2.2.1 _ ok.2.2.2.1, F.2.2.2.2.1 _ ok.2.2.2.2.1, ⟨ok.1, ok.2.1⟩, hpl, F.2.2.2.2.1 _ hl⟩, F.2.2.2.2.1 _ hi, F.2.2.2.2.1 _ hse⟩ hPV rfl (by rw [List.length_map]; exact hlen) hL.1 rfl hroom hd ⟨hm1, hm2⟩
    · exact va_runVN (nL := y.2.2.1) (host := host) ⟨F.1, F.2.1, F.2.2.1, F.2.2.2.2.2.1, F.2.2.2.2.1⟩ hc ⟨⟨⟨rfl, rfl, Nat.le_refl _, aw_rm_step ok.2.2.2.2.2, hgood, hcw⟩, F.2.2.2.2.1 _ ok.2.2.2.1, F.2.2.2.2.1 _ ok.2.2.2.2.1, ⟨ok.1, ok.2.1⟩, hpl, va_Nw.use rfl (F.2.2.2.2.2.2.2.2.1.2.1 _ hl)⟩, F.2.2.2.2.1 _ hi, F.2.2.2.2.1 _ hse⟩ hPV rfl (by rw [List.length_map]; exact hlen) hL.1 rfl hroom hd ⟨hm1, hm2⟩
  refine aw_behind fin hS fun rv A' H1 locs1 hq hR1 hS1 => ?_
  have := hq p e s m args below meth c F H1 locs1 r hR1 hS1 hL hm1 hm2
  rw [List.map_append] at this
  cases rv <;> exact this
theorem z_callS {y2 : aw_Y} {idx n mc2 ms2 : Nat} {av : List Value} {S : List Value} (ok : aw_ok y2 n) (hl : aw_ml y y2 idx) (hi : Cond.static y2.1 ∈ aw_T) (hd : decode y.2.1 pc = .ok (.invokestatic idx, 3))
    (hS0 : S = av.reverse ++ st) (hlen : av.length = n) (hcat : (st.map fun v => v.category).sum ≤ 8) (hm1 : kc + mc2 ≤ mc) (hm2 : ks + ms2 ≤ ms)
    (hc : aw_C X d mc2 ms2 y2 av A (fun r A' => aw_Z X (d + 1) mc ms y Q (kc + mc2) (ks + ms2) (pc + 3) ls (r.toList ++ st) A')) : aw_Z X (d + 1) mc ms y Q kc ks pc ls S A := by
  subst hS0
  intro p e s m args below meth c F H locs r hR hS hL h1 h2
  have hpre := aw_callPre (av := av) F hR hS
  have hPS : PreS s H (aw_Pc X av A) (av.map (aw_tv X)) := ⟨aw_blind, hpre⟩
  have hgood := pay_in F.2.2.2.2.1 (aw_goodIn ok)
  have hcw : Cond.code y2.1 y2.2.1 y2.2.2.1 y2.2.2.2 ∈ aw_ws y2 := List.mem_cons_self
  have hpl : ∀ sig, parseMethodDescriptor y2.1.desc = some sig → n = sig.parameters.length := fun sig h => by
    have h2 := ok.2.2.1; rw [h] at h2; exact (Option.some.inj h2).symm
  have hstk : (av.reverse ++ st).map (aw_tv X) = (av.map (aw_tv X)).reverse ++ st.map (aw_tv X) := by rw [List.map_append, List.map_reverse]
  rw [hstk]
  have hroom : 2 * (F0 m pc r ((av.map (aw_tv X)).reverse ++ st.map (aw_tv X))).monitorRoom + ((st.map (aw_tv X)).map fun v => v.category).sum ≤ 8 := by
    rw [aw_cat_map]; exact lv_room hcat
  have fin : va_Run p X.1 e (aw_rm (d + 1) mc ms) s m args below meth c H locs kc ks mc2 ms2 (F0 m pc r ((av.map (aw_tv X)).reverse ++ st.map (aw_tv X))) (st.map (aw_tv X)) (aw_Qc X (fun r A' => aw_Z X (d + 1) mc ms y Q (kc + mc2) (ks + ms2) (pc + 3) ls (r.toList ++ st) A') (av.map (aw_tv X)).toArray) (aw_fr X) := by
    rcases hl with hl | ⟨host, hl⟩
    · exact va_runS (nL := y.2.2.1) ⟨F.1, F.2.1, F.2.2.1, F.2.2.2.2.2.1, F.2.2.2.2.1⟩ hc ⟨⟨rfl, rfl, Nat.le_refl _, aw_rm_step ok.2.2.2.2.2, hgood, hcw, F.2.2.2.2.1 _ ok.2.2.2.1, F.2.2.2.2.1 _ ok.2.2.2.2.1, ⟨ok.1, ok.2.1⟩, hpl, F.2.2.2.2.1 _ hl⟩, F.2.2.2.2.1 _ hi⟩ hPS rfl (by rw [List.length_map]; exact hlen) hL.1 rfl hroom hd ⟨hm1, hm2⟩
    · exact va_runSN (nL := y.2.2.1) (host := host) ⟨F.1, F.2.1, F.2.2.1, F.2.2.2.2.2.1, F.2.2.2.2.1⟩ hc ⟨⟨⟨rfl, rfl, Nat.le_refl _, aw_rm_step ok.2.2.2.2.2, hgood, hcw⟩, F.2.2.2.2.1 _ ok.2.2.2.1, F.2.2.2.2.1 _ ok.2.2.2.2.1, ⟨ok.1, ok.2.1⟩, hpl, va_Nw.use rfl (F.2.2.2.2.2.2.2.2.1.2.1 _ hl)⟩, F.2.2.2.2.1 _ hi, trivial⟩ hPS rfl (by rw [List.length_map]; exact hlen) hL.1 rfl hroom hd ⟨hm1, hm2⟩
  refine aw_behind fin hS fun rv A' H1 locs1 hq hR1 hS1 => ?_
  have := hq p e s m args below meth c F H1 locs1 r hR1 hS1 hL hm1 hm2
  rw [List.map_append] at this
  cases rv <;> exact this
theorem z_callI {y2 : aw_Y} {idx n o mc2 ms2 : Nat} {av : List Value} {S : List Value} (ok : aw_ok y2 n) (hret : y2.2.2.2 = none) (hnm : y2.1.name = "<init>") (hl : aw_ml y y2 idx) (hi : Cond.instanceMethod y2.1 ∈ aw_T) (hd : decode y.2.1 pc = .ok (.invokespecial idx, 3)) (hn : aw_ex A o)
    (hS0 : S = av.reverse ++ .ref o :: st) (hlen : av.length = n) (hcat : (st.map fun v => v.category).sum ≤ 8) (hm1 : kc + mc2 ≤ mc) (hm2 : ks + ms2 ≤ ms)
    (hc : aw_C X d mc2 ms2 y2 (.ref o :: av) A (fun r A' => aw_Z X (d + 1) mc ms y Q (kc + mc2) (ks + ms2) (pc + 3) ls (r.toList ++ st) A')) : aw_Z X (d + 1) mc ms y Q kc ks pc ls S A := by
  subst hS0
  intro p e s m args below meth c F H locs r hR hS hL h1 h2
  have ha : aw_tv X (.ref o) = .ref (X.2.2.2.1 + o) := by show Value.ref _ = _; rw [aw_ad_in (hR.lt hn)]
  have hpre := aw_callPre (av := .ref o :: av) F hR hS
  rw [List.map_cons, ha] at hpre
  have hPS : PreS s H (aw_Pc X (.ref o :: av) A) (.ref (X.2.2.2.1 + o) :: av.map (aw_tv X)) := ⟨aw_blind, hpre⟩
  have hgood := pay_in F.2.2.2.2.1 (aw_goodIn ok)
  have hcw : Cond.code y2.1 y2.2.1 y2.2.2.1 y2.2.2.2 ∈ aw_ws y2 := List.mem_cons_self
  have hpl : ∀ sig, parseMethodDescriptor y2.1.desc = some sig → n = sig.parameters.length := fun sig h => by
    have h2 := ok.2.2.1; rw [h] at h2; exact (Option.some.inj h2).symm
  have hstk : (av.reverse ++ Value.ref o :: st).map (aw_tv X) = (av.map (aw_tv X)).reverse ++ .ref (X.2.2.2.1 + o) :: st.map (aw_tv X) := by rw [List.map_append, List.map_reverse, List.map_cons, ha]
  rw [hstk]
  have hroom : 2 * (F0 m pc r ((av.map (aw_tv X)).reverse ++ .ref (X.2.2.2.1 + o) :: st.map (aw_tv X))).monitorRoom + ((st.map (aw_tv X)).map fun v => v.category).sum ≤ 8 := by
    rw [aw_cat_map]; exact lv_room hcat
  rw [hret] at hcw
  have hk0 := ok.2.2.2.1
  rw [hret] at hk0
  have fin : va_Run p X.1 e (aw_rm (d + 1) mc ms) s m args below meth c H locs kc ks mc2 ms2 (F0 m pc r ((av.map (aw_tv X)).reverse ++ .ref (X.2.2.2.1 + o) :: st.map (aw_tv X))) (st.map (aw_tv X)) (aw_Qc X (fun r A' => aw_Z X (d + 1) mc ms y Q (kc + mc2) (ks + ms2) (pc + 3) ls (r.toList ++ st) A') (Value.ref (X.2.2.2.1 + o) :: av.map (aw_tv X)).toArray) (aw_fr X) := by
    rcases hl with hl | ⟨host, hl⟩
    · exact va_runI (nL := y.2.2.1) ⟨F.1, F.2.1, F.2.2.1, F.2.2.2.2.2.1, F.2.2.2.2.1⟩ hc ⟨⟨rfl, rfl, Nat.le_refl _, aw_rm_step ok.2.2.2.2.2, hgood, hcw, F.2.2.2.2.1 _ hk0, F.2.2.2.2.1 _ ok.2.2.2.2.1, ⟨ok.1, ok.2.1⟩, hpl, F.2.2.2.2.1 _ hl⟩, hnm, F.2.2.2.2.1 _ hi⟩ hPS rfl (by rw [List.length_map]; exact hlen) hL.1 rfl hroom hd ⟨hm1, hm2⟩
    · exact va_runIN (nL := y.2.2.1) (host := host) ⟨F.1, F.2.1, F.2.2.1, F.2.2.2.2.2.1, F.2.2.2.2.1⟩ hc ⟨⟨⟨rfl, rfl, Nat.le_refl _, aw_rm_step ok.2.2.2.2.2, hgood, hcw⟩, F.2.2.2.2.1 _ hk0, F.2.2.2.2.1 _ ok.2.2.2.2.1, ⟨ok.1, ok.2.1⟩, hpl, va_Nw.use rfl (F.2.2.2.2.2.2.2.2.1.2.1 _ hl)⟩, hnm, F.2.2.2.2.1 _ hi⟩ hPS rfl (by rw [List.length_map]; exact hlen) hL.1 rfl hroom hd ⟨hm1, hm2⟩
  refine aw_behind fin hS fun rv A' H1 locs1 hq hR1 hS1 => ?_
  have := hq p e s m args below meth c F H1 locs1 r hR1 hS1 hL hm1 hm2
  rw [List.map_append] at this
  cases rv <;> exact this
theorem z_objInit {idx o : Nat} (hl : Cond.methodLink y.1.cls idx objectInit ∈ aw_T) (hi : Cond.instanceMethod objectInit ∈ aw_T) (hco : Cond.code objectInit ⟨#[0xb1]⟩ 1 none ∈ aw_T) (hd : decode y.2.1 pc = .ok (.invokespecial idx, 3)) (hcat : (st.map fun v => v.category).sum ≤ 8) (kk : aw_Z X (d + 1) mc ms y Q kc ks (pc + 3) ls st A) : aw_Z X (d + 1) mc ms y Q kc ks pc ls (.ref o :: st) A := by
  intro p e s m args below meth c F H locs r hR hS hL h1 h2
  refine W.objInit F.1 F.2.1 F.2.2.2.2.2.1 (F.2.2.2.2.1 _ hl) (F.2.2.2.2.1 _ hi) (F.2.2.2.2.1 _ hco) rfl (by rw [F.2.2.1]; exact hL.1) rfl hd (by show 1 ≤ d + 1; omega) ?_ (kk p e s m args below meth c F H locs r hR hS hL h1 h2)
  rw [aw_cat_map]
  refine Nat.le_trans ?_ (Nat.le_trans (show 20 ≤ 40 * (d + 1) by omega) aw_rm_l)
  show 2 * 0 + _ + 12 ≤ 20
  omega
end CTL
