/-! PART i3 (by gen_way.py, out of whole's d1): way() of the class, and the law's way over it -/
section WAYX
variable {X : aw_X} {d : Nat} {Q : Option Value → aw_H → Prop} {I : Nat → Nat → Int32} {L : Nat → Nat → Int64} {D : Nat → Nat} {v1 v2 : Int32}
theorem c_AW_wayX {PX : Prop} (hPX : PX) (hl : X.1.stackTraces = false) (w : (∀ d Q, Q (some (.int 0)) (aw_s I L D) → aw_m X d y_Wk_isWay [.ref 11, .int v1] (aw_s I L D) Q) ∨ ((∀ d Q, Q (some (.int 1)) (aw_s I L D) → aw_m X d y_Wk_isWay [.ref 11, .int v1] (aw_s I L D) Q) ∧ (v2 < 0 ∨ 5 < v2))) : aw_CX X (d + 6) y_AW_way [.ref 0, .int v1, .int v2] (aw_s I L D) PX Q := by
  obtain ⟨b, hb1, hw⟩ : ∃ b : Int32, (b = 0 ∨ (b ≠ 0 ∧ (v2 < 0 ∨ 5 < v2))) ∧ ∀ d Q, Q (some (.int b)) (aw_s I L D) → aw_m X d y_Wk_isWay [.ref 11, .int v1] (aw_s I L D) Q := by
    rcases w with w | ⟨w, h⟩
    · exact ⟨0, Or.inl rfl, w⟩
    · exact ⟨1, Or.inr ⟨by decide, h⟩, w⟩
  unfold aw_CX
  refine vx_ofW (cc := y_AW_way.2.1) (maxL := y_AW_way.2.2.1) (ret := y_AW_way.2.2.2) rfl rfl ?_
  intro p e s m args below meth c s₁ B hml ht hv
  obtain ⟨rfl, hRep, hKn, hb⟩ := hv
  rw [lg_entry_eq]
  have hts := atoms_spec (ws := aw_ws y_AW_way) B.pre
  have F : aw_Fix X y_AW_way p s m (([.ref 0, .int v1, .int v2] : List Value).map (aw_tv X)).toArray meth c := ⟨B.exec, B.bytes, hml, B.returns, fun w hw => hts w (List.mem_cons_of_mem _ hw), findClass_of_methodNamed B.named, B.notSynchronized, (name_of_methodNamed B.named B.method).1, hKn, hb, fun q => absurd q (by decide +kernel)⟩
  have key : ∀ r, aw_LR X 3 (aw_en [.ref 0, .int v1, .int v2] 3) r → W p X.1 e (aw_rm (d + 6) 1 6) s m (([.ref 0, .int v1, .int v2] : List Value).map (aw_tv X)).toArray below meth c s.heap [] 0 0 (vx_MQ below (aw_Qc X Q) (wy_XC X (aw_s I L D) PX) (([.ref 0, .int v1, .int v2] : List Value).map (aw_tv X)).toArray s 1 6 (aw_fr X)) (F0 m 0 r []) := by
    intro r hL
    have hS0 : va_S (aw_fr X) s.heap s.heap [] := va_S.rf
    have ha : aw_ad X 0 = X.2.2.2.1 + 0 := aw_ad_in (by decide)
    have ha11 : aw_ad X 11 = X.2.2.2.1 + 11 := aw_ad_in (by decide)
    refine lv_aload_n F.1 F.2.1 d_AW_way_0 rfl (hL.at (i := 0) (v := .ref 0) rfl) ?_
    rw [ha]
    have he : (aw_w X (aw_s I L D))[0]? = some (X.2.2.2.1 + 0, .inr (0, aw_fs X (aw_s I L D) 0 0)) := by rw [aw_w_at (show 0 < 72 + D 7 by omega), aw_ent_o (ci := 0) rfl (by decide)]
    have hf : (aw_fs X (aw_s I L D) 0 0)[3]? = some (.ref (aw_ad X 11)) := aw_fs_at (show 3 < aw_nf 0 by decide)
    refine va_get F.1 F.2.1 F.2.2.2.2.1 k_AW.2.2.1 F.2.2.2.2.2.1 hKn.1 hRep.1 0 he k_AW.1 3 (by decide) (F.2.2.2.2.1 _ w_398) (fun _ h => h) hf d_AW_way_1 ?_
    refine lv_iload_n F.1 F.2.1 d_AW_way_4 rfl (hL.at (i := 1) (v := .int v1) rfl) ?_
    rw [ha11]
    have hc : aw_C X (d + 5) 0 0 y_Wk_isWay [.ref 11, .int v1] (aw_s I L D) (fun r A' => r = some (.int b) ∧ A' = aw_s I L D) := hw _ _ ⟨rfl, rfl⟩
    have he2 : (aw_w X (aw_s I L D))[11]? = some (X.2.2.2.1 + 11, .inr (4, aw_fs X (aw_s I L D) 11 4)) := by rw [aw_w_at (show 11 < 72 + D 7 by omega), aw_ent_o (ci := 4) rfl (by decide)]
    have hrecv := va_recv hKn.1 hRep.1 k_Wk.1 he2
    have hPV : PreV s s.heap y_Wk_isWay.1.cls (X.2.2.2.1 + 11) (aw_Pc X [.ref 11, .int v1] (aw_s I L D)) [.int v1] := ⟨aw_blind, hrecv, fun U g1 g2 => by
      have := aw_callPre (av := [.ref 11, .int v1]) F hRep hS0 U g1 g2
      rw [← ha11]; exact this⟩
    have hpl : ∀ sig, parseMethodDescriptor y_Wk_isWay.1.desc = some sig → 1 = sig.parameters.length := fun sig h => by
      have h2 := ok_Wk_isWay.2.2.1; rw [h] at h2; exact (Option.some.inj h2).symm
    have fin := va_runV (nL := 3) (n := 1) (rest := []) (e := e) (below := below) (meth := meth) (locs := []) (cells := 0) (slots := 0) (R := aw_rm (d + 6) 1 6) (g := F0 m 5 r [.int v1, .ref (X.2.2.2.1 + 11)]) ⟨F.1, F.2.1, F.2.2.1, F.2.2.2.2.2.1, F.2.2.2.2.1⟩ hc ⟨⟨rfl, rfl, Nat.le_refl _, aw_rm_step ok_Wk_isWay.2.2.2.2.2, pay_in F.2.2.2.2.1 (aw_goodIn ok_Wk_isWay), List.mem_cons_self, F.2.2.2.2.1 _ ok_Wk_isWay.2.2.2.1, F.2.2.2.2.1 _ ok_Wk_isWay.2.2.2.2.1, ⟨ok_Wk_isWay.1, ok_Wk_isWay.2.1⟩, hpl, F.2.2.2.2.1 _ w_1004⟩, F.2.2.2.2.1 _ w_931, F.2.2.2.2.1 _ w_932⟩ hPV rfl rfl hL.1 rfl (lv_room (Nat.le_of_ble_eq_true rfl)) d_AW_way_5 ⟨Nat.zero_le _, Nat.zero_le _⟩
    refine aw_behind (rest := []) fin hS0 fun rv A' H1 locs1 hq hR1 hS1 => ?_
    obtain ⟨rfl, rfl⟩ := hq
    have thr := wy_throw (d := d) (below := below) (e := e) (Qc := aw_Qc X Q) hPX F hl hR1 rfl hS1 (hL.1.trans hml.symm) ht
    refine lv_if_eq (tgt := 20) F.1 F.2.1 d_AW_way_8 rfl (fun _ => thr) (fun q => ?_)
    rcases hb1 with h0 | ⟨-, h2⟩
    · exact absurd h0 q
    · refine lv_iload_n F.1 F.2.1 d_AW_way_11 rfl (hL.at (i := 2) (v := .int v2) rfl) (lv_if_lt (tgt := 20) F.1 F.2.1 d_AW_way_12 rfl (fun _ => thr) (fun q2 => ?_))
      refine lv_iload_n F.1 F.2.1 d_AW_way_15 rfl (hL.at (i := 2) (v := .int v2) rfl) (lv_iconst (v := 5) F.1 F.2.1 d_AW_way_16 (by decide) (lv_icmp_le (tgt := 30) F.1 F.2.1 d_AW_way_17 rfl (fun q3 => ?_) (fun _ => thr)))
      rcases h2 with h2 | h2
      · exact absurd h2 q2
      · exact absurd q3 (Int32.not_le.mpr h2)
  exact key _ (aw_LR.entry (Nat.le_of_ble_eq_true rfl))
theorem c_AW_way1 {S : PT} {B T O F n i k : Nat} {E : Nat → PE} {wl wc : Nat → Nat} (h : WD S B T O F E n wl wc I L) (hi : i < n) (hk : k < 6) (hQ : Q (some (.int (wyV E wl wc i k))) (aw_s I L D)) : aw_m X (d + 6) y_AW_way [.ref 0, .int (nI i), .int (nI k)] (aw_s I L D) Q := by
  have k0 : ¬ nI k < 0 := nI_pos (by omega)
  have k5 : nI k ≤ 5 := by rw [show (5 : Int32) = nI 5 from rfl, nI_leI (by omega) (by decide)]; omega
  refine aw_C.of rfl (Nat.le_of_ble_eq_true rfl) (s_AW_way_0.go [some (.ref 0), some (.int (nI i)), some (.int (nI k))] [.int (nI i), .ref 11] (aw_s I L D) rfl ?_)
  refine z_callV (av := [.int (nI i)]) (st := []) ok_Wk_isWay (Or.inl w_1004) w_931 w_932 k_Wk d_AW_way_5 rfl (aw_lt (o := 11) rfl) rfl rfl (Nat.le_of_ble_eq_true rfl) (Nat.zero_le _) (Nat.zero_le _) (c_isWay1 h hi ?_)
  refine z_if_eq (tgt := 20) d_AW_way_8 rfl (fun q => absurd q (by decide)) (fun _ => s_AW_way_11.go [some (.ref 0), some (.int (nI i)), some (.int (nI k))] [.int (nI k)] (aw_s I L D) rfl (z_if_lt (tgt := 20) d_AW_way_12 rfl (fun q => absurd q k0) (fun _ => ?_)))
  refine s_AW_way_15.go [some (.ref 0), some (.int (nI i)), some (.int (nI k))] [.int 5, .int (nI k)] (aw_s I L D) rfl (z_icmp_le (tgt := 30) d_AW_way_17 rfl (fun _ => ?_) (fun q => absurd k5 q))
  refine s_AW_way_30.go [some (.ref 0), some (.int (nI i)), some (.int (nI k))] [.int (nI k), .int (nI i), .ref 11] (aw_s I L D) rfl ?_
  exact z_callV (av := [.int (nI i), .int (nI k)]) (st := []) ok_Wk_ofWay (Or.inl w_1070) w_1071 w_1072 k_Wk d_AW_way_36 rfl (aw_lt (o := 11) rfl) rfl rfl (Nat.le_of_ble_eq_true rfl) (Nat.zero_le _) (Nat.zero_le _) (c_Wk_ofWay (d := d + 4) h hi hk (z_iret d_AW_way_39 rfl rfl hQ))
end WAYX
theorem vx_ofWH {l : Launch} {y : MethodName} {ws ws' : List Cond} {rm : Room} {Pc : Array Value → State → Prop} {Qc : Array Value → State → Outcome → State → Prop} {XC : String → State → State → Prop} {mc ms : Nat} {free : Addr → Prop} {cc : ByteArray} {maxL : Nat} {ret : Option FieldType} {hh : List (Nat × Nat × Nat × Nat)}
    (hy : plainName y.cls = true) (hw : ws = Cond.codeWith y cc maxL ret hh :: ws')
    (body : ∀ p e s m args below meth c s₁, BodyLoose p l y (headSpec ws rm) cc maxL ret e s m args below meth c s₁ → c.maxLocals = maxL → Pc args s →
      W p l e (headSpec ws rm).room s m args below meth c s.heap [] 0 0 (vx_MQ below Qc XC args s mc ms free) (entryFrame m args maxL)) : vx_Met l y ws rm Pc Qc XC mc ms free := by
  refine MetFree.of_bodyS (code := cc) (maxLocals := maxL) (ret := ret) hy ?_ ?_
  · intro args s m h hn
    obtain ⟨m9, meth, c, hn9, h1, h2, h3, h4, -, h5, h6, -⟩ := Cond.codeWith_spec (atoms_spec (ws := ws) h _ (by rw [hw]; exact List.mem_cons_self))
    cases hn.symm.trans hn9
    exact ⟨meth, c, h1, h2, h3, h4, h5, h6⟩
  · intro p e s m args below meth c s₁ B hml hP _
    have hh0 : s₁.heap = s.heap := by rw [B.state]; rfl
    obtain ⟨t, a1, o, b1, b2, b3⟩ := body p e s m args below meth c s₁ B hml hP s₁ hh0 (Stand.of_body B)
    exact ⟨t, o, a1, b1, b2, b3⟩
def aw_wsW : List Cond := Cond.codeWith y_Law_way.1 method_6_code 4 (some .int) [(0, 6, 7, 27)] :: aw_T
def aw_CW (X : aw_X) (d mc ms : Nat) (av : List Value) (A : aw_H) (Q : Option Value → aw_H → Prop) : Prop := Met X.1 y_Law_way.1 aw_wsW (aw_rm d mc ms) (aw_Pc X av A) (aw_Qc X Q) mc ms (aw_fr X)
theorem met_vx {l : Launch} {y : MethodName} {ws : List Cond} {rm : Room} {Pc : Array Value → State → Prop} {Qc : Array Value → State → Outcome → State → Prop} {mc ms : Nat} {free : Addr → Prop} (h : vx_Met l y ws rm Pc Qc (fun _ _ _ => False) mc ms free) : Met l y ws rm Pc Qc mc ms free := by
  intro p e ha hc hk s m args below hf happ hP hK
  obtain ⟨n, o, h1, h2, h3, h4⟩ := h p e ha hc hk s m args below hf happ hP hK
  refine ⟨n, o, h1, h2, h3, ?_⟩
  rcases h4 with h4 | ⟨q, -, E, ce, L, hx, -⟩
  · exact h4
  · exact hx.elim
section LAWW
variable {X : aw_X} {d : Nat} {Q : Option Value → aw_H → Prop} {I : Nat → Nat → Int32} {L : Nat → Nat → Int64} {D : Nat → Nat} {v1 v2 : Int32}
theorem c_Law_wayX {PX : Prop} (hc : aw_CX X (d + 6) y_AW_way [.ref 0, .int v1, .int v2] (aw_s I L D) PX (fun r A' => ∃ x : Int32, r = some (.int x) ∧ A' = aw_s I L D ∧ Q (some (.int x)) (aw_s I L D))) (hx : PX → Q (some (.int (-77))) (aw_s I L D)) :
    aw_CW X (d + 7) 1 6 [.ref 0, .int v1, .int v2] (aw_s I L D) Q := by
  unfold aw_CW
  refine met_vx (vx_ofWH (cc := method_6_code) (maxL := 4) (ret := some .int) (hh := [(0, 6, 7, 27)]) rfl rfl ?_)
  intro p e s m args below meth c s₁ B hml hv
  obtain ⟨rfl, hRep, hKn, hb⟩ := hv
  rw [lg_entry_eq]
  have hts := atoms_spec (ws := aw_wsW) B.pre
  have F : aw_Fix X y_Law_way p s m (([.ref 0, .int v1, .int v2] : List Value).map (aw_tv X)).toArray meth c := ⟨B.exec, B.bytes, hml, B.returns, fun w hw => hts w (List.mem_cons_of_mem _ hw), findClass_of_methodNamed B.named, B.notSynchronized, (name_of_methodNamed B.named B.method).1, hKn, hb, fun q => absurd q (by decide +kernel)⟩
  have htb : c.exceptionTable.toList = tableOf [(0, 6, 7, 27)] := vx_table (x := y_Law_way.1) B (hts _ List.mem_cons_self)
  have key : ∀ r, aw_LR X 4 (aw_en [.ref 0, .int v1, .int v2] 4) r → W p X.1 e (aw_rm (d + 7) 1 6) s m (([.ref 0, .int v1, .int v2] : List Value).map (aw_tv X)).toArray below meth c s.heap [] 0 0 (vx_MQ below (aw_Qc X Q) (fun _ _ _ => False) (([.ref 0, .int v1, .int v2] : List Value).map (aw_tv X)).toArray s 1 6 (aw_fr X)) (F0 m 0 r []) := by
    intro r hL
    have hS0 : va_S (aw_fr X) s.heap s.heap [] := va_S.rf
    have ha : aw_ad X 0 = X.2.2.2.1 + 0 := aw_ad_in (by decide)
    refine lv_aload_n F.1 F.2.1 d_Law_way_0 rfl (hL.at (i := 0) (v := .ref 0) rfl) (lv_iload_n F.1 F.2.1 d_Law_way_1 rfl (hL.at (i := 1) (v := .int v1) rfl) (lv_iload_n F.1 F.2.1 d_Law_way_2 rfl (hL.at (i := 2) (v := .int v2) rfl) ?_))
    rw [ha]
    have he : (aw_w X (aw_s I L D))[0]? = some (X.2.2.2.1 + 0, .inr (0, aw_fs X (aw_s I L D) 0 0)) := by rw [aw_w_at (show 0 < 72 + D 7 by omega), aw_ent_o (ci := 0) rfl (by decide)]
    have hrecv := va_recv hKn.1 hRep.1 k_AW.1 he
    have hPV : PreV s s.heap y_AW_way.1.cls (X.2.2.2.1 + 0) (aw_Pc X [.ref 0, .int v1, .int v2] (aw_s I L D)) [.int v1, .int v2] := ⟨aw_blind, hrecv, fun U g1 g2 => by
      have := aw_callPre (av := [.ref 0, .int v1, .int v2]) F hRep hS0 U g1 g2
      rw [← ha]; exact this⟩
    have hpl : ∀ sig, parseMethodDescriptor y_AW_way.1.desc = some sig → 2 = sig.parameters.length := fun sig h => by
      have h2 := ok_AW_way.2.2.1; rw [h] at h2; exact (Option.some.inj h2).symm
    have fin := vx_runV (nL := 4) (n := 2) (rest := []) (e := e) (below := below) (meth := meth) (locs := []) (cells := 0) (slots := 0) (R := aw_rm (d + 7) 1 6) (g := F0 m 3 r [.int v2, .int v1, .ref (X.2.2.2.1 + 0)]) ⟨F.1, F.2.1, F.2.2.1, F.2.2.2.2.2.1, F.2.2.2.2.1⟩ hc ⟨⟨rfl, rfl, Nat.le_refl _, aw_rm_step ok_AW_way.2.2.2.2.2, pay_in F.2.2.2.2.1 (aw_goodIn ok_AW_way), List.mem_cons_self, F.2.2.2.2.1 _ ok_AW_way.2.2.2.1, F.2.2.2.2.1 _ ok_AW_way.2.2.2.2.1, ⟨ok_AW_way.1, ok_AW_way.2.1⟩, hpl, F.2.2.2.2.1 _ wy_mlA⟩, F.2.2.2.2.1 _ w_1001, F.2.2.2.2.1 _ w_1002⟩ hPV rfl rfl hL.1 rfl (lv_room (Nat.le_of_ble_eq_true rfl)) d_Law_way_3 ⟨Nat.le_refl _, Nat.le_refl _⟩
    intro T hT Z
    rcases fin T hT Z with ⟨v, st₀, t, T', Ls, h0, X', hLs, e1, e2, ⟨⟨rv, A', hv, hq, hRep1⟩, hF⟩, st⟩ | ⟨q, st₀, t, T', Ls, E, ce, h0, X', hLs, e1, e2, ⟨hPX, hE, hRep1, hF⟩, hce, hcv, hcl, st⟩
    · obtain ⟨x, rfl, rfl, hq⟩ := hq
      obtain ⟨hz, hk⟩ := hF
      rw [h0] at hz hk
      have hv' : v = some (.int x) := by injection hv
      subst hv'
      have k1 : aw_Z X (d + 7) 1 6 y_Law_way Q (0 + 1) (0 + 6) 6 (aw_en [.ref 0, .int v1, .int v2] 4) [.int x] (aw_s I L D) := z_iret d_Law_way_6 rfl rfl hq
      have k2 := vx_ret (XC := fun _ _ _ => False) (k1 p e s m _ below meth c F T'.heap ([] ++ Ls) r (by rw [e1]; exact hRep1) ⟨by rw [e1]; exact hz, fun q g1 g2 => by rw [e1]; exact hk q g1 g2, fun q hq => hLs q (by simpa using hq)⟩ hL (Nat.le_refl _) (Nat.le_refl _))
      obtain ⟨t2, a1, b1⟩ := k2 T' rfl X'
      exact ⟨t2, st t2 a1, b1⟩
    · subst hE
      obtain ⟨hz, hk⟩ := hF
      rw [h0] at hz hk
      have hS1 : va_S (aw_fr X) s.heap T'.heap ([] ++ Ls) := ⟨by rw [e1]; exact hz, fun q g1 g2 => by rw [e1]; exact hk q g1 g2, fun q hq => hLs q (by simpa using hq)⟩
      have k1 : aw_Z X (d + 7) 1 6 y_Law_way Q (0 + 1) (0 + 6) 8 [] [] (aw_s I L D) :=
        (aw_VS.cons (v_bipush (v := (-77 : Int32)) d_Law_way_8 (by decide +kernel)) aw_VS.nil).go [] [.int (-77)] (aw_s I L D) rfl (z_iret d_Law_way_10 rfl rfl (hx hPX))
      have kc : W p X.1 e (aw_rm (d + 7) 1 6) s m (([.ref 0, .int v1, .int v2] : List Value).map (aw_tv X)).toArray below meth c T'.heap ([] ++ Ls) (0 + 1) (0 + 6) (vx_MQ below (aw_Qc X Q) (fun _ _ _ => False) (([.ref 0, .int v1, .int v2] : List Value).map (aw_tv X)).toArray s 1 6 (aw_fr X)) (F0 m 7 r [.ref q]) :=
        lv_astore_n (i := 3) (nL := 4) (lv := []) (lv' := [(3, .ref q)]) F.1 F.2.1 d_Law_way_7 rfl ⟨hL.1, hL.2.1, fun z hz => nomatch hz⟩ (by decide) rfl (fun r' h' =>
          vx_ret (k1 p e s m _ below meth c F T'.heap ([] ++ Ls) r' (by rw [e1]; exact hRep1) hS1 ⟨h'.1, h'.2.1, Nat.zero_le _, fun i v hi => by simp at hi⟩ (Nat.le_refl _) (Nat.le_refl _)))
      have kv := vx_catch (own := "AllWaysLaw") (name := wy_E) (E := wy_E) (ce := ce) (pc := 3) (rest := []) F.2.2.2.2.2.1 [] { startPc := 0, endPc := 6, handlerPc := 7, catchType := 27 } [] (htb.trans rfl) (fun z hz => nomatch hz) (by decide) (by decide) (F.2.2.2.2.1 _ wy_lcl) (va_Nw.use rfl (F.2.2.2.2.2.2.2.2.1.2.1 _ wy_ct)) (by rw [e1]; exact hce) hcv hcl kc
      obtain ⟨t2, a1, b1⟩ := kv T' rfl X'
      exact ⟨t2, st.trans a1, b1⟩
  exact key _ (aw_LR.entry (Nat.le_of_ble_eq_true rfl))
end LAWW
