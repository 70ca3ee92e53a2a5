/-! PART i4: the law's way where there is one; the law's call of its way -/
section LAWV
variable {X : aw_X} {d : Nat} {Q : Option Value → aw_H → Prop} {I : Nat → Nat → Int32} {L : Nat → Nat → Int64} {D : Nat → Nat} {v1 v2 : Int32}
theorem c_Law_wayV {x : Int32} (hc : aw_m X (d + 6) y_AW_way [.ref 0, .int v1, .int v2] (aw_s I L D) (fun r A' => r = some (.int x) ∧ A' = aw_s I L D)) (hQ : Q (some (.int x)) (aw_s I L D)) :
    aw_CW X (d + 7) 0 0 [.ref 0, .int v1, .int v2] (aw_s I L D) Q := by
  unfold aw_CW
  refine met_vx (vx_ofWH (cc := method_6_code) (maxL := 4) (ret := some .int) (hh := [(0, 6, 7, 27)]) rfl rfl ?_)
  intro p e s m args below meth c s₁ B hml hv
  obtain ⟨rfl, hRep, hKn, hb⟩ := hv
  rw [lg_entry_eq]
  have hts := atoms_spec (ws := aw_wsW) B.pre
  have F : aw_Fix X y_Law_way p s m (([.ref 0, .int v1, .int v2] : List Value).map (aw_tv X)).toArray meth c := ⟨B.exec, B.bytes, hml, B.returns, fun w hw => hts w (List.mem_cons_of_mem _ hw), findClass_of_methodNamed B.named, B.notSynchronized, (name_of_methodNamed B.named B.method).1, hKn, hb, fun q => absurd q (by decide +kernel)⟩
  have key : ∀ r, aw_LR X 4 (aw_en [.ref 0, .int v1, .int v2] 4) r → W p X.1 e (aw_rm (d + 7) 0 0) s m (([.ref 0, .int v1, .int v2] : List Value).map (aw_tv X)).toArray below meth c s.heap [] 0 0 (vx_MQ below (aw_Qc X Q) (fun _ _ _ => False) (([.ref 0, .int v1, .int v2] : List Value).map (aw_tv X)).toArray s 0 0 (aw_fr X)) (F0 m 0 r []) := by
    intro r hL
    have hS0 : va_S (aw_fr X) s.heap s.heap [] := va_S.rf
    have ha : aw_ad X 0 = X.2.2.2.1 + 0 := aw_ad_in (by decide)
    refine lv_aload_n F.1 F.2.1 d_Law_way_0 rfl (hL.at (i := 0) (v := .ref 0) rfl) (lv_iload_n F.1 F.2.1 d_Law_way_1 rfl (hL.at (i := 1) (v := .int v1) rfl) (lv_iload_n F.1 F.2.1 d_Law_way_2 rfl (hL.at (i := 2) (v := .int v2) rfl) ?_))
    rw [ha]
    have he : (aw_w X (aw_s I L D))[0]? = some (X.2.2.2.1 + 0, .inr (0, aw_fs X (aw_s I L D) 0 0)) := by rw [aw_w_at (show 0 < 72 + D 7 by omega), aw_ent_o (ci := 0) rfl (by decide)]
    have hrecv := va_recv hKn.1 hRep.1 k_AW.1 he
    have hPV : PreV s s.heap y_AW_way.1.cls (X.2.2.2.1 + 0) (aw_Pc X [.ref 0, .int v1, .int v2] (aw_s I L D)) [.int v1, .int v2] := ⟨aw_blind, hrecv, fun U g1 g2 => by
      have := aw_callPre (av := [.ref 0, .int v1, .int v2]) F hRep hS0 U g1 g2
      rw [← ha]; exact this⟩
    have hpl : ∀ sig, parseMethodDescriptor y_AW_way.1.desc = some sig → 2 = sig.parameters.length := fun sig h => by
      have h2 := ok_AW_way.2.2.1; rw [h] at h2; exact (Option.some.inj h2).symm
    have fin := va_runV (nL := 4) (n := 2) (rest := []) (e := e) (below := below) (meth := meth) (locs := []) (cells := 0) (slots := 0) (R := aw_rm (d + 7) 0 0) (g := F0 m 3 r [.int v2, .int v1, .ref (X.2.2.2.1 + 0)]) ⟨F.1, F.2.1, F.2.2.1, F.2.2.2.2.2.1, F.2.2.2.2.1⟩ hc ⟨⟨rfl, rfl, Nat.le_refl _, aw_rm_step ok_AW_way.2.2.2.2.2, pay_in F.2.2.2.2.1 (aw_goodIn ok_AW_way), List.mem_cons_self, F.2.2.2.2.1 _ ok_AW_way.2.2.2.1, F.2.2.2.2.1 _ ok_AW_way.2.2.2.2.1, ⟨ok_AW_way.1, ok_AW_way.2.1⟩, hpl, F.2.2.2.2.1 _ wy_mlA⟩, F.2.2.2.2.1 _ w_1001, F.2.2.2.2.1 _ w_1002⟩ hPV rfl rfl hL.1 rfl (lv_room (Nat.le_of_ble_eq_true rfl)) d_Law_way_3 ⟨Nat.le_refl _, Nat.le_refl _⟩
    refine aw_behind (rest := []) fin hS0 fun rv A' H1 locs1 hq hR1 hS1 => ?_
    obtain ⟨rfl, rfl⟩ := hq
    have k1 : aw_Z X (d + 7) 0 0 y_Law_way Q 0 0 6 (aw_en [.ref 0, .int v1, .int v2] 4) [.int x] (aw_s I L D) := z_iret d_Law_way_6 rfl rfl hQ
    exact vx_ret (XC := fun _ _ _ => False) (k1 p e s m _ below meth c F H1 locs1 r hR1 hS1 hL (Nat.le_refl _) (Nat.le_refl _))
  exact key _ (aw_LR.entry (Nat.le_of_ble_eq_true rfl))
/-- a way that there is -/
theorem c_Law_way1 {S : PT} {B T O F n i k : Nat} {E : Nat → PE} {wl wc : Nat → Nat} (h : WD S B T O F E n wl wc I L) (hi : i < n) (hk : k < 6) (hQ : Q (some (.int (wyV E wl wc i k))) (aw_s I L D)) : aw_CW X (d + 7) 0 0 [.ref 0, .int (nI i), .int (nI k)] (aw_s I L D) Q :=
  c_Law_wayV (x := wyV E wl wc i k) (c_AW_way1 h hi hk ⟨rfl, rfl⟩) hQ
/-- a way, or a thing of it, that there is not -/
theorem c_Law_way0 {S : PT} {B T O F n : Nat} {E : Nat → PE} {wl wc : Nat → Nat} (hl : X.1.stackTraces = false) (h : WD S B T O F E n wl wc I L) (hv : (v1 < 0 ∨ nI n ≤ v1) ∨ ((∃ i, i < n ∧ v1 = nI i) ∧ (v2 < 0 ∨ 5 < v2))) (hQ : Q (some (.int (-77))) (aw_s I L D)) : aw_CW X (d + 7) 1 6 [.ref 0, .int v1, .int v2] (aw_s I L D) Q := by
  refine c_Law_wayX (PX := True) (c_AW_wayX trivial hl ?_) (fun _ => hQ)
  rcases hv with hv | ⟨⟨i, hi, rfl⟩, hv⟩
  · exact Or.inl (fun d Q q => c_isWay0 h hv q)
  · exact Or.inr ⟨fun d Q q => c_isWay1 h hi q, hv⟩
end LAWV
theorem aw_goodW : GoodIn aw_T aw_wsW := by
  intro w hw
  rcases List.mem_cons.mp hw with rfl | hw
  · exact ⟨wy_cw, aw_goodT wy_cw⟩
  · exact ⟨hw, aw_goodT hw⟩
theorem lw_pc : (parseMethodDescriptor y_Law_way.1.desc).map (fun d => d.parameters.length) = some 3 := by decide +kernel
theorem z_callW {y : aw_Y} {X : aw_X} {A : aw_H} {Q : Option Value → aw_H → Prop} {ls : aw_L} {d mc ms m2 s2 kc ks pc : Nat} {v1 v2 : Int32} {st : List Value} (hy : y.1.cls = "AllWaysLaw") (hd : decode y.2.1 pc = .ok (.invokestatic 107, 3)) (hcat : (st.map fun v => v.category).sum ≤ 8) (hm1 : kc + m2 ≤ mc) (hm2 : ks + s2 ≤ ms)
    (hc : aw_CW X d m2 s2 [.ref 0, .int v1, .int v2] A (fun r A' => aw_Z X (d + 1) mc ms y Q (kc + m2) (ks + s2) (pc + 3) ls (r.toList ++ st) A')) : aw_Z X (d + 1) mc ms y Q kc ks pc ls (.int v2 :: .int v1 :: .ref 0 :: st) A := by
  intro p e s m args below meth c F H locs r hR hS hL h1 h2
  have hpre := aw_callPre (av := [.ref 0, .int v1, .int v2]) F hR hS
  have hPS : PreS s H (aw_Pc X [.ref 0, .int v1, .int v2] A) (([.ref 0, .int v1, .int v2] : List Value).map (aw_tv X)) := ⟨aw_blind, hpre⟩
  have hstk : (Value.int v2 :: Value.int v1 :: Value.ref 0 :: st).map (aw_tv X) = (([.ref 0, .int v1, .int v2] : List Value).map (aw_tv X)).reverse ++ st.map (aw_tv X) := rfl
  rw [hstk]
  have hroom : 2 * (F0 m pc r ((([.ref 0, .int v1, .int v2] : List Value).map (aw_tv X)).reverse ++ st.map (aw_tv X))).monitorRoom + ((st.map (aw_tv X)).map fun v => v.category).sum ≤ 8 := by
    rw [aw_cat_map]; exact lv_room hcat
  have own : s.vm.findClass "AllWaysLaw" = some m.cls := hy ▸ F.2.2.2.2.2.1
  have fin : va_Run p X.1 e (aw_rm (d + 1) mc ms) s m args below meth c H locs kc ks m2 s2 (F0 m pc r ((([.ref 0, .int v1, .int v2] : List Value).map (aw_tv X)).reverse ++ st.map (aw_tv X))) (st.map (aw_tv X)) (aw_Qc X (fun r A' => aw_Z X (d + 1) mc ms y Q (kc + m2) (ks + s2) (pc + 3) ls (r.toList ++ st) A') (([.ref 0, .int v1, .int v2] : List Value).map (aw_tv X)).toArray) (aw_fr X) :=
    vx_runSW (nL := y.2.2.1) (n := 3) (own := "AllWaysLaw") (index := 107) (y := y_Law_way.1) (bytes := method_6_code) (maxL := 4) (ret := some .int) (hh := [(0, 6, 7, 27)]) (ws := aw_wsW) (rm := aw_rm d m2 s2) (Pc := aw_Pc X [.ref 0, .int v1, .int v2] A) ⟨F.1, F.2.1, F.2.2.1, own, F.2.2.2.2.1⟩ hc
      ⟨⟨rfl, rfl, Nat.le_refl _, aw_rm_step (by decide), pay_in F.2.2.2.2.1 aw_goodW, List.mem_cons_self⟩, F.2.2.2.2.1 _ wy_cw, F.2.2.2.2.1 _ wy_iniL, ⟨by decide +kernel, by decide +kernel⟩, fun sig h => by
        have h2 := lw_pc
        rw [h] at h2; exact (Option.some.inj h2).symm, F.2.2.2.2.1 _ wy_ml, F.2.2.2.2.1 _ wy_st⟩
      hPS rfl (by rw [List.length_map]; rfl) hL.1 rfl hroom hd ⟨Nat.le_trans hm1 (Nat.le_refl _), Nat.le_trans hm2 (Nat.le_refl _)⟩
  refine aw_behind fin hS fun rv A' H1 locs1 hq hR1 hS1 => ?_
  have := hq p e s m args below meth c F H1 locs1 r hR1 hS1 hL hm1 hm2
  rw [List.map_append] at this
  cases rv <;> exact this
