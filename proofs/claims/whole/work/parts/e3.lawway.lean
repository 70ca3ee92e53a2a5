/-! PART e3: the law's way, of class and of reference -/
section LAWC
variable {X : aw_X} {I : Nat → Nat → Int32} {L : Nat → Nat → Int64} {D : Nat → Nat} {v1 v2 : Int32}
theorem m_isW {d : Nat} {Q : Option Value → aw_H → Prop} {S : PT} {F B T O n i : Nat} {E : Nat → PE} {wl wc wi : Nat → Nat} (h : RWd S F B T O E n wl wc wi I L) (hi : i < n) (hQ : Q (some (.int 1)) (aw_s I L D)) : aw_m X d y_M_isWay [.ref 69, .int (nI i)] (aw_s I L D) Q := by
  have hR := rows_lt h.1.2.2.2.1
  have le := h.2.2.1.2.2.2.2.1.le
  have y1 : I 69 36 = 1 := h.2.2.2.1
  have y2 : I 69 64 = nI n := h.2.2.2.2.2.2.2.1.1
  have m1 : ¬ I 69 36 = 0 := by rw [y1]; decide
  have g1 : ¬ nI i < 0 := nI_pos (by omega)
  have g2 : ¬ nI n ≤ nI i := by rw [nI_leI (by omega) (by omega)]; omega
  exact aw_go rfl rfl (b_M_isWay_0 (fun x => absurd x m1) (fun _ x => absurd x g1) (fun _ _ x => absurd (y2 ▸ x) g2) (fun _ _ _ => hQ))
theorem m_refuse {d : Nat} {Q : Option Value → aw_H → Prop} (hQ : Q (some (.int 0)) (aw_s (aw_u I 69 0 1) L D)) : aw_m X d y_M_refuse [.ref 69] (aw_s I L D) Q := aw_go rfl rfl (b_M_refuse_0 hQ)
theorem c_M_wayX {d : Nat} {Q : Option Value → aw_H → Prop} (w : (∀ d Q, Q (some (.int 0)) (aw_s I L D) → aw_m X d y_M_isWay [.ref 69, .int v1] (aw_s I L D) Q) ∨ ((∀ d Q, Q (some (.int 1)) (aw_s I L D) → aw_m X d y_M_isWay [.ref 69, .int v1] (aw_s I L D) Q) ∧ (v2 < 0 ∨ 5 < v2))) (hQ : Q (some (.int 0)) (aw_s (aw_u I 69 0 1) L D)) : aw_m X (d + 1) y_M_way [.ref 69, .int v1, .int v2] (aw_s I L D) Q := by
  have hr : aw_Z X (d + 1) 0 0 y_M_way Q 0 0 17 [some (.ref 69), none, none, none] [] (aw_s I L D) := b_M_way_17 (m_refuse (b_M_way_21 hQ))
  rcases w with w | ⟨w, h⟩
  · exact aw_go rfl rfl (b_M_way_0 (w _ _ (b_M_way_5 (fun _ => hr) (fun z => absurd rfl z))))
  · refine aw_go rfl rfl (b_M_way_0 (w _ _ (b_M_way_5 (fun z => absurd z (by decide)) (fun _ => c_M_isIn ?_))))
    have e : p_b (decide ((0 : Int32) ≤ v2) && decide (v2 ≤ 5)) = 0 := by
      rw [pb_t, isInB]
      rintro ⟨a, b⟩
      exact h.elim a b
    rw [e]
    have no : ∀ {P : Prop}, ¬ (0 : Int32) = 0 → P := fun a => absurd rfl a
    exact b_M_way_14 (fun a => no a) (fun a => no a) (fun a => no a) (fun a => no a) (fun a => no a) (fun a => no a) (fun a => no a) (fun a => no a) (fun a => no a) (fun a => no a) (fun a => no a) (fun a => no a) (fun _ => hr)
theorem way_cases (hl : X.1.stackTraces = false) (hK : RWk I L) :
    (∃ x : Int32, (∀ (PX : Prop) (Q : Option Value → aw_H → Prop), Q (some (.int x)) (aw_s I L D) → aw_CX X 2046 y_AW_way [.ref 0, .int v1, .int v2] (aw_s I L D) PX Q) ∧
      ∀ (Q : Option Value → aw_H → Prop) (L' : Nat → Nat → Int64), (∀ o, o ≠ 115 → L' o = L o) → Q (some (.int x)) (aw_s (aw_u I 69 0 0) L' D) → aw_m X 2047 y_M_way [.ref 69, .int v1, .int v2] (aw_s I L' D) Q) ∨
    ((∀ (PX : Prop) (Q : Option Value → aw_H → Prop), PX → aw_CX X 2046 y_AW_way [.ref 0, .int v1, .int v2] (aw_s I L D) PX Q) ∧
      ∀ Q : Option Value → aw_H → Prop, Q (some (.int 0)) (aw_s (aw_u I 69 0 1) L D) → aw_m X 2047 y_M_way [.ref 69, .int v1, .int v2] (aw_s I L D) Q) := by
  rcases c_isWay (X := X) (D := D) (v1 := v1) hK with ⟨S, F, B, T, O, E, n, wl, wc, wi, i, h, hi, rfl, -, wK, wM⟩ | ⟨wK, wM⟩
  · rcases i32_R (show 6 < 2 ^ 31 by decide) v2 with g | ⟨k, hk, rfl, -, -⟩
    · have g5 : v2 < 0 ∨ 5 < v2 := by
        rcases g with g | ⟨a, g⟩
        · exact Or.inl g
        · obtain ⟨j, hj, rfl⟩ := nI_of a
          rw [show nI 6 ≤ nI j ↔ 6 ≤ j from nI_leI (by decide) hj] at g
          refine Or.inr ?_
          rw [show (5 : Int32) = nI 5 from rfl, nI_ltI (by decide) hj]; omega
      exact Or.inr ⟨fun PX Q hPX => c_AW_wayX (d := 2040) hPX hl (Or.inr ⟨wK, g5⟩), fun Q hQ => c_M_wayX (d := 2046) (Or.inr ⟨fun d Q q => wM d Q I rfl rfl q, g5⟩) hQ⟩
    · refine Or.inl ⟨_, fun PX Q hQ => c_AW_wayR (d := 2040) h hi hk wK hQ, fun Q L' hL' hQ => ?_⟩
      have h' : RWd S F B T O E n wl wc wi I L' := h.fr (fun _ _ => rfl) (fun _ _ _ => rfl) (fun o p q => hL' o (by omega)) (fun _ _ => rfl) (KSl.same (fun _ _ _ => rfl)) (fun _ _ _ => rfl) (fun o p => hL' o (by omega))
      exact c_M_way1 (d := 2046) h' hi hk (fun d Q q => m_isW h' hi q) hQ
  · exact Or.inr ⟨fun PX Q hPX => c_AW_wayX (d := 2040) hPX hl (Or.inl wK), fun Q hQ => c_M_wayX (d := 2046) (Or.inl (fun d Q q => wM d Q I rfl rfl q)) hQ⟩
end LAWC
/-- the law's call of its own way -/
theorem aw_goodW : GoodIn aw_T aw_wsW := by
  intro w hw
  rcases List.mem_cons.mp hw with rfl | hw
  · exact ⟨wy_cw, aw_goodT wy_cw⟩
  · exact ⟨hw, aw_goodT hw⟩
theorem z_callW {X : aw_X} {A : aw_H} {Q : Option Value → aw_H → Prop} {ls : aw_L} {kc ks : Nat} {v1 v2 : Int32} (hm1 : kc + 1 ≤ 601024) (hm2 : ks + 6 ≤ 7293034)
    (hc : aw_CW X 2047 [.ref 0, .int v1, .int v2, .ref 115] A (fun r A' => aw_Z X 2048 601024 7293034 y_Law_law Q (kc + 1) (ks + 6) 427 ls (r.toList ++ []) A')) : aw_Z X 2048 601024 7293034 y_Law_law Q kc ks 424 ls [.ref 115, .int v2, .int v1, .ref 0] A := by
  intro p e s m args below meth c F H locs r hR hS hL h1 h2
  have hpre := aw_callPre (av := [.ref 0, .int v1, .int v2, .ref 115]) F hR hS
  have hPS : PreS s H (aw_Pc X [.ref 0, .int v1, .int v2, .ref 115] A) (([.ref 0, .int v1, .int v2, .ref 115] : List Value).map (aw_tv X)) := ⟨aw_blind, hpre⟩
  have fin : va_Run p X.1 e (aw_rm 2048 601024 7293034) s m args below meth c H locs kc ks 1 6 (F0 m 424 r ((([.ref 0, .int v1, .int v2, .ref 115] : List Value).map (aw_tv X)).reverse ++ [])) [] (aw_Qc X (fun r A' => aw_Z X 2048 601024 7293034 y_Law_law Q (kc + 1) (ks + 6) 427 ls (r.toList ++ []) A') (([.ref 0, .int v1, .int v2, .ref 115] : List Value).map (aw_tv X)).toArray) (aw_fr X) :=
    vx_runSW (nL := y_Law_law.2.2.1) (n := 4) (own := "AllWaysLaw") (index := 48) (y := y_Law_way.1) (bytes := method_3_code) (maxL := 5) (ret := some .int) (hh := [(0, 10, 13, 13)]) (ws := aw_wsW) (rm := aw_rm 2047 1 6) (Pc := aw_Pc X [.ref 0, .int v1, .int v2, .ref 115] A) ⟨F.1, F.2.1, F.2.2.1, F.2.2.2.2.2.1, F.2.2.2.2.1⟩ hc
      ⟨⟨rfl, rfl, Nat.le_refl _, aw_rm_step (by decide), pay_in F.2.2.2.2.1 aw_goodW, List.mem_cons_self⟩, F.2.2.2.2.1 _ wy_cw, F.2.2.2.2.1 _ w_131, ⟨by decide +kernel, by decide +kernel⟩, fun sig h => by
        have h2 : (parseMethodDescriptor y_Law_way.1.desc).map (fun d => d.parameters.length) = some 4 := by decide +kernel
        rw [h] at h2; exact (Option.some.inj h2).symm, F.2.2.2.2.1 _ wy_ml, F.2.2.2.2.1 _ wy_st⟩
      hPS rfl (by rw [List.length_map]; rfl) hL.1 rfl (lv_room (Nat.le_of_ble_eq_true rfl)) d_Law_law_424 ⟨hm1, hm2⟩
  refine aw_behind fin hS fun rv A' H1 locs1 hq hR1 hS1 => ?_
  have := hq p e s m args below meth c F H1 locs1 r hR1 hS1 hL hm1 hm2
  rw [List.map_append] at this
  cases rv <;> exact this
theorem RelC_L {I : Nat → Nat → Int32} {L L' : Nat → Nat → Int64} {D : Nat → Nat} (h : RelC I L D) (g : ∀ o, o ≠ 115 → L' o = L o) : RelC I L' D := by
  obtain ⟨a1, a2, a3, a4, a5, a6, a7, a8, a9, a10, a11, a12, a13, a14, a15⟩ := h
  exact ⟨a1, a2, a3, a4, a5, a6, RWk_n a7 (fun _ _ _ => rfl) (fun o k hn => congrFun (g o (by omega)) k) (KSl.same (fun _ _ _ => rfl)), a8, a9, a10, a11, a12, a13, a14, a15⟩
theorem Rel_L {I : Nat → Nat → Int32} {L L' : Nat → Nat → Int64} {D : Nat → Nat} (h : Rel I L D) (g : ∀ o, o ≠ 115 → L' o = L o) : Rel I L' D := by
  obtain ⟨⟨pg, p⟩, c⟩ := h
  exact ⟨⟨pg, RP_n p (fun _ _ _ => rfl) (fun o k q => congrFun (g o (by omega)) k)⟩, RelC_L c g⟩
theorem Rel_z1 {I : Nat → Nat → Int32} {L : Nat → Nat → Int64} {D : Nat → Nat} (h : Rel I L D) : Rel (aw_u I 69 0 1) L D := by
  obtain ⟨⟨pg, p⟩, h⟩ := h
  have hb := p.d4
  have i : ∀ o k, ¬ (o = 69 ∧ k = 0) → aw_u I 69 0 1 o k = I o k := fun o k p => au_ok (by omega)
  have k4 : KSl 4 I (aw_u I 69 0 1) := KSl_n (fun o k p => i o k (by omega))
  have k6 : KSl 6 I (aw_u I 69 0 1) := KSl_n (fun o k p => i o k (by omega))
  refine ⟨⟨pg, RP_n p (fun o k q => i o k (by omega)) (fun _ _ _ => rfl)⟩, ?_⟩
  obtain ⟨a1, a2, a3, a4, a5, a6, a7, a8, a9, a10, a11, a12, a13, a14, a15⟩ := h
  exact ⟨RT_n a1 (fun o k hn => i o k (by omega)), RBy_n a2 (fun o k hn => i o k (by omega)), RF_n a3 (fun o k hn => i o k (by omega)), RSz_n a4 (fun o k hn => i o k (by omega)), RCl_n a5 (fun o k hn => i o k (by omega)) k6, RPw_n a6 (fun o k hn => i o k (by omega)), RWk_n a7 (fun o k hn => i o k (by omega)) (fun _ _ _ => rfl) k4, RRow_n a8 (fun o k hn => i o k (by omega)), RRow_n a9 (fun o k hn => i o k (by omega)), RRow_n a10 (fun o k hn => i o k (by omega)), RGt_n a11 (fun o k hn => i o k (by omega)), (i 69 48 (by omega)).trans a12, (i 4 19 (by omega)).trans a13, by rw [i 0 12 (by omega), i 69 72 (by omega)]; exact a14, by rw [i 0 15 (by omega), i 69 73 (by omega)]; exact a15⟩
abbrev lwM (i : Nat) (k : Int32) : aw_L := [some (.ref 1005), some (.ref 0), some (.ref 69), some (.ref 115), some (.int (nI i)), some (.int k), none]
abbrev lwN (i : Nat) (k b : Int32) : aw_L := [some (.ref 1005), some (.ref 0), some (.ref 69), some (.ref 115), some (.int (nI i)), some (.int k), some (.int b)]
theorem lwN_z {X : aw_X} {Q : Option Value → aw_H → Prop} {A : aw_H} {i kc ks : Nat} {k b : Int32} (h : aw_Z X 2048 601024 7293034 y_Law_law Q kc ks 1272 (lwL i) [] A) : aw_Z X 2048 601024 7293034 y_Law_law Q kc ks 475 (lwN i k b) [] A :=
  z_goto (tgt := 1272) d_Law_law_475 rfl (aw_Z.weak (ls' := lwL i) h (Nat.le_of_ble_eq_true rfl) ⟨Or.inr rfl, Or.inr rfl, Or.inr rfl, Or.inr rfl, Or.inr rfl, Or.inl rfl, Or.inl rfl, trivial⟩)
theorem m_thrown {X : aw_X} {d : Nat} {Q : Option Value → aw_H → Prop} {I : Nat → Nat → Int32} {L : Nat → Nat → Int64} {D : Nat → Nat} (hQ : Q (some (.int (I 69 0))) (aw_s I L D)) : aw_m X d y_M_thrown [.ref 69] (aw_s I L D) Q := aw_go rfl rfl (b_M_thrown_0 hQ)
theorem lc_6 {X : aw_X} {Q : Option Value → aw_H → Prop} {I : Nat → Nat → Int32} {L : Nat → Nat → Int64} {D : Nat → Nat} {i kc ks : Nat} (hl : X.1.stackTraces = false) (hL : aw_xl X ≤ 3072) (hi : i + 6 ≤ aw_xl X) (h : Rel I L D) (hc : kc + 1 ≤ 601024) (hs : ks + 6 ≤ 7293034) (hk : ∀ I2 L2 D2, Rel I2 L2 D2 → aw_Z X 2048 601024 7293034 y_Law_law Q (kc + 1) (ks + 6) 1272 (lwL i) [] (aw_s I2 L2 D2)) : aw_Z X 2048 601024 7293034 y_Law_law Q kc ks 410 (lwL i) [] (aw_s I L D) := by
  refine s_Law_law_410.go (lwL i) [.int (nI i + (1 : Int32)), .ref 1005, .ref 0] (aw_s I L D) rfl ?_
  refine z_sald (law_vp 1 (by decide) hi hL) d_Law_law_416 ?_
  refine s_Law_law_417.go (lwL i) [.int (nI i + (2 : Int32)), .ref 1005, .int (xa X i 1), .ref 0] (aw_s I L D) rfl ?_
  refine z_sald (law_vp 2 (by decide) hi hL) d_Law_law_422 ?_
  refine s_Law_law_423.go (lwL i) [.ref 115, .int (xa X i 2), .int (xa X i 1), .ref 0] (aw_s I L D) rfl ?_
  refine z_callW hc hs ?_
  -- behind the class's call, k known
  have rest : ∀ (k b : Int32) (I2 : Nat → Nat → Int32) (L1 : Nat → Nat → Int64), (∀ Q2 : Option Value → aw_H → Prop, Q2 (some (.int b)) (aw_s I2 L1 D) → aw_m X 2047 y_M_way [.ref 69, .int (xa X i 1), .int (xa X i 2)] (aw_s I L1 D) Q2) → I2 69 0 = k → (k = 0 → L1 115 0 = b.toInt64) → Rel I2 L1 D →
      aw_Z X 2048 601024 7293034 y_Law_law Q (kc + 1) (ks + 6) 427 (lwL i) [.int k] (aw_s I L1 D) := by
    intro k b I2 L1 hM hk0 hb hR
    refine s_Law_law_427.go (lwM i k) [.int (nI i + (1 : Int32)), .ref 1005, .ref 69] (aw_s I L1 D) rfl ?_
    refine z_sald (law_vp 1 (by decide) hi hL) d_Law_law_435 ?_
    refine s_Law_law_436.go (lwM i k) [.int (nI i + (2 : Int32)), .ref 1005, .int (xa X i 1), .ref 69] (aw_s I L1 D) rfl ?_
    refine z_sald (law_vp 2 (by decide) hi hL) d_Law_law_441 ?_
    refine z_callV (d := 2047) (mc2 := 0) (ms2 := 0) (av := [.int (xa X i 1), .int (xa X i 2)]) (st := []) ok_M_way (Or.inl w_1967) w_1968 w_1969 k_M d_Law_law_442 rfl (aw_lt (o := 69) rfl) rfl rfl (Nat.le_of_ble_eq_true rfl) hc hs (hM _ ?_)
    refine s_Law_law_445.go (lwN i k b) [.ref 69] (aw_s I2 L1 D) rfl ?_
    refine z_callV (d := 2047) (mc2 := 0) (ms2 := 0) (av := []) (st := []) ok_M_thrown (Or.inl w_1721) w_1722 w_1723 k_M d_Law_law_448 rfl (aw_lt (o := 69) rfl) rfl rfl (Nat.le_of_ble_eq_true rfl) hc hs (m_thrown ?_)
    rw [hk0]
    refine s_Law_law_451.go (lwN i k b) [.int k, .int k] (aw_s I2 L1 D) rfl ?_
    refine z_icmp_eq (tgt := 458) d_Law_law_453 rfl (fun _ => ?_) (fun q => absurd rfl q)
    refine s_Law_law_458.go (lwN i k b) [.int k] (aw_s I2 L1 D) rfl ?_
    refine z_if_ne (tgt := 475) d_Law_law_460 rfl (fun _ => lwN_z (hk _ _ _ hR)) (fun q => ?_)
    refine s_Law_law_463.go (lwN i k b) [.int 0, .ref 115] (aw_s I2 L1 D) rfl ?_
    refine z_lald (o := 115) (n := 1) rfl (aw_lt (o := 115) rfl) (aw_lin (by decide) (by decide)) d_Law_law_465 ?_
    refine s_Law_law_466.go (lwN i k b) [.int (lg_cmp (L1 115 0) b.toInt64)] (aw_s I2 L1 D) rfl ?_
    refine z_if_eq (tgt := 475) d_Law_law_470 rfl (fun _ => lwN_z (hk _ _ _ hR)) (fun q2 => absurd ?_ q2)
    rw [hb q]
    unfold lg_cmp
    simp
  rcases way_cases (D := D) (v1 := xa X i 1) (v2 := xa X i 2) hl h.2.2.2.2.2.2.2.1 with ⟨x, hK, hM⟩ | ⟨hK, hM⟩
  · refine c_Law_way (d := 2040) (PX := False) (hK _ _ ⟨x, rfl, rfl, ?_⟩) (fun z => z.elim)
    have gl : ∀ o, o ≠ 115 → aw_u L 115 0 x.toInt64 o = L o := fun o ho => au_o ho
    refine rest 0 x (aw_u I 69 0 0) _ (fun Q2 hQ2 => hM Q2 _ gl hQ2) (au_s _ _ _ _) (fun _ => au_s _ _ _ _) (Rel_z (Rel_L h gl))
  · refine c_Law_way (d := 2040) (PX := True) (hK _ _ trivial) (fun _ => ?_)
    exact rest 1 0 (aw_u I 69 0 1) L (fun Q2 hQ2 => hM Q2 hQ2) (au_s _ _ _ _) (fun q => absurd q (by decide)) (Rel_z1 h)
