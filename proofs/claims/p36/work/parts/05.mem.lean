/-! PART 05: fields, arrays, branches, ends, calls, what is made -/
def aw_cls (ci : Nat) (C : String) (T : u_T) (N : Nat) : Prop := aw_cl[ci]? = some (C, T, N) ∧ aw_nf ci = N ∧ (∀ w ∈ u_ws C T N, w ∈ aw_T) ∧ (∀ k, k < N → parseFieldDescriptor (T k).2.2.1 = some (aw_ty ci k)) ∧ (∀ a, a < N → ∀ b, b < N → a ≠ b → (T a).2.1 ≠ (T b).2.1) ∧ ci < 20
theorem aw_good {C : String} {T : u_T} {N : Nat} (h : ∀ w ∈ u_ws C T N, w ∈ lw_tbl) : ∀ w ∈ u_ws C T N, w ∈ aw_T := by
  intro w hw
  refine List.mem_filter.mpr ⟨h w hw, ?_⟩
  obtain ⟨k, -, rfl⟩ := List.mem_map.mp hw
  unfold u_lay; split <;> rfl
theorem k_AW : aw_cls 0 "AllWays" T_AW 18 := ⟨rfl, rfl, aw_good i_AW, ty_AW_ok, n_AW, by decide⟩
theorem k_Sz : aw_cls 1 "AllWays$Sizes" T_Sz 3 := ⟨rfl, rfl, aw_good i_Sz, ty_Sz_ok, n_Sz, by decide⟩
theorem k_Tp : aw_cls 2 "AllWays$Tape" T_Tp 2 := ⟨rfl, rfl, aw_good i_Tp, ty_Tp_ok, n_Tp, by decide⟩
theorem k_Mc : aw_cls 3 "AllWays$Machine" T_Mc 20 := ⟨rfl, rfl, aw_good i_Mc, ty_Mc_ok, n_Mc, by decide⟩
theorem k_Wk : aw_cls 4 "AllWays$Walked" T_Wk 17 := ⟨rfl, rfl, aw_good i_Wk, ty_Wk_ok, n_Wk, by decide⟩
theorem k_Pf : aw_cls 5 "AllWays$Proofs" T_Pf 9 := ⟨rfl, rfl, aw_good i_Pf, ty_Pf_ok, n_Pf, by decide⟩
theorem k_Cd : aw_cls 6 "AllWays$Code" T_Cd 11 := ⟨rfl, rfl, aw_good i_Cd, ty_Cd_ok, n_Cd, by decide⟩
theorem k_Ps : aw_cls 7 "AllWays$Parser" T_Ps 5 := ⟨rfl, rfl, aw_good i_Ps, ty_Ps_ok, n_Ps, by decide⟩
theorem k_Tk : aw_cls 8 "AllWays$Tokens" T_Tk 9 := ⟨rfl, rfl, aw_good i_Tk, ty_Tk_ok, n_Tk, by decide⟩
theorem aw_ad_in {X : aw_X} {o : Nat} (h : o < aw_K) : aw_ad X o = X.2.2.2.1 + o := by simp [aw_ad, h]
theorem aw_ent_o {X : aw_X} {A : aw_H} {o ci : Nat} (h : (aw_sh o).1 = ci) (hc : ci < 20) : aw_ent X A o = .inr (ci, aw_fs X A o ci) := by
  subst h; unfold aw_ent; rw [if_pos hc]
theorem aw_ent_i {X : aw_X} {A : aw_H} {o n : Nat} (h : aw_sh o = (20, n)) : aw_ent X A o = .inl (X.2.2.1.1, n, .inl (A.1 o)) := by
  unfold aw_ent; rw [h]; rfl
theorem aw_ent_l {X : aw_X} {A : aw_H} {o n : Nat} (h : aw_sh o = (21, n)) : aw_ent X A o = .inl (X.2.2.1.2.1, n, .inr (.inl (A.2.1 o))) := by
  unfold aw_ent; rw [h]; rfl
theorem aw_ent_z {X : aw_X} {A : aw_H} {o n : Nat} (h : aw_sh o = (22, n)) : aw_ent X A o = .inl (X.2.2.1.2.2.1, n, .inl (A.1 o)) := by
  unfold aw_ent; rw [h]; rfl
theorem aw_ent_q {X : aw_X} {A : aw_H} {o n : Nat} (h : aw_sh o = (23, n)) : aw_ent X A o = .inl (X.2.2.1.2.2.2, n, .inr (.inr (.inr (.inr (fun k => (A.2.2.1 o k).map (aw_ad X)))))) := by
  unfold aw_ent; rw [h]; rfl
theorem aw_fs_at {X : aw_X} {A : aw_H} {o ci k : Nat} (h : k < aw_nf ci) : (aw_fs X A o ci)[k]? = some (aw_fv X A o k (aw_ty ci k)) := by simp [aw_fs, h]
theorem aw_fs_len {X : aw_X} {A : aw_H} {o ci : Nat} : (aw_fs X A o ci).length = aw_nf ci := by simp [aw_fs]
theorem aw_fs_set {X : aw_X} {A A' : aw_H} {o ci k : Nat} {v : Value} (h : aw_fv X A' o k (aw_ty ci k) = v) (hO : ∀ j, j ≠ k → aw_fv X A' o j (aw_ty ci j) = aw_fv X A o j (aw_ty ci j)) : aw_fs X A' o ci = (aw_fs X A o ci).set k v := by
  apply List.ext_getElem?
  intro j
  rw [List.getElem?_set, aw_fs_len]
  by_cases hj : k = j
  · subst hj
    by_cases hl : k < aw_nf ci
    · rw [if_pos rfl, if_pos hl, aw_fs_at hl, h]
    · rw [if_pos rfl, if_neg hl, List.getElem?_eq_none (by rw [aw_fs_len]; omega)]
  · rw [if_neg hj]
    by_cases hl : j < aw_nf ci
    · rw [aw_fs_at hl, aw_fs_at hl, hO j (fun q => hj q.symm)]
    · rw [List.getElem?_eq_none (by rw [aw_fs_len]; omega), List.getElem?_eq_none (by rw [aw_fs_len]; omega)]
def aw_lk (y : aw_Y) (i : Nat) (a b c : String) : Prop := Cond.fieldLink y.1.cls i a b c ∈ aw_T ∨ ∃ h, Cond.fieldLinkNest y.1.cls i a b c h ∈ aw_N
section MEM
variable {y : aw_Y} {pc : Nat} {X : aw_X} {d mc ms : Nat} {Q : Option Value → aw_H → Prop} {kc ks : Nat} {ls : aw_L} {st : List Value} {A : aw_H}
theorem aw_Rep.lt {H : Heap} (h : aw_Rep X A H) {o : Nat} (ho : aw_ex A o) : o < aw_K := Nat.lt_of_lt_of_le (h.ex ho) h.2.1
theorem z_get {ci k idx o N : Nat} {C : String} {T : u_T} (K : aw_cls ci C T N) (hk : k < N) (hl : aw_lk y idx (T k).1 (T k).2.1 (T k).2.2.1) (hd : decode y.2.1 pc = .ok (.getfield idx, 3)) (ho : (aw_sh o).1 = ci) (hn : aw_ex A o) {v : Value} (hv : ∀ X, aw_fv X A o k (aw_ty ci k) = aw_tv X v)
    (kk : aw_Z X d mc ms y Q kc ks (pc + 3) ls (v :: st) A) : aw_Z X d mc ms y Q kc ks pc ls (.ref o :: st) A := by
  intro p e s m args below meth c F H locs r hR hS hL h1 h2
  have k1 := kk p e s m args below meth c F H locs r hR hS hL h1 h2
  obtain ⟨c1, c2, c3, c4, c5, c6⟩ := K
  have ha : aw_tv X (.ref o) = .ref (X.2.2.2.1 + o) := by show Value.ref _ = _; rw [aw_ad_in (hR.lt hn)]
  rw [List.map_cons, ha]
  rw [List.map_cons] at k1
  have he : (aw_w X A)[o]? = some (X.2.2.2.1 + o, .inr (ci, aw_fs X A o ci)) := by rw [aw_w_at (hR.ex hn), aw_ent_o ho c6]
  have hf : (aw_fs X A o ci)[k]? = some (aw_tv X v) := by rw [aw_fs_at (by omega), hv]
  rcases hl with hl | ⟨h, hl⟩
  · exact va_get F.1 F.2.1 F.2.2.2.2.1 c3 F.2.2.2.2.2.1 F.2.2.2.2.2.2.2.2.1.1 hR.1 o he c1 k hk (F.2.2.2.2.1 _ hl) (fun _ h => h) hf hd k1
  · exact va_getN F.1 F.2.1 F.2.2.2.2.1 c3 F.2.2.2.2.2.1 F.2.2.2.2.2.2.2.2.1.1 hR.1 o he c1 k hk (va_Nw.use rfl (F.2.2.2.2.2.2.2.2.1.2.1 _ hl)) (fun _ h => h) hf hd k1
theorem v_getI {ci k idx N : Nat} {C : String} {T : u_T} (K : aw_cls ci C T N) (hk : k < N) (ht : aw_ty ci k = .int ∨ aw_ty ci k = .boolean) (hl : aw_lk y idx (T k).1 (T k).2.1 (T k).2.2.1) (hd : decode y.2.1 pc = .ok (.getfield idx, 3)) : aw_V y pc (o_getI ci k) (pc + 3) := by
  intro X d mc ms Q kc ks ls st A σ h k
  unfold o_getI at h
  split at h
  · rename_i heq; cases heq
    split at h
    · split at h
      · cases h
        exact z_get K hk hl hd (by assumption) (by assumption) (fun X => by rcases ht with ht | ht <;> rw [ht] <;> rfl) k
      · cases h
    · cases h
  · cases h
theorem v_getJ {ci k idx N : Nat} {C : String} {T : u_T} (K : aw_cls ci C T N) (hk : k < N) (ht : aw_ty ci k = .long) (hl : aw_lk y idx (T k).1 (T k).2.1 (T k).2.2.1) (hd : decode y.2.1 pc = .ok (.getfield idx, 3)) : aw_V y pc (o_getJ ci k) (pc + 3) := by
  intro X d mc ms Q kc ks ls st A σ h k
  unfold o_getJ at h
  split at h
  · rename_i heq; cases heq
    split at h
    · split at h
      · cases h
        exact z_get K hk hl hd (by assumption) (by assumption) (fun X => by rw [ht]; rfl) k
      · cases h
    · cases h
  · cases h
def aw_isR : FieldType → Bool
  | .object _ => true
  | .array _ => true
  | _ => false
theorem aw_fv_r {X : aw_X} {A : aw_H} {o k : Nat} {t : FieldType} (h : aw_isR t = true) : aw_fv X A o k t = aw_tv X (aw_rv (A.2.2.1 o k)) := by
  cases t <;> simp [aw_isR] at h <;> (unfold aw_fv; cases A.2.2.1 o k <;> rfl)
theorem v_getA {ci k idx N : Nat} {C : String} {T : u_T} (K : aw_cls ci C T N) (hk : k < N) (ht : aw_isR (aw_ty ci k) = true) (hl : aw_lk y idx (T k).1 (T k).2.1 (T k).2.2.1) (hd : decode y.2.1 pc = .ok (.getfield idx, 3)) : aw_V y pc (o_getA ci k) (pc + 3) := by
  intro X d mc ms Q kc ks ls st A σ h k
  unfold o_getA at h
  split at h
  · rename_i heq; cases heq
    split at h
    · split at h
      · cases h
        exact z_get K hk hl hd (by assumption) (by assumption) (fun X => aw_fv_r ht) k
      · cases h
    · cases h
  · cases h
/-- a field is written: a final one in a constructor alone -/
theorem z_put {ci k idx o N : Nat} {C : String} {T : u_T} (K : aw_cls ci C T N) (hk : k < N) (hl : ((T k).2.2.2 = false ∧ aw_lk y idx (T k).1 (T k).2.1 (T k).2.2.1) ∨ ((T k).2.2.2 = true ∧ y.1.name = "<init>" ∧ (T k).1 = y.1.cls ∧ Cond.fieldLink y.1.cls idx (T k).1 (T k).2.1 (T k).2.2.1 ∈ aw_T)) (hd : decode y.2.1 pc = .ok (.putfield idx, 3)) (ho : (aw_sh o).1 = ci) (hn : aw_ex A o) {v : Value} {A' : aw_H}
    (hA1 : A'.2.2.2 = A.2.2.2) (hv : ∀ X, aw_fv X A' o k (aw_ty ci k) = aw_tv X v) (hO : ∀ X j, j ≠ k → aw_fv X A' o j (aw_ty ci j) = aw_fv X A o j (aw_ty ci j)) (hO2 : ∀ j, j ≠ o → A'.1 j = A.1 j ∧ A'.2.1 j = A.2.1 j ∧ A'.2.2.1 j = A.2.2.1 j)
    (hnr : ∀ X, narrow (aw_ty ci k) (aw_tv X v) = aw_tv X v) (hft : ∀ X, fits (aw_ty ci k) (aw_tv X v) = true)
    (kk : aw_Z X d mc ms y Q kc ks (pc + 3) ls st A') : aw_Z X d mc ms y Q kc ks pc ls (v :: .ref o :: st) A := by
  intro p e s m args below meth c F H locs r hR hS hL h1 h2
  obtain ⟨c1, c2, c3, c4, c5, c6⟩ := K
  have ha : aw_tv X (.ref o) = .ref (X.2.2.2.1 + o) := by show Value.ref _ = _; rw [aw_ad_in (hR.lt hn)]
  rw [List.map_cons, List.map_cons, ha]
  have he : (aw_w X A)[o]? = some (X.2.2.2.1 + o, .inr (ci, aw_fs X A o ci)) := by rw [aw_w_at (hR.ex hn), aw_ent_o ho c6]
  have hfl : k < (aw_fs X A o ci).length := by rw [aw_fs_len]; omega
  have hw : (aw_w X A).set o (X.2.2.2.1 + o, .inr (ci, (aw_fs X A o ci).set k (aw_tv X v))) = aw_w X A' :=
    aw_w_set (by rw [hA1]) (by rw [aw_ent_o ho c6, aw_fs_set (hv X) (hO X)]) hO2
  have go : ∀ (H1 : Heap) (locs1 : List Loc), H1.size = H.size → va_P X.2.1 aw_cl (aw_w X A') H1 → va_S (aw_fr X) s.heap H1 locs1 → W p X.1 e (aw_rm d mc ms) s m args below meth c H1 locs1 kc ks (MQ below (aw_Qc X Q) args s mc ms (aw_fr X)) (F0 m (pc + 3) r (st.map (aw_tv X))) :=
    fun H1 locs1 z hP1 hS1 => kk p e s m args below meth c F H1 locs1 r ⟨hP1, by rw [hA1]; exact hR.2.1, by rw [hA1, z]; exact hR.2.2⟩ hS1 hL h1 h2
  have hap := va_apart (own := y.1.cls) F.2.2.2.2.1 c3 (aw_ty ci) c4 c5 F.2.2.2.2.2.2.2.2.1.1 c1
  have hP := hR.1
  have hK := F.2.2.2.2.2.2.2.2.1.1
  obtain ⟨q', g1, cell, q1, q2, q3, q4⟩ := hP o _ he
  have hr : q' = (C, T, N) := Option.some.inj (g1.symm.trans c1)
  subst hr
  obtain ⟨hSl, hfc, kC, hkC, hkind⟩ := hK.1 ci _ c1
  obtain ⟨cf, kf, fi, f, hi, hsl⟩ := hSl k hk
  have hst := (u_facts hfc hkC (u_lays F.2.2.2.2.1 c3 hk) hi).1
  have fin : ∀ H' : Heap, H'[X.2.2.2.1 + o]? = some (cell.setSlot (X.2.1.2 ci k) (aw_tv X v)) → H'.size = H.size → (∀ q, q ≠ X.2.2.2.1 + o → H'[q]? = H[q]?) → va_P X.2.1 aw_cl (aw_w X A') H' := fun H' e1 e2 e3 => by
    rw [← hw]
    exact hP.set (aw_w_D X A) he ⟨_, c1, t_OB.to (V := updV (vp_V (aw_fs X A o ci)) k (aw_tv X v)) ⟨_, e1, q2, q3, t_set q4 hap hk (aw_tv X v)⟩ (fun j _ => vp_updV_set hfl (aw_tv X v) j)⟩ e3
  rcases hl with ⟨hfin, hl⟩ | ⟨hfin, hnm, hdecl, hl⟩
  · have hlay := F.2.2.2.2.1 _ (c3 _ (u_in_lay hk))
    unfold u_lay at hlay
    rw [if_neg (by rw [hfin]; decide)] at hlay
    have h6 := u_store hfc hkC hkind hlay hi (c4 k hk) (hnr X) (hft X)
    rcases hl with hl | ⟨h, hl⟩
    · refine W.putK F.1 F.2.1 (f := f) ⟨F.2.2.2.2.2.1, F.2.2.2.2.1 _ hl, ⟨_, _, _, hi⟩, hst⟩ (by rw [q2]; exact h6) q1 q3 (by rw [hsl]; exact k2_hasslot (q4 k hk)) rfl rfl hd fun H' e1 e2 e3 => ?_
      rw [hsl] at e1 ⊢
      exact go H' _ e2 (fin H' e1 e2 e3) (hS.put e2 e3 ((aw_w_D X A).2 o _ he))
    · refine va_WputK F.1 F.2.1 (f := f) F.2.2.2.2.2.1 (va_Nw.use rfl (F.2.2.2.2.2.2.2.2.1.2.1 _ hl)) hi hst (by rw [q2]; exact h6) q1 q3 (by rw [hsl]; exact k2_hasslot (q4 k hk)) rfl rfl hd fun H' e1 e2 e3 => ?_
      rw [hsl] at e1 ⊢
      exact go H' _ e2 (fin H' e1 e2 e3) (hS.put e2 e3 ((aw_w_D X A).2 o _ he))
  · have hlay := F.2.2.2.2.1 _ (c3 _ (u_in_lay hk))
    unfold u_lay at hlay
    rw [if_pos hfin] at hlay
    have hcf : m.cls = cf := by
      obtain ⟨_, _, c', _, _, _, -, -, hf', -, -, -, hown2, -⟩ := Cond.laysFinal_spec hlay
      have e1 : c' = cf := by have := hi.symm.trans hf'; simp at this; exact this.1.symm
      rw [hdecl] at hown2
      rw [← e1]; exact Option.some.inj (F.2.2.2.2.2.1.symm.trans hown2)
    have h6 := u_fits hfc hkC hkind (Or.inr hlay) hi (c4 k hk) (hnr X) (hft X)
    refine W.putFinK F.1 F.2.1 F.2.2.2.2.2.1 (F.2.2.2.2.1 _ hl) hi hst hcf (F.2.2.2.2.2.2.2.1.trans hnm) (by rw [q2]; exact h6) q1 q3 (by rw [hsl]; exact k2_hasslot (q4 k hk)) rfl rfl hd fun H' e1 e2 e3 => ?_
    rw [hsl] at e1 ⊢
    exact go H' _ e2 (fin H' e1 e2 e3) (hS.put e2 e3 ((aw_w_D X A).2 o _ he))

theorem aw_fv_u1 {X : aw_X} {A : aw_H} {o k k' : Nat} {t : FieldType} {v : Int32} (h : k' ≠ k) : aw_fv X (aw_u A.1 o k v, A.2) o k' t = aw_fv X A o k' t := by
  unfold aw_fv; split <;> simp [aw_u_same, va_up, h]
theorem aw_fv_u2 {X : aw_X} {A : aw_H} {o k k' : Nat} {t : FieldType} {v : Int64} (h : k' ≠ k) : aw_fv X (A.1, aw_u A.2.1 o k v, A.2.2) o k' t = aw_fv X A o k' t := by
  unfold aw_fv; split <;> simp [aw_u_same, va_up, h]
theorem aw_fv_u3 {X : aw_X} {A : aw_H} {o k k' : Nat} {t : FieldType} {v : Option Nat} (h : k' ≠ k) : aw_fv X (A.1, A.2.1, aw_u A.2.2.1 o k v, A.2.2.2) o k' t = aw_fv X A o k' t := by
  unfold aw_fv; split <;> simp [aw_u_same, va_up, h]
def aw_pl (y : aw_Y) (T : u_T) (k idx : Nat) : Prop := ((T k).2.2.2 = false ∧ aw_lk y idx (T k).1 (T k).2.1 (T k).2.2.1) ∨ ((T k).2.2.2 = true ∧ y.1.name = "<init>" ∧ (T k).1 = y.1.cls ∧ Cond.fieldLink y.1.cls idx (T k).1 (T k).2.1 (T k).2.2.1 ∈ aw_T)
theorem v_putI {ci k idx N : Nat} {C : String} {T : u_T} (K : aw_cls ci C T N) (hk : k < N) (ht : aw_ty ci k = .int) (hl : aw_pl y T k idx) (hd : decode y.2.1 pc = .ok (.putfield idx, 3)) : aw_V y pc (o_putI ci k) (pc + 3) := by
  intro X d mc ms Q kc ks ls st A σ h k
  unfold o_putI at h
  split at h
  · rename_i heq; cases heq
    split at h
    · split at h
      · cases h
        exact z_put (A' := (aw_u A.1 _ _ _, A.2)) K hk hl hd (by assumption) (by assumption) rfl (fun X => by rw [ht]; simp [aw_fv, aw_u_same, va_up, aw_tv]) (fun X j hj => aw_fv_u1 hj) (fun j hj => ⟨aw_u_ne _ _ _ hj, rfl, rfl⟩) (fun X => by rw [ht]; rfl) (fun X => by rw [ht]; rfl) k
      · cases h
    · cases h
  · cases h
theorem v_putJ {ci k idx N : Nat} {C : String} {T : u_T} (K : aw_cls ci C T N) (hk : k < N) (ht : aw_ty ci k = .long) (hl : aw_pl y T k idx) (hd : decode y.2.1 pc = .ok (.putfield idx, 3)) : aw_V y pc (o_putJ ci k) (pc + 3) := by
  intro X d mc ms Q kc ks ls st A σ h k
  unfold o_putJ at h
  split at h
  · rename_i heq; cases heq
    split at h
    · split at h
      · cases h
        exact z_put (A' := (A.1, aw_u A.2.1 _ _ _, A.2.2)) K hk hl hd (by assumption) (by assumption) rfl (fun X => by rw [ht]; simp [aw_fv, aw_u_same, va_up, aw_tv]) (fun X j hj => aw_fv_u2 hj) (fun j hj => ⟨rfl, aw_u_ne _ _ _ hj, rfl⟩) (fun X => by rw [ht]; rfl) (fun X => by rw [ht]; rfl) k
      · cases h
    · cases h
  · cases h
theorem v_putA {ci k idx N : Nat} {C : String} {T : u_T} (K : aw_cls ci C T N) (hk : k < N) (ht : aw_isR (aw_ty ci k) = true) (hl : aw_pl y T k idx) (hd : decode y.2.1 pc = .ok (.putfield idx, 3)) : aw_V y pc (o_putA ci k) (pc + 3) := by
  intro X d mc ms Q kc ks ls st A σ h k
  unfold o_putA at h
  split at h
  · rename_i heq; cases heq
    split at h
    · split at h
      · cases h
        refine z_put (A' := (A.1, A.2.1, aw_u A.2.2.1 _ _ _, A.2.2.2)) K hk hl hd (by assumption) (by assumption) rfl (fun X => by rw [aw_fv_r ht]; simp [aw_u_same, va_up, aw_rv]) (fun X j hj => aw_fv_u3 hj) (fun j hj => ⟨rfl, rfl, aw_u_ne _ _ _ hj⟩) (fun X => ?_) (fun X => ?_) k
        · revert ht; cases aw_ty ci _ <;> intro ht <;> first | (simp [aw_isR] at ht; done) | rfl
        · revert ht; cases aw_ty ci _ <;> intro ht <;> first | (simp [aw_isR] at ht; done) | rfl
      · cases h
    · cases h
  · cases h
/-- a boolean field: 0 or 1 -/
theorem z_putZ {ci k idx o N : Nat} {C : String} {T : u_T} {v : Int32} (K : aw_cls ci C T N) (hk : k < N) (ht : aw_ty ci k = .boolean) (hl : aw_pl y T k idx) (hd : decode y.2.1 pc = .ok (.putfield idx, 3)) (ho : (aw_sh o).1 = ci) (hn : aw_ex A o) (hv : v = 0 ∨ v = 1)
    (kk : aw_Z X d mc ms y Q kc ks (pc + 3) ls st (aw_u A.1 o k v, A.2)) : aw_Z X d mc ms y Q kc ks pc ls (.int v :: .ref o :: st) A := by
  refine z_put (A' := (aw_u A.1 o k v, A.2)) K hk hl hd ho hn rfl (fun X => by rw [ht]; simp [aw_fv, aw_u_same, va_up, aw_tv]) (fun X j hj => aw_fv_u1 hj) (fun j hj => ⟨aw_u_ne _ _ _ hj, rfl, rfl⟩) (fun X => by rw [ht]; rcases hv with rfl | rfl <;> rfl) (fun X => by rw [ht]; rcases hv with rfl | rfl <;> rfl) kk
theorem v_alen (hd : decode y.2.1 pc = .ok (.arraylength, 1)) : aw_V y pc o_alen (pc + 1) := by
  intro X d mc ms Q kc ks ls st A σ h k
  unfold o_alen at h
  split at h
  · rename_i ls o st A heq; cases heq
    split at h
    · rename_i hsh
      split at h
      · rename_i hn
        cases h
        intro p e s m args below meth c F H locs r hR hS hL h1 h2
        have k1 := k p e s m args below meth c F H locs r hR hS hL h1 h2
        have ha : aw_tv X (.ref o) = .ref (X.2.2.2.1 + o) := by show Value.ref _ = _; rw [aw_ad_in (hR.lt hn)]
        rw [List.map_cons, ha]
        have he := aw_w_at (X := X) (hR.ex hn)
        have hc : ∀ (cA : ClassId) (x : vp_A) (t0 : Nat) (ty : FieldType), aw_ent X A o = .inl (cA, x) → x.1 = (aw_sh o).2 → (aw_tys X)[t0]? = some (cA, ty) → W p X.1 e (aw_rm d mc ms) s m args below meth c H locs kc ks (MQ below (aw_Qc X Q) args s mc ms (aw_fr X)) (F0 m pc r (.ref (X.2.2.2.1 + o) :: st.map (aw_tv X))) := fun cA x t0 ty e1 e2 e3 =>
          va_alen F.1 F.2.1 F.2.2.2.2.2.2.2.2.1.1 hR.1 o t0 (by rw [he, e1]) e3 (by rw [e2]) hd k1
        by_cases q0 : (aw_sh o).1 = 20
        · exact hc _ _ 0 _ (by unfold aw_ent; rw [if_neg (by omega), if_pos q0]) rfl rfl
        by_cases q1 : (aw_sh o).1 = 21
        · exact hc _ _ 1 _ (by unfold aw_ent; rw [if_neg (by omega), if_neg q0, if_pos q1]) rfl rfl
        by_cases q2 : (aw_sh o).1 = 22
        · exact hc _ _ 2 _ (by unfold aw_ent; rw [if_neg (by omega), if_neg q0, if_neg q1, if_pos q2]) rfl rfl
        · exact hc _ _ 3 _ (by unfold aw_ent; rw [if_neg (by omega), if_neg q0, if_neg q1, if_neg q2]) rfl rfl
      · cases h
    · cases h
  · cases h
/-! elements of arrays: the place is within -/
theorem z_iald {o n : Nat} {i : Int32} (hs : aw_sh o = (20, n)) (hn : aw_ex A o) (hi : vp_in i n) (hd : decode y.2.1 pc = .ok (.iaload, 1)) (kk : aw_Z X d mc ms y Q kc ks (pc + 1) ls (.int (A.1 o i.toNatClampNeg) :: st) A) : aw_Z X d mc ms y Q kc ks pc ls (.int i :: .ref o :: st) A := by
  intro p e s m args below meth c F H locs r hR hS hL h1 h2
  have k1 := kk p e s m args below meth c F H locs r hR hS hL h1 h2
  have ha : aw_tv X (.ref o) = .ref (X.2.2.2.1 + o) := by show Value.ref _ = _; rw [aw_ad_in (hR.lt hn)]
  rw [List.map_cons, List.map_cons, ha]
  exact va_iald F.1 F.2.1 F.2.2.2.2.2.2.2.2.1.1 hR.1 o 0 (by rw [aw_w_at (hR.ex hn), aw_ent_i hs]) rfl hi hd k1
theorem z_lald {o n : Nat} {i : Int32} (hs : aw_sh o = (21, n)) (hn : aw_ex A o) (hi : vp_in i n) (hd : decode y.2.1 pc = .ok (.laload, 1)) (kk : aw_Z X d mc ms y Q kc ks (pc + 1) ls (.long (A.2.1 o i.toNatClampNeg) :: st) A) : aw_Z X d mc ms y Q kc ks pc ls (.int i :: .ref o :: st) A := by
  intro p e s m args below meth c F H locs r hR hS hL h1 h2
  have k1 := kk p e s m args below meth c F H locs r hR hS hL h1 h2
  have ha : aw_tv X (.ref o) = .ref (X.2.2.2.1 + o) := by show Value.ref _ = _; rw [aw_ad_in (hR.lt hn)]
  rw [List.map_cons, List.map_cons, ha]
  exact va_lald F.1 F.2.1 F.2.2.2.2.2.2.2.2.1.1 hR.1 o 1 (by rw [aw_w_at (hR.ex hn), aw_ent_l hs]) rfl hi hd k1
theorem z_aald {o n : Nat} {i : Int32} (hs : aw_sh o = (23, n)) (hn : aw_ex A o) (hi : vp_in i n) (hd : decode y.2.1 pc = .ok (.aaload, 1)) (kk : aw_Z X d mc ms y Q kc ks (pc + 1) ls (aw_rv (A.2.2.1 o i.toNatClampNeg) :: st) A) : aw_Z X d mc ms y Q kc ks pc ls (.int i :: .ref o :: st) A := by
  intro p e s m args below meth c F H locs r hR hS hL h1 h2
  have k1 := kk p e s m args below meth c F H locs r hR hS hL h1 h2
  have ha : aw_tv X (.ref o) = .ref (X.2.2.2.1 + o) := by show Value.ref _ = _; rw [aw_ad_in (hR.lt hn)]
  have hb : aw_tv X (aw_rv (A.2.2.1 o i.toNatClampNeg)) = va_rf ((A.2.2.1 o i.toNatClampNeg).map (aw_ad X)) := by cases A.2.2.1 o i.toNatClampNeg <;> rfl
  rw [List.map_cons, List.map_cons, ha]
  rw [List.map_cons, hb] at k1
  exact va_aldq F.1 F.2.1 F.2.2.2.2.2.2.2.2.1.1 hR.1 o 3 (by rw [aw_w_at (hR.ex hn), aw_ent_q hs]) rfl hi hd k1
theorem aw_Rep.set {H H1 : Heap} {A' : aw_H} {o : Nat} {E : va_E} (h : aw_Rep X A H) (hn : aw_ex A o) (hA : A'.2.2.2 = A.2.2.2) (hE : aw_ent X A' o = E) (hO : ∀ j, j ≠ o → A'.1 j = A.1 j ∧ A'.2.1 j = A.2.1 j ∧ A'.2.2.1 j = A.2.2.1 j)
    (hP : va_P X.2.1 aw_cl ((aw_w X A).set o (X.2.2.2.1 + o, E)) H1) (hz : A.2.2.2.2 = true → H1.size = H.size) : aw_Rep X A' H1 :=
  ⟨by rw [← aw_w_set (by rw [hA]) hE hO]; exact hP, by rw [hA]; exact h.2.1, by rw [hA]; exact ⟨fun q => (hz q).trans (h.2.2.1 q), h.2.2.2⟩⟩
theorem z_iast {o n : Nat} {i x : Int32} (hs : aw_sh o = (20, n)) (hn : aw_ex A o) (hi : vp_in i n) (hd : decode y.2.1 pc = .ok (.iastore, 1)) (kk : aw_Z X d mc ms y Q kc ks (pc + 1) ls st (aw_u A.1 o i.toNatClampNeg x, A.2)) : aw_Z X d mc ms y Q kc ks pc ls (.int x :: .int i :: .ref o :: st) A := by
  intro p e s m args below meth c F H locs r hR hS hL h1 h2
  have ha : aw_tv X (.ref o) = .ref (X.2.2.2.1 + o) := by show Value.ref _ = _; rw [aw_ad_in (hR.lt hn)]
  rw [List.map_cons, List.map_cons, List.map_cons, ha]
  have he : (aw_w X A)[o]? = some (X.2.2.2.1 + o, .inl (X.2.2.1.1, n, .inl (A.1 o))) := by rw [aw_w_at (hR.ex hn), aw_ent_i hs]
  refine W.iast F.1 F.2.1 (hR.1 o _ he) ((F.2.2.2.2.2.2.2.2.1.1.2 0 (X.2.2.1.1, .int) rfl).1 n (fun j => .int (A.1 o j))) (fun q => by cases q) (by show ¬ (i < 0 ∨ (arrV _ _ _).slots.size ≤ _); rw [arrV_size]; exact hi) rfl rfl hd fun H1 e1 z oq => ?_
  refine kk p e s m args below meth c F H1 _ r ?_ (hS.put z oq ((aw_w_D X A).2 o _ he)) hL h1 h2
  refine hR.set (A' := (aw_u A.1 o i.toNatClampNeg x, A.2)) hn rfl (aw_ent_i hs) (fun j hj => ⟨aw_u_ne _ _ _ hj, rfl, rfl⟩) (hR.1.set (aw_w_D X A) he ?_ oq) (fun _ => z)
  show H1[X.2.2.2.1 + o]? = some (vp_cell _ _)
  rw [e1, vp_cell_i, vp_cell_i, arrV_store]
  congr 2
  funext q
  by_cases hq : q = i.toNatClampNeg
  · subst hq
    simp [updV, aw_u_same, va_up]
  · simp [updV, aw_u_same, va_up, hq]
theorem z_aast {o n v : Nat} {i : Int32} (hs : aw_sh o = (23, n)) (hn : aw_ex A o) (hvs : (aw_sh v).1 = 6) (hvn : aw_ex A v) (hi : vp_in i n) (hd : decode y.2.1 pc = .ok (.aastore, 1)) (kk : aw_Z X d mc ms y Q kc ks (pc + 1) ls st (A.1, A.2.1, aw_u A.2.2.1 o i.toNatClampNeg (some v), A.2.2.2)) : aw_Z X d mc ms y Q kc ks pc ls (.ref v :: .int i :: .ref o :: st) A := by
  intro p e s m args below meth c F H locs r hR hS hL h1 h2
  have ha : aw_tv X (.ref o) = .ref (X.2.2.2.1 + o) := by show Value.ref _ = _; rw [aw_ad_in (hR.lt hn)]
  have ha2 : aw_tv X (.ref v) = .ref (X.2.2.2.1 + v) := by show Value.ref _ = _; rw [aw_ad_in (hR.lt hvn)]
  rw [List.map_cons, List.map_cons, List.map_cons, ha, ha2]
  have he : (aw_w X A)[o]? = some (X.2.2.2.1 + o, .inl (X.2.2.1.2.2.2, n, .inr (.inr (.inr (.inr (fun k => (A.2.2.1 o k).map (aw_ad X))))))) := by rw [aw_w_at (hR.ex hn), aw_ent_q hs]
  have hv : (aw_w X A)[v]? = some (X.2.2.2.1 + v, .inr (6, aw_fs X A v 6)) := by rw [aw_w_at (hR.ex hvn), aw_ent_o hvs (by decide)]
  have hK := F.2.2.2.2.2.2.2.2.1.1
  have hlt : i.toNatClampNeg < n := Nat.not_le.mp fun q => hi (Or.inr q)
  have h0 : ¬ i < 0 := fun q => hi (Or.inl q)
  have hc : aw_cl[6]? = some ("AllWays$Code", T_Cd, 11) := rfl
  obtain ⟨q', hr', cellV, g1, g2, g3, -⟩ := hR.1 v _ hv
  have hcls := (hK.1 6 _ hc).2
  obtain ⟨kA, comp, k1, k2, k3, -⟩ := (hK.2 3 (X.2.2.1.2.2.2, .object "AllWays$Code") rfl).2
  have hcomp : comp = X.2.1.1 6 := Option.some.inj (k3.symm.trans hcls.1)
  subst hcomp
  obtain ⟨kC, hkC, -⟩ := hcls.2
  refine W.aast F.1 F.2.1 (hR.1 o _ he) (fun q h => by cases h) (fun h => by cases h) k1 k2 rfl hkC ⟨h0, by show _ < (arrV _ _ _).slots.size; rw [arrV_size]; exact hlt⟩ g1 (fun q h => by rw [g3] at h; cases h) (by rw [g2]; exact hkC) (by rw [g2]; exact va_assign hcls) rfl rfl hd fun H1 e1 z oq => ?_
  refine kk p e s m args below meth c F H1 _ r ?_ (hS.put z oq ((aw_w_D X A).2 o _ he)) hL h1 h2
  refine hR.set (A' := (A.1, A.2.1, aw_u A.2.2.1 o i.toNatClampNeg (some v), A.2.2.2)) hn rfl (aw_ent_q hs) (fun j hj => ⟨rfl, rfl, aw_u_ne _ _ _ hj⟩) (hR.1.set (aw_w_D X A) he ?_ oq) (fun _ => z)
  show H1[X.2.2.2.1 + o]? = some (vp_cell _ _)
  rw [e1, vp_cell_q, vp_cell_q, arrV_store]
  congr 2
  funext q
  by_cases hq : q = i.toNatClampNeg
  · subst hq
    simp [updV, aw_u_same, va_up, va_rf, aw_ad_in (hR.lt hvn)]
  · simp [updV, aw_u_same, va_up, hq]
theorem z_last {o n : Nat} {i : Int32} {x : Int64} (hg : A.2.2.2.2 = false) (hs : aw_sh o = (21, n)) (hn : aw_ex A o) (hi : vp_in i n) (hd : decode y.2.1 pc = .ok (.lastore, 1)) (kk : aw_Z X d mc ms y Q kc ks (pc + 1) ls st (A.1, aw_u A.2.1 o i.toNatClampNeg x, A.2.2)) : aw_Z X d mc ms y Q kc ks pc ls (.long x :: .int i :: .ref o :: st) A := by
  intro p e s m args below meth c F H locs r hR hS hL h1 h2
  have ha : aw_tv X (.ref o) = .ref (X.2.2.2.1 + o) := by show Value.ref _ = _; rw [aw_ad_in (hR.lt hn)]
  rw [List.map_cons, List.map_cons, List.map_cons, ha]
  refine va_last F.1 F.2.1 F.2.2.2.2.2.2.2.2.1.1 hR.1 (aw_w_D X A) hS o 1 (by rw [aw_w_at (hR.ex hn), aw_ent_l hs]) rfl hi hd fun H1 locs1 hP1 hD1 hS1 => ?_
  refine kk p e s m args below meth c F H1 locs1 r ?_ hS1 hL h1 h2
  exact hR.set (A' := (A.1, aw_u A.2.1 o i.toNatClampNeg x, A.2.2)) hn rfl (by rw [aw_ent_l hs]; simp only [aw_u_same]; rfl) (fun j hj => ⟨rfl, aw_u_ne _ _ _ hj, rfl⟩) hP1 (fun q => by rw [hg] at q; cases q)
/-- System.arraycopy within one array -/
def aw_cp {α : Type} (f : Nat → Nat → α) (o sp dp n : Nat) : Nat → Nat → α := fun o' => if o' = o then va_cpy (f o) (f o) sp dp n else f o'
theorem aw_cp_same {α : Type} (f : Nat → Nat → α) (o sp dp n : Nat) : aw_cp f o sp dp n o = va_cpy (f o) (f o) sp dp n := by simp [aw_cp]
theorem aw_cp_ne {α : Type} (f : Nat → Nat → α) {o o' : Nat} (sp dp n : Nat) (h : o' ≠ o) : aw_cp f o sp dp n o' = f o' := by simp [aw_cp, h]
def aw_aw (y : aw_Y) (idx : Nat) : Prop := Cond.methodLink y.1.cls idx arraycopyName ∈ aw_T ∧ Cond.native arraycopyName ∈ aw_T ∧ Cond.static arraycopyName ∈ aw_T ∧ Cond.initialized "java/lang/System" ∈ aw_T
theorem aw_rm_l {d : Nat} : 40 * (d + 1) ≤ (aw_rm (d + 1) mc ms).locals := by unfold aw_rm; dsimp only; split <;> omega
theorem z_acpI {o n0 idx : Nat} {sp dp n : Int32} (hw : aw_aw y idx) (hg : A.2.2.2.2 = false) (hs : aw_sh o = (20, n0)) (hn : aw_ex A o) (g1 : ¬ sp < 0) (g2 : ¬ dp < 0) (g3 : ¬ n < 0) (g4 : sp.toNatClampNeg + n.toNatClampNeg ≤ n0) (g5 : dp.toNatClampNeg + n.toNatClampNeg ≤ n0) (hd : decode y.2.1 pc = .ok (.invokestatic idx, 3))
    (kk : aw_Z X (d + 1) mc ms y Q kc ks (pc + 3) ls [] (aw_cp A.1 o sp.toNatClampNeg dp.toNatClampNeg n.toNatClampNeg, A.2)) : aw_Z X (d + 1) mc ms y Q kc ks pc ls [.int n, .int dp, .ref o, .int sp, .ref o] A := by
  intro p e s m args below meth c F H locs r hR hS hL h1 h2
  have ha : aw_tv X (.ref o) = .ref (X.2.2.2.1 + o) := by show Value.ref _ = _; rw [aw_ad_in (hR.lt hn)]
  have hK := F.2.2.2.2.2.2.2.2.1.1
  rw [List.map_cons, List.map_cons, List.map_cons, List.map_cons, List.map_cons, ha]
  have he : (aw_w X A)[o]? = some (X.2.2.2.1 + o, .inl (X.2.2.1.1, n0, .inl (A.1 o))) := by rw [aw_w_at (hR.ex hn), aw_ent_i hs]
  refine va_copyi (rest := []) F.1 F.2.1 (by rw [F.2.2.1, hL.1]) F.2.2.2.2.2.1 (F.2.2.2.2.1 _ hw.1) (F.2.2.2.2.1 _ hw.2.1) (F.2.2.2.2.1 _ hw.2.2.1) (F.2.2.2.2.1 _ hw.2.2.2) hK hR.1 (aw_w_D X A) hS o o 0 0 he he (ty := .int) rfl rfl rfl g1 g2 g3 g4 g5 (fun _ _ => rfl) (by show 1 ≤ d + 1; omega) (Nat.le_trans (show 18 ≤ 40 * (d + 1) by omega) aw_rm_l) hd fun H1 locs1 hP1 hD1 hS1 => ?_
  refine kk p e s m args below meth c F H1 locs1 r ?_ hS1 hL h1 h2
  exact hR.set (A' := (aw_cp A.1 o sp.toNatClampNeg dp.toNatClampNeg n.toNatClampNeg, A.2)) hn rfl (by rw [aw_ent_i hs]; simp only [aw_cp_same]) (fun j hj => ⟨aw_cp_ne _ _ _ _ hj, rfl, rfl⟩) hP1 (fun q => by rw [hg] at q; cases q)
theorem z_acpJ {o n0 idx : Nat} {sp dp n : Int32} (hw : aw_aw y idx) (hg : A.2.2.2.2 = false) (hs : aw_sh o = (21, n0)) (hn : aw_ex A o) (g1 : ¬ sp < 0) (g2 : ¬ dp < 0) (g3 : ¬ n < 0) (g4 : sp.toNatClampNeg + n.toNatClampNeg ≤ n0) (g5 : dp.toNatClampNeg + n.toNatClampNeg ≤ n0) (hd : decode y.2.1 pc = .ok (.invokestatic idx, 3))
    (kk : aw_Z X (d + 1) mc ms y Q kc ks (pc + 3) ls [] (A.1, aw_cp A.2.1 o sp.toNatClampNeg dp.toNatClampNeg n.toNatClampNeg, A.2.2)) : aw_Z X (d + 1) mc ms y Q kc ks pc ls [.int n, .int dp, .ref o, .int sp, .ref o] A := by
  intro p e s m args below meth c F H locs r hR hS hL h1 h2
  have ha : aw_tv X (.ref o) = .ref (X.2.2.2.1 + o) := by show Value.ref _ = _; rw [aw_ad_in (hR.lt hn)]
  have hK := F.2.2.2.2.2.2.2.2.1.1
  rw [List.map_cons, List.map_cons, List.map_cons, List.map_cons, List.map_cons, ha]
  have he : (aw_w X A)[o]? = some (X.2.2.2.1 + o, .inl (X.2.2.1.2.1, n0, .inr (.inl (A.2.1 o)))) := by rw [aw_w_at (hR.ex hn), aw_ent_l hs]
  refine va_copyl (rest := []) F.1 F.2.1 (by rw [F.2.2.1, hL.1]) F.2.2.2.2.2.1 (F.2.2.2.2.1 _ hw.1) (F.2.2.2.2.1 _ hw.2.1) (F.2.2.2.2.1 _ hw.2.2.1) (F.2.2.2.2.1 _ hw.2.2.2) hK hR.1 (aw_w_D X A) hS o o 1 1 he he (ty := .long) rfl rfl rfl g1 g2 g3 g4 g5 (fun _ _ => rfl) (by show 1 ≤ d + 1; omega) (Nat.le_trans (show 18 ≤ 40 * (d + 1) by omega) aw_rm_l) hd fun H1 locs1 hP1 hD1 hS1 => ?_
  refine kk p e s m args below meth c F H1 locs1 r ?_ hS1 hL h1 h2
  exact hR.set (A' := (A.1, aw_cp A.2.1 o sp.toNatClampNeg dp.toNatClampNeg n.toNatClampNeg, A.2.2)) hn rfl (by rw [aw_ent_l hs]; simp only [aw_cp_same]) (fun j hj => ⟨rfl, aw_cp_ne _ _ _ _ hj, rfl⟩) hP1 (fun q => by rw [hg] at q; cases q)
end MEM
