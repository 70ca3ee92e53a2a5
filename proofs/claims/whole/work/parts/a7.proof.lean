/-! PART a7: proof and check of both -/
/-- what proof() and check() leave -/
def FRp (I I' : Nat → Nat → Int32) (L L' : Nat → Nat → Int64) : Prop :=
  (∀ o k, o ≠ 4 → o ≠ 5 → o ≠ 6 → o ≠ 7 → o ≠ 8 → o ≠ 10 → ¬ (23 ≤ o ∧ o ≤ 28) → o ≠ 69 → ¬ (84 ≤ o ∧ o ≤ 88) → o ≠ 108 → o ≠ 109 → o ≠ 110 → o ≠ 112 → o ≠ 113 → ¬ (o = 2 ∧ k = 1) → I' o k = I o k) ∧ (∀ k, k ≠ 0 → k ≠ 2 → k ≠ 25 → k ≠ 42 → k ≠ 43 → k ≠ 44 → k ≠ 45 → k ≠ 83 → I' 69 k = I 69 k) ∧ I' 4 19 = I 4 19 ∧ (∀ o, o ≠ 4 → o ≠ 9 → o ≠ 69 → L' o = L o) ∧ ∀ k, k ≠ 46 → k ≠ 47 → L' 69 k = L 69 k
/-- the tape's numbers are bytes -/
def RBy (I : Nat → Nat → Int32) : Prop := ∀ j, j < 540 → ∃ b, b < 256 ∧ I 3 j = nI b
section QPRF
variable {X : aw_X} {d d2 : Nat} {Q : Option Value → aw_H → Prop} {I : Nat → Nat → Int32} {L : Nat → Nat → Int64} {D : Nat → Nat} {S : PT} {B T O : Nat}
theorem FRp.mk1 {I I1 I2 I3 : Nat → Nat → Int32} {L L1 L3 : Nat → Nat → Int64} (a : KFw I I1 L L1) (b : (∀ o k, ¬ (o = 2 ∧ k = 1) → ¬ (o = 69 ∧ (k = 0 ∨ k = 2)) → I2 o k = I1 o k)) (c : MFq I2 I3 L1 L3) : FRp I I3 L L3 := by
  refine ⟨fun o k p4 p5 p6 p7 p8 p10 p23 p69 p84 p108 p109 p110 p112 p113 p2 => ?_, fun x p0 p2 p25 p42 p43 p44 p45 p83 => ?_, ?_, fun o p4 p9 p69 => ?_, fun x p q => ?_⟩
  · rw [c.1 o p69 (by omega) (by omega) (by omega) (by omega) (by omega) p108 p109 p110 p113, b o k p2 (by omega), a.1 o p4 p5 p6 p7 p8 p10 (by omega) (by omega) (by omega) (by omega) (by omega) (by omega)]
  · rw [c.2.1 x p25 p42 p43 p44 p45, b 69 x (by omega) (by omega), a.1 69 (by decide) (by decide) (by decide) (by decide) (by decide) (by decide) (by decide) (by decide) (by decide) (by decide) (by decide) (by decide)]
  · rw [c.1 4 (by decide) (by decide) (by decide) (by decide) (by decide) (by decide) (by decide) (by decide) (by decide) (by decide), b 4 19 (by omega) (by omega)]; exact a.2.1
  · rw [c.2.2.1 o p69, a.2.2 o p4 p9]
  · rw [c.2.2.2 x p q, a.2.2 69 (by decide) (by decide)]
theorem FRp.mk2 {I I3 I4 : Nat → Nat → Int32} {L L3 : Nat → Nat → Int64} (a : FRp I I3 L L3) (c : MFw I3 I4) : FRp I I4 L L3 :=
  ⟨fun o k p4 p5 p6 p7 p8 p10 p23 p69 p84 p108 p109 p110 p112 p113 p2 => by rw [c.1 o p69 p112 p113]; exact a.1 o k p4 p5 p6 p7 p8 p10 p23 p69 p84 p108 p109 p110 p112 p113 p2, fun x p0 p2 p25 p42 p43 p44 p45 p83 => by rw [c.2 x p83]; exact a.2.1 x p0 p2 p25 p42 p43 p44 p45 p83, by rw [c.1 4 (by decide) (by decide) (by decide)]; exact a.2.2.1, a.2.2.2.1, a.2.2.2.2⟩
theorem KFw.mic {I1 I2 : Nat → Nat → Int32} {L L1 : Nat → Nat → Int64} (f : KFw I I1 L L1) (b : (∀ o k, ¬ (o = 2 ∧ k = 1) → ¬ (o = 69 ∧ (k = 0 ∨ k = 2)) → I2 o k = I1 o k)) (hG : CG S) (h : MCl S I) (hk : SZok B T O) (sz : SZ I B T O) : MIc S B T O I2 := by
  have hi : ∀ o, 29 ≤ o → I1 o = I o := fun o h => f.1 o (by omega) (by omega) (by omega) (by omega) (by omega) (by omega) (by omega) (by omega) (by omega) (by omega) (by omega) (by omega)
  have g : ∀ x, x ≠ 0 → x ≠ 2 → I2 69 x = I 69 x := fun x h0 h2 => by rw [b 69 x (by omega) (by omega), hi 69 (by decide)]
  have o2 : ∀ o, 70 ≤ o → I2 o = I o := fun o ho => funext fun x => by rw [b o x (by omega) (by omega), hi o (by omega)]
  exact ⟨hG, h.fr hG (g 75 (by decide) (by decide)) (o2 106 (by decide)) (KSl.same (fun o p q => o2 o (by omega))), hk, by rw [g 33 (by decide) (by decide)]; exact sz.1, by rw [g 34 (by decide) (by decide)]; exact sz.2.1, by rw [g 35 (by decide) (by decide)]; exact sz.2.2⟩
theorem bits_e (hk : SZok B T O) (s1 : I 1 0 = nI B) (s2 : I 1 1 = nI T) (s3 : I 1 2 = nI O) : I 1 0 * (I 1 1 + I 1 2) = nI (B * (T + O)) ∧ ((nI (B * (T + O)) ≤ (8 : Int32)) = (B * (T + O) ≤ 8)) :=
  ⟨by rw [s1, s2, s3, nI_add, pk_mul], nI_le' (b := 8) (by have := hk.2.2.2.2.2; omega) (by decide)⟩
theorem ck_nz (h : CG S) : ¬ nI (cK S) = 0 := by
  have := h.1
  have := h.2.1
  rw [show (0 : Int32) = nI 0 from rfl, nI_eq (by omega) (by decide)]; omega
theorem q_proof (hD : DOK D) (hC : RCl I D) (hS : RSz I) (hpw : RPw I) (hT : RT I) (hR : RRow I 511 23 8 28 69 83 112) (hQ : ∀ r I1 L1,
      (∀ (Q2 : Option Value → aw_H → Prop), (∀ I2 L2, RRow I2 511 23 8 28 69 83 112 → RT I2 → I2 69 0 = 0 → FRp I I2 L L2 → Q2 (some (.int r)) (aw_s I2 L2 D)) → aw_m X (d2 + 6) y_M_proof [.ref 69] (aw_s I1 L1 D) Q2) → Q (some (.int r)) (aw_s I1 L1 D)) :
    aw_m X (d + 7) y_AW_proof [.ref 0] (aw_s I L D) Q := by
  obtain ⟨B, T, O, hk, s1, s2, s3, sz⟩ := hS
  have d4 := hD.1 4 (by decide)
  have fu : ∀ (I : Nat → Nat → Int32) o k, ¬ (o = 2 ∧ k = 1) → ¬ (o = 69 ∧ (k = 0 ∨ k = 2)) → aw_u I 69 0 0 o k = I o k := fun I o k _ h => au_ok (by omega)
  have row : ∀ I' : Nat → Nat → Int32, I' 23 8 = I 23 8 → I' 28 = I 28 → I' 69 83 = I 69 83 → I' 112 = I 112 → RRow I' 511 23 8 28 69 83 112 := fun I' a b c e => by
    obtain ⟨n, h1, h2, h3, h4⟩ := hR
    exact ⟨n, h1, a.trans h2, c.trans h3, fun j hj => by rw [b, e]; exact h4 j hj⟩
  obtain ⟨eb, e8⟩ := bits_e hk s1 s2 s3
  rcases hC with ⟨a, b⟩ | ⟨S, hG, hK, hM⟩
  · refine aw_go rfl rfl (b_AW_proof_0 rfl d4 (fun _ => hQ (-2) I L (fun Q2 hQ2 => aw_go rfl rfl (b_M_proof_0 (fun _ => ?_) (fun q => absurd b q)))) (fun q => absurd a q))
    exact hQ2 _ L (row _ (by rw [au_o (by decide)]) (au_o (by decide)) (au_k (by decide)) (au_o (by decide))) (hT.fr (by rw [au_o (by decide)]) (au_o (by decide)) (au_k (by decide)) (au_o (by decide))) (au_s _ _ _ _) (FRp.mk1 KFq.rf.w (fu I) MFq.rf)
  · have nz := ck_nz hG
    refine aw_go rfl rfl (b_AW_proof_0 rfl d4 (fun q => absurd (by rw [← hK.2.1]; exact q) nz) (fun _ => aw_go rfl rfl (b_Sz_rowBits_0 ?_)))
    rw [eb]
    by_cases h8 : B * (T + O) ≤ 8
    · have kic : KIc S (D 4) B T O I := ⟨hG, d4, hK, hk, s1, s2, s3⟩
      obtain ⟨N, hN⟩ := nn_ex (B * (T + O)) (fR S B T)
      obtain ⟨f, hf⟩ := lv_ex (B * (T + O)) 100000 N
      obtain ⟨g, hg⟩ := lv_ex (B * (T + O)) 1000000 N
      have hl := lv_two h8 (by decide : 1000 ≤ 100000) (by decide : 1000 ≤ 1000000) hf hg
      have hgl : ∀ p, (g p).1 ≤ 1000000 := fun p => by
        have t := two_fc (p := p) h8
        rcases hl p with ⟨-, y, -⟩ | ⟨y, -, z, -⟩
        · rw [y]; exact Nat.le_refl _
        · rw [← y]; omega
      obtain ⟨w, hw⟩ : ∃ w, w + 1 = 3 ^ (B * (T + O)) := ⟨3 ^ (B * (T + O)) - 1, by have := p3 (B * (T + O)); omega⟩
      have rt : ∀ I1 L1 I2 L2, KFw I I1 L L1 → MFq (aw_u I1 69 0 0) I2 L1 L2 → RT I2 ∧ I2 69 0 = 0 ∧ I2 23 = I1 23 ∧ I2 28 = I1 28 ∧ I2 69 83 = I 69 83 ∧ I2 112 = I 112 := fun I1 L1 I2 L2 fk fm => by
        have hi : ∀ o, o = 2 ∨ o = 3 ∨ 29 ≤ o → I1 o = I o := fun o h => fk.1 o (by omega) (by omega) (by omega) (by omega) (by omega) (by omega) (by omega) (by omega) (by omega) (by omega) (by omega) (by omega)
        have ho : ∀ o, o < 69 ∨ o = 70 ∨ o = 112 → I2 o = I1 o := fun o h => by rw [fm.1 o (by omega) (by omega) (by omega) (by omega) (by omega) (by omega) (by omega) (by omega) (by omega) (by omega), au_o (by omega)]
        exact ⟨hT.fr (by rw [ho 2 (by omega), hi 2 (by omega)]) (by rw [ho 3 (by omega), hi 3 (by omega)]) (by rw [fm.2.1 2 (by decide) (by decide) (by decide) (by decide) (by decide), au_k (by decide), hi 69 (by omega)]) (by rw [ho 70 (by omega), hi 70 (by omega)]), by rw [fm.2.1 0 (by decide) (by decide) (by decide) (by decide) (by decide), au_s], ho 23 (by omega), ho 28 (by omega), by rw [fm.2.1 83 (by decide) (by decide) (by decide) (by decide) (by decide), au_k (by decide), hi 69 (by omega)], by rw [ho 112 (by omega), hi 112 (by omega)]⟩
      have pw1 : ∀ I1 L1, KFw I I1 L L1 → RPw I1 := fun I1 L1 fk j hj => by rw [fk.1 111 (by decide) (by decide) (by decide) (by decide) (by decide) (by decide) (by decide) (by decide) (by decide) (by decide) (by decide) (by decide)]; exact hpw j hj
      refine b_AW_proof_17 rfl (fun _ => c_Pf_find (d := d) rfl h8 hN hf hl hw kic (fun hA I1 L1 fk r8 r28 => b_AW_proof_36 (hQ _ I1 L1 (fun Q2 hQ2 => ?_))) (fun hA I1 L1 fk => b_AW_proof_36 (hQ _ I1 L1 (fun Q2 hQ2 => ?_)))) (fun q => absurd (e8 ▸ h8) q)
      · refine c_M_proof (d := d2) rfl h8 hN hg hl hgl hw (fk.mic (fu I1) hG hM hk sz) (pw1 I1 L1 fk) (fun _ I2 I3 L3 fm fw r83 r112 => ?_) (fun hB => absurd hA hB)
        obtain ⟨⟨z, t0, t1, t2, t3⟩, y0, y23, y28, -, -⟩ := rt I1 L1 I2 L3 fk fm
        have len : (wrL N f 511 [w]).length ≤ 511 := by
          have : ∀ m st, (wrL N f m st).length ≤ m := fun m => by
            induction m with
            | zero => intro st; exact Nat.le_refl _
            | succ m ih =>
              intro st
              cases st with
              | nil => exact Nat.zero_le _
              | cons p st =>
                rw [wrL]
                split
                · exact Nat.succ_le_succ (ih _)
                · exact Nat.succ_le_succ (ih _)
          exact this 511 _
        refine hQ2 I3 L3 ⟨_, len, ?_, r83, fun j hj => ?_⟩ ⟨z, t0, ?_, ?_, fun j hj => ?_⟩ (by rw [fw.2 0 (by decide)]; exact y0) ((FRp.mk1 fk (fu I1) fm).mk2 fw)
        · rw [fw.1 23 (by decide) (by decide) (by decide), y23]; exact r8
        · rw [fw.1 28 (by decide) (by decide) (by decide), y28, r28 j hj, r112 j hj]
        · rw [fw.1 2 (by decide) (by decide) (by decide)]; exact t1
        · rw [fw.2 2 (by decide)]; exact t2
        · rw [fw.1 3 (by decide) (by decide) (by decide), fw.1 70 (by decide) (by decide) (by decide)]; exact t3 j hj
      · refine c_M_proof (d := d2) rfl h8 hN hg hl hgl hw (fk.w.mic (fu I1) hG hM hk sz) (pw1 I1 L1 fk.w) (fun hB => absurd hB hA) (fun _ I2 L2 fm => ?_)
        obtain ⟨t, y0, y23, y28, y83, y112⟩ := rt I1 L1 I2 L2 fk.w fm
        exact hQ2 I2 L2 (row I2 (by rw [y23]; exact fk.2.2.1 8 (by decide)) (by rw [y28]; exact fk.1 28 (by decide) (by decide) (by decide) (by decide) (by decide) (by decide) (by decide) (by decide) (by decide) (by decide) (by decide)) y83 y112) t y0 (FRp.mk1 fk.w (fu I1) fm)
    · refine b_AW_proof_17 rfl (fun q => absurd (e8 ▸ q) h8) (fun _ => hQ (-2) I L (fun Q2 hQ2 => ?_))
      have sz0 : SZ (aw_u I 69 0 0) B T O := ⟨by rw [au_k (by decide)]; exact sz.1, by rw [au_k (by decide)]; exact sz.2.1, by rw [au_k (by decide)]; exact sz.2.2⟩
      refine aw_go rfl rfl (b_M_proof_0 (fun q => absurd (by rw [← hM.1]; exact q) nz) (fun _ => c_M_isSmall rfl hk sz0 (fun q => absurd q h8) (fun _ => b_M_proof_16 (fun x => absurd rfl x) (fun _ => ?_))))
      exact hQ2 _ L (row _ (by rw [au_o (by decide)]) (au_o (by decide)) (au_k (by decide)) (au_o (by decide))) (hT.fr (by rw [au_o (by decide)]) (au_o (by decide)) (au_k (by decide)) (au_o (by decide))) (au_s _ _ _ _) (FRp.mk1 KFq.rf.w (fu I) MFq.rf)
theorem q_check (hD : DOK D) (hC : RCl I D) (hS : RSz I) (hpw : RPw I) (hT : RT I) (hB : RBy I) (hQ : ∀ r I1 L1,
      (∀ (Q2 : Option Value → aw_H → Prop), (∀ I2 L2, RT I2 → I2 23 8 = I 23 8 → I2 28 = I 28 → I2 69 83 = I 69 83 → I2 112 = I 112 → I2 69 0 = 0 → FRp I I2 L L2 → Q2 (some (.int r)) (aw_s I2 L2 D)) → aw_m X (d2 + 6) y_M_check [.ref 69] (aw_s I1 L1 D) Q2) → Q (some (.int r)) (aw_s I1 L1 D)) :
    aw_m X (d + 7) y_AW_check [.ref 0] (aw_s I L D) Q := by
  obtain ⟨B, T, O, hk, s1, s2, s3, sz⟩ := hS
  obtain ⟨z, hz, t1, t2, t3⟩ := id hT
  have d4 := hD.1 4 (by decide)
  obtain ⟨eb, e8⟩ := bits_e hk s1 s2 s3
  have rt0 : ∀ I2 : Nat → Nat → Int32, I2 2 1 = 0 → I2 69 2 = 0 → RT I2 := fun I2 a b => ⟨0, by decide, a, b, fun j hj => absurd hj (Nat.not_lt_zero j)⟩
  -- what is taken of the tape
  have fu : ∀ (I1 : Nat → Nat → Int32) o k, ¬ (o = 2 ∧ k = 1) → ¬ (o = 69 ∧ (k = 0 ∨ k = 2)) → aw_u (aw_u (aw_u I1 2 1 0) 69 0 0) 69 2 0 o k = I1 o k := fun I1 o k h2 h => by rw [au_ok (by omega), au_ok (by omega), au_ok (by omega)]
  -- no claim, or too great
  have no : ∀ (Q2 : Option Value → aw_H → Prop), (∀ I2 L2, RT I2 → I2 23 8 = I 23 8 → I2 28 = I 28 → I2 69 83 = I 69 83 → I2 112 = I 112 → I2 69 0 = 0 → FRp I I2 L L2 → Q2 (some (.int (-2))) (aw_s I2 L2 D)) → Q2 (some (.int (-2))) (aw_s (aw_u (aw_u (aw_u I 2 1 0) 69 0 0) 69 2 0) L D) := fun Q2 hQ2 =>
    hQ2 _ L (rt0 _ (by rw [au_o (by decide), au_o (by decide), au_s]) (au_s _ _ _ _)) (fu I 23 8 (by omega) (by omega)) (funext fun k => fu I 28 k (by omega) (by omega)) (fu I 69 83 (by omega) (by omega)) (funext fun k => fu I 112 k (by omega) (by omega)) (by rw [au_k (by decide), au_s]) (FRp.mk1 KFq.rf.w (fu I) MFq.rf)
  rcases hC with ⟨a, b⟩ | ⟨S, hG, hK, hM⟩
  · refine aw_go rfl rfl (b_AW_check_0 rfl d4 (fun _ => b_AW_check_22 (c_Tp_cut0 t1 (by omega) (b_AW_check_30 (hQ (-2) _ L (fun Q2 hQ2 => ?_))))) (fun q => absurd a q))
    refine aw_go rfl rfl (b_M_check_0 (aw_go rfl rfl (b_M_take_0 (b_M_check_9 (fun _ => no Q2 hQ2) (fun q => absurd ?_ q)))))
    rw [au_k (by decide), au_k (by decide), au_o (by decide)]; exact b
  · have nz := ck_nz hG
    have nzM : ∀ I1 : Nat → Nat → Int32, I1 69 75 = I 69 75 → ¬ aw_u (aw_u I1 69 0 0) 69 2 0 69 75 = 0 := fun I1 h => by
      rw [au_k (by decide), au_k (by decide), h, hM.1]; exact nz
    refine aw_go rfl rfl (b_AW_check_0 rfl d4 (fun q => absurd (by rw [← hK.2.1]; exact q) nz) (fun _ => aw_go rfl rfl (b_Sz_rowBits_0 ?_)))
    rw [eb]
    by_cases h8 : B * (T + O) ≤ 8
    · have kic : KIc S (D 4) B T O I := ⟨hG, d4, hK, hk, s1, s2, s3⟩
      obtain ⟨N, hN⟩ := nn_ex (B * (T + O)) (fR S B T)
      obtain ⟨f, hf⟩ := lv_ex (B * (T + O)) 100000 N
      obtain ⟨g, hg⟩ := lv_ex (B * (T + O)) 1000000 N
      have hl := lv_two h8 (by decide : 1000 ≤ 100000) (by decide : 1000 ≤ 1000000) hf hg
      have hgl : ∀ p, (g p).1 ≤ 1000000 := fun p => by
        have t := two_fc (p := p) h8
        rcases hl p with ⟨-, y, -⟩ | ⟨y, -, z, -⟩
        · rw [y]; exact Nat.le_refl _
        · rw [← y]; omega
      obtain ⟨w, hw⟩ : ∃ w, w + 1 = 3 ^ (B * (T + O)) := ⟨3 ^ (B * (T + O)) - 1, by have := p3 (B * (T + O)); omega⟩
      have hb : ∀ j, j < z → (I 3 j).toBitVec.toNat < 256 := fun j hj => by
        obtain ⟨b, b1, b2⟩ := hB j (by omega)
        rw [b2, pk_tn (by omega)]; exact b1
      have kt : KTp I (fun j => nI (I 3 j).toBitVec.toNat) z := ⟨t1, hz, fun j _ => i32_nI _⟩
      refine b_AW_check_17 rfl (fun _ => c_Pf_wrong (d := d) rfl h8 hN hw hb kic kt (fun I1 L1 fk => b_AW_check_49 ?_)) (fun q => absurd (e8 ▸ h8) q)
      have hi : ∀ o, o = 2 ∨ o = 3 ∨ 28 ≤ o → I1 o = I o := fun o h => fk.1 o (by omega) (by omega) (by omega) (by omega) (by omega) (by omega) (by omega) (by omega) (by omega) (by omega) (by omega)
      refine c_Tp_cut0 (z := z) (by rw [hi 2 (by omega)]; exact t1) (by omega) (b_AW_check_58 (hQ _ _ L1 (fun Q2 hQ2 => ?_)))
      refine aw_go rfl rfl (b_M_check_0 (aw_go rfl rfl (b_M_take_0 (b_M_check_9 (fun q => absurd q (nzM _ ?_)) (fun _ => ?_)))))
      · rw [au_o (by decide), hi 69 (by omega)]
      have ez : aw_u (aw_u I1 2 1 0) 69 0 0 69 2 = nI z := by rw [au_k (by decide), au_o (by decide), hi 69 (by omega)]; exact t2
      rw [ez]
      have mic : MIc S B T O (aw_u (aw_u (aw_u I1 2 1 0) 69 0 0) 69 2 0) := fk.w.mic (fu I1) hG hM hk sz
      have pwu : RPw (aw_u (aw_u (aw_u I1 2 1 0) 69 0 0) 69 2 0) := fun j hj => by rw [fu I1 111 j (by omega) (by omega), hi 111 (by omega)]; exact hpw j hj
      have h3 : 3 ^ (B * (T + O)) ≤ 3 ^ 8 := Nat.pow_le_pow_right (by decide) h8
      have h38 : 3 ^ 8 = 6561 := by decide
      have e1 : nI (3 ^ (B * (T + O))) - 1 = nI w := by rw [show (1 : Int32) = nI 1 from rfl, pk_sub (p3 _), ← hw]; rfl
      refine c_M_isSmall rfl hk mic.2.2.2 (fun _ => b_M_check_21 (fun _ => c_M_layParts (d := d2) rfl h8 hN hg hgl mic pwu (fun I2 L2 fm hkp => b_M_check_31 (c_M_partBits rfl (mic.q fm).2.2.2 ?_))) (fun x => absurd x (by decide))) (fun x => absurd h8 x)
      have B0 := @b_M_check_46 X (d2 + 5) Q2 I2 L2 D (nI z) 1 (nI (B * (T + O))) 0
      rw [nI_clamp (show B * (T + O) < 2 ^ 31 by omega), (pwu.q fm) _ (by omega), e1, show (0 : Int32).toNatClampNeg = 0 from rfl] at B0
      refine B0 (aw_in_nI (by omega) (by decide)) (aw_in_nI (n := 0) (by decide) (by decide)) ?_
      have fm2 : MFq I2 (aw_u I2 113 0 (nI w)) L2 L2 := MFq.u (Or.inr (Or.inr (Or.inr rfl)))
      have fc := fcn_le w (B * (T + O))
      have i70 : ∀ j, j < z → aw_u I2 113 0 (nI w) 70 j = nI (I 3 j).toBitVec.toNat := fun j hj => by
        rw [au_o (by decide), fm.1 70 (by decide) (by decide) (by decide) (by decide) (by decide) (by decide) (by decide) (by decide) (by decide) (by decide), fu I1 70 j (by omega) (by omega), hi 70 (by omega), ← t3 j hj]; exact i32_nI _
      refine l_M_check (d := d2 + 4) (I0 := aw_u (aw_u (aw_u I1 2 1 0) 69 0 0) 69 2 0) (L0 := L1) (N := N) (b := fun j => (I 3 j).toBitVec.toNat) rfl h8 (nn_lt (fR_lt (B := B) (T := T) hG) hN) hb hz (fun I3 fm3 => ?_) z 0 [w] _ (by omega) ((mic.q fm).q fm2) ((pwu.q fm).q fm2) (fm.tr fm2) i70 (fun p hp => by rw [au_o (by decide)]; exact (hkp p hp).1) ⟨by omega, Nat.one_pos, by show 0 + _ ≤ B * (T + O); omega, trivial⟩ ⟨au_s _ _ _ _, trivial⟩ rfl
      have ho : ∀ o k, o < 69 ∨ o = 112 → ¬ (o = 2 ∧ k = 1) → I3 o k = I1 o k := fun o k h h2 => by rw [fm3.1 o (by omega) (by omega) (by omega) (by omega) (by omega) (by omega) (by omega) (by omega) (by omega) (by omega), fu I1 o k h2 (by omega)]
      have h69 : ∀ x, x = 0 ∨ x = 2 ∨ x = 83 → I3 69 x = aw_u (aw_u (aw_u I1 2 1 0) 69 0 0) 69 2 0 69 x := fun x h => fm3.2.1 x (by omega) (by omega) (by omega) (by omega) (by omega)
      exact hQ2 I3 L2 (rt0 I3 (by rw [fm3.1 2 (by decide) (by decide) (by decide) (by decide) (by decide) (by decide) (by decide) (by decide) (by decide) (by decide), au_o (by decide), au_o (by decide), au_s]) (by rw [h69 2 (by omega), au_s])) (by rw [ho 23 8 (by omega) (by omega)]; exact fk.2.2.1 8 (by decide)) (funext fun k => by rw [ho 28 k (by omega) (by omega), hi 28 (by omega)]) (by rw [h69 83 (by omega), fu I1 69 83 (by omega) (by omega), hi 69 (by omega)]) (funext fun k => by rw [ho 112 k (by omega) (by omega), hi 112 (by omega)]) (by rw [h69 0 (by omega), au_k (by decide), au_s]) (FRp.mk1 fk.w (fu I1) fm3)
    · refine b_AW_check_17 rfl (fun q => absurd (e8 ▸ q) h8) (fun _ => b_AW_check_22 (c_Tp_cut0 t1 (by omega) (b_AW_check_30 (hQ (-2) _ L (fun Q2 hQ2 => ?_)))))
      have sz0 : SZ (aw_u (aw_u (aw_u I 2 1 0) 69 0 0) 69 2 0) B T O := ⟨by rw [fu I 69 33 (by omega) (by omega)]; exact sz.1, by rw [fu I 69 34 (by omega) (by omega)]; exact sz.2.1, by rw [fu I 69 35 (by omega) (by omega)]; exact sz.2.2⟩
      refine aw_go rfl rfl (b_M_check_0 (aw_go rfl rfl (b_M_take_0 (b_M_check_9 (fun q => absurd q (nzM _ (by rw [au_o (by decide)]))) (fun _ => c_M_isSmall rfl hk sz0 (fun q => absurd q h8) (fun _ => b_M_check_21 (fun x => absurd rfl x) (fun _ => no Q2 hQ2)))))))
end QPRF
