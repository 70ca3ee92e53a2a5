/-! PART 9m: mend of both -/
def FRx (u : Option Int32) (I I' : Nat → Nat → Int32) (L L' : Nat → Nat → Int64) : Prop :=
  (∀ o, o ≠ 0 → o ≠ 4 → o ≠ 5 → o ≠ 6 → o ≠ 7 → o ≠ 8 → o ≠ 10 → o ≠ 69 → ¬ (71 ≤ o ∧ o ≤ 78) → o ≠ 84 → o ≠ 85 → o ≠ 86 → o ≠ 87 → o ≠ 88 → I' o = I o) ∧ (∀ k, k ≠ 15 → I' 0 k = I 0 k) ∧ I' 0 15 = u.getD (I 0 15) ∧ I' 69 73 = u.getD (I 69 73) ∧ (∀ k, k ≠ 0 → k ≠ 25 → k ≠ 32 → k ≠ 42 → k ≠ 43 → k ≠ 44 → k ≠ 45 → k ≠ 73 → I' 69 k = I 69 k) ∧ I' 4 19 = I 4 19 ∧ KSl 4 I I' ∧ KSl 6 I I' ∧ (∀ o, o ≠ 4 → o ≠ 9 → o ≠ 69 → L' o = L o) ∧ ∀ k, k ≠ 46 → k ≠ 47 → L' 69 k = L 69 k
section MEND5
variable {X : aw_X} {d d2 : Nat} {Q : Option Value → aw_H → Prop} {I : Nat → Nat → Int32} {L : Nat → Nat → Int64} {D : Nat → Nat} {S : PT} {c s p B T O F : Nat} {v v1 v2 old : Int32}
theorem MFx.ks {u : Option Int32} {I0 I : Nat → Nat → Int32} {L0 L : Nat → Nat → Int64} {x : Nat} (h : MFx u I0 I L0 L) (hx : x ≠ 5) : KSl x I0 I := by
  obtain ⟨a, b, -⟩ := h
  have e : ∀ o, 71 ≤ o → o ≤ 78 → o ≠ 72 → I o = I0 o := fun o p q r => a o (by omega) r (by omega) (by omega) (by omega) (by omega) (by omega)
  exact ⟨fun j hj => ⟨by rw [e 71 (by decide) (by decide) (by decide)], b _ (by omega)⟩, by rw [e 73 (by decide) (by decide) (by decide), e 74 (by decide) (by decide) (by decide), e 75 (by decide) (by decide) (by decide), e 76 (by decide) (by decide) (by decide)]; exact ⟨rfl, rfl, rfl, rfl⟩, fun s _ => by rw [e 77 (by decide) (by decide) (by decide)], fun j _ => by rw [e 78 (by decide) (by decide) (by decide)]⟩
theorem MFr.sl {I0 I : Nat → Nat → Int32} {L0 L : Nat → Nat → Int64} {x : Nat} (h : MFr I0 I L0 L) : KSl x I0 I := KSl.same (fun o p q => h.1 o (by omega) (by omega) (by omega) (by omega) (by omega) (by omega))
/-- the reference's mend, where all is told -/
theorem m_mend {pg : Nat → PT} {E0 : Nat → PE} {E : Nat → Nat → Nat → PE} {k : Nat} {out : Int32} {u : Option Int32} (hk4 : k < 4) (f0 : 0 < F) (f4 : F ≤ 40) (hpg' : ∀ j, j < 4 → PG (pg j)) (hk : SZok B T O) (h8 : B * (T + O) ≤ 8) (sz : SZ I B T O) (h48 : I 69 48 = 0) (hsl : MSl pg I) (hbo : MBo I)
    (hE0 : ∀ r, RT1 (pg k) B T O F r (-1) (E0 r) ∧ p_end B F (E0 r)) (hE : ∀ j, j < min (cM (pg k)) 20 → ∀ u, u < 2 ^ B → ∀ r, RT1 (setN (cA (pg k) j) (nI u) (pg k)) B T O F r (-1) (E j u r) ∧ p_end B F (E j u r))
    (hout : ((∀ r, r < 2 ^ (B * (T + O)) → ¬ harm (E0 r).1) ∧ out = -1 ∧ u = none) ∨ ((¬ ∀ r, r < 2 ^ (B * (T + O)) → ¬ harm (E0 r).1) ∧ isMd (fun j u => ∀ r, r < 2 ^ (B * (T + O)) → ¬ harm (E j u r).1) (min (cM (pg k)) 20) (2 ^ B) out u))
    (hQ : ∀ I' L', I' 69 32 = 1 → I' 69 0 = 0 → (∀ j, j < 4 → MCd (pg j) j I') → MBo I' → (∀ o, o ≠ 69 → ¬ (71 ≤ o ∧ o ≤ 78) → o ≠ 84 → o ≠ 85 → o ≠ 86 → o ≠ 87 → o ≠ 88 → I' o = I o) → (∀ x, x ≠ 0 → x ≠ 25 → x ≠ 32 → x ≠ 42 → x ≠ 43 → x ≠ 44 → x ≠ 45 → x ≠ 73 → I' 69 x = I 69 x) → I' 69 73 = u.getD (I 69 73) → KSl 4 I I' → KSl 6 I I' → (∀ o, o ≠ 69 → L' o = L o) → (∀ x, x ≠ 46 → x ≠ 47 → L' 69 x = L 69 x) → Q (some (.int out)) (aw_s I' L' D)) :
    aw_m X (d + 5) y_M_mend [.ref 69, .int (nI k), .int (nI F)] (aw_s I L D) Q := by
  refine aw_go rfl rfl (b_M_mend_0 (c_M_areTold (d := d + 3) hsl hpg' (fun I2 e32 hm f ht => ?_) (fun I2 e32 hm f hx => absurd hx (fun g => g.elim (told_p hk4) (told_f f0 f4)))))
  have x69 : ∀ x, x ≠ 0 → x ≠ 32 → I2 69 x = I 69 x := f.2.1
  have sz' : SZ I2 B T O := ⟨by rw [x69 33 (by decide) (by decide)]; exact sz.1, by rw [x69 34 (by decide) (by decide)]; exact sz.2.1, by rw [x69 35 (by decide) (by decide)]; exact sz.2.2⟩
  have mk' : MIn (pg k) k B T O I2 := ⟨hpg' k hk4, by omega, hm k hk4, hk, sz', by rw [x69 48 (by decide) (by decide)]; exact h48⟩
  have b2 : MBo I2 := fun j hj => by rw [f.1 77 (by decide) (by decide) (by decide)]; exact hbo j hj
  have sm : ¬ (8 : Int32) < I2 69 33 * (I2 69 34 + I2 69 35) := by
    rw [sz'.1, sz'.2.1, sz'.2.2, nI_add, pk_mul, show (8 : Int32) = nI 8 from rfl, nI_ltI (by decide) (by omega)]; omega
  refine b_M_mend_6 (fun q => absurd q (by decide)) (fun _ => aw_go rfl rfl (b_M_isSmall_0 (fun q => absurd q sm) (fun _ => b_M_mend_13 (fun _ => c_M_isHarmless (d := d) mk' f0 f4 hE0 (fun hn I3 L3 f3 => b_M_mend_25 (fun q => absurd q (by decide)) (fun _ => ?_)) (fun hn I3 L3 f3 => b_M_mend_25 (fun _ => ?_) (fun q => absurd rfl q))) (fun q => absurd q (by decide)))))
  · rcases hout with ⟨-, rfl, rfl⟩ | ⟨a, -⟩
    · have g : ∀ x, x ≠ 25 → x ≠ 42 → x ≠ 43 → x ≠ 44 → x ≠ 45 → I3 69 x = I2 69 x := f3.2.1
      refine hQ I3 L3 (by rw [g 32 (by decide) (by decide) (by decide) (by decide) (by decide)]; exact e32) (by rw [g 0 (by decide) (by decide) (by decide) (by decide) (by decide)]; exact f.2.2.1) (fun j hj => (hm j hj).ks f3.sl (hpg' j hj).1.1 (hpg' j hj).2.1) (fun j hj => by rw [f3.1 77 (by decide) (by decide) (by decide) (by decide) (by decide) (by decide)]; exact b2 j hj) (fun o h1 h2 h3 h4 h5 h6 h7 => by rw [f3.1 o h1 h3 h4 h5 h6 h7, f.1 o h1 (by omega) (by omega)]) (fun x h0 h25 h32 h42 h43 h44 h45 h73 => by rw [g x h25 h42 h43 h44 h45, x69 x h0 h32]) ?_ (f.2.2.2.1.tr f3.sl) (f.2.2.2.2.tr f3.sl) f3.2.2.1 f3.2.2.2
      show I3 69 73 = I 69 73
      rw [g 73 (by decide) (by decide) (by decide) (by decide) (by decide), x69 73 (by decide) (by decide)]
    · exact absurd hn a
  · have m3 : MIn (pg k) k B T O I3 := mk'.fr f3
    have b3 : MBo I3 := fun j hj => by rw [f3.1 77 (by decide) (by decide) (by decide) (by decide) (by decide) (by decide)]; exact b2 j hj
    rw [show (5 : Int32) = nI 5 from rfl]
    refine c_M_copy (a := k) (b := 5) (by omega) (by decide) (by omega) m3.2.2.1 (hpg' k hk4).1.1 (hpg' k hk4).2.1 b3 (fun I4 m4 f4' b4 => b_M_mend_36 ?_)
    have h69 : I4 69 = I3 69 := f4'.1 69 (by omega)
    have m5 : MIn (pg k) 5 B T O I4 := ⟨hpg' k hk4, by decide, m4, hk, ⟨by rw [h69]; exact m3.2.2.2.2.1.1, by rw [h69]; exact m3.2.2.2.2.1.2.1, by rw [h69]; exact m3.2.2.2.2.1.2.2⟩, by rw [h69]; exact m3.2.2.2.2.2⟩
    refine l_M_mend (d := d) (S := pg k) (E := E) f0 f4 hE (I0 := I4) (L0 := L3) (fun out' u' hmd I5 L5 fx => ?_) (min (cM (pg k)) 20) 0 I4 L3 (by omega) m5 MFr.rf (fun i x => absurd x (Nat.not_lt_zero i))
    rcases hout with ⟨a, -⟩ | ⟨-, hmd2⟩
    · exact absurd a hn
    obtain ⟨rfl, rfl⟩ := hmd.one hmd2
    have g : ∀ x, x ≠ 25 → x ≠ 42 → x ≠ 43 → x ≠ 44 → x ≠ 45 → I3 69 x = I2 69 x := f3.2.1
    obtain ⟨x1, x2, x3, x4, x5, x6⟩ := id fx
    have kx : ∀ x, x ≠ 5 → KSl x I2 I5 := fun x hx => (f3.sl.tr (f4'.ks hx)).tr (fx.ks hx)
    refine hQ I5 L5 (by rw [x3 32 (by decide) (by decide) (by decide) (by decide) (by decide) (by decide), h69, g 32 (by decide) (by decide) (by decide) (by decide) (by decide)]; exact e32) (by rw [x3 0 (by decide) (by decide) (by decide) (by decide) (by decide) (by decide), h69, g 0 (by decide) (by decide) (by decide) (by decide) (by decide)]; exact f.2.2.1) (fun j hj => (hm j hj).ks (kx j (by omega)) (hpg' j hj).1.1 (hpg' j hj).2.1) (fun j hj => by rw [x1 77 (by decide) (by decide) (by decide) (by decide) (by decide) (by decide) (by decide)]; exact b4 j hj) (fun o h1 h2 h3 h4 h5 h6 h7 => by rw [x1 o h1 (by omega) h3 h4 h5 h6 h7, f4'.1 o h2, f3.1 o h1 h3 h4 h5 h6 h7, f.1 o h1 (by omega) (by omega)]) (fun x h0 h25 h32 h42 h43 h44 h45 h73 => by rw [x3 x h25 h42 h43 h44 h45 h73, h69, g x h25 h42 h43 h44 h45, x69 x h0 h32]) ?_ (f.2.2.2.1.tr (kx 4 (by decide))) (f.2.2.2.2.tr (kx 6 (by decide))) (fun o h => (x5 o h).trans (f3.2.2.1 o h)) (fun x p q => (x6 x p q).trans (f3.2.2.2 x p q))
    rw [x4, h69, g 73 (by decide) (by decide) (by decide) (by decide) (by decide), x69 73 (by decide) (by decide)]
end MEND5
