/-! PART 9d: harm; rule of both -/
def harm (e : Int32) : Prop := e = 1 ∨ e = 2 ∨ e = 3
theorem bit_e {m : Nat} (h : m ≤ 12) : (1 : Int32) <<< (nI m &&& 31) = nI (2 ^ m) := by
  rcases (show m = 0 ∨ m = 1 ∨ m = 2 ∨ m = 3 ∨ m = 4 ∨ m = 5 ∨ m = 6 ∨ m = 7 ∨ m = 8 ∨ m = 9 ∨ m = 10 ∨ m = 11 ∨ m = 12 by omega) with rfl | rfl | rfl | rfl | rfl | rfl | rfl | rfl | rfl | rfl | rfl | rfl | rfl <;> decide +kernel
theorem lets_le {B T O : Nat} (hk : SZok B T O) : B * T ≤ B * (T + O) ∧ B * T ≤ 12 := by
  have h : B * T ≤ B * (T + O) := Nat.mul_le_mul_left _ (by omega)
  exact ⟨h, Nat.le_trans h hk.2.2.2.2.2⟩
theorem lets_e {B T O : Nat} (hk : SZok B T O) : (1 : Int32) <<< ((nI B * nI T) &&& 31) = nI (2 ^ (B * T)) := by
  rw [pk_mul]; exact bit_e (lets_le hk).2
theorem andR {q m : Nat} (hm : m ≤ 12) (hq : q < 2 ^ 31) : nI q &&& (nI (2 ^ m) - 1) = nI (q % 2 ^ m) := by
  have p0 := Nat.two_pow_pos m
  have p1 : 2 ^ m ≤ 2 ^ 12 := Nat.pow_le_pow_right (by decide) hm
  rw [show (1 : Int32) = nI 1 from rfl, pk_sub (by omega)]
  have e1 : (nI (2 ^ m - 1)).toBitVec.toNat = 2 ^ m - 1 := by rw [pk_tn]; omega
  exact pk_andN (by omega) m e1
theorem mod_all {R lk r : Nat} (hl : lk < R) (hr : r < R) : ∃ j, j < R ∧ (lk + j) % R = r := by
  by_cases g : lk ≤ r
  · exact ⟨r - lk, by omega, by rw [show lk + (r - lk) = r by omega]; exact Nat.mod_eq_of_lt hr⟩
  · exact ⟨r + R - lk, by omega, by rw [show lk + (r + R - lk) = r + R by omega, Nat.add_mod_right]; exact Nat.mod_eq_of_lt hr⟩
/-- the first below R for which P holds, or none -/
def isFst (P : Nat → Prop) (R : Nat) (res : Int32) : Prop := (∃ v, v < R ∧ P v ∧ (∀ w, w < v → ¬ P w) ∧ res = nI v) ∨ ((∀ v, v < R → ¬ P v) ∧ res = -1)
theorem isFst.one {P : Nat → Prop} {R : Nat} {a b : Int32} (x : isFst P R a) (y : isFst P R b) : a = b := by
  rcases x with ⟨v, h1, h2, h3, rfl⟩ | ⟨h1, rfl⟩ <;> rcases y with ⟨w, k1, k2, k3, rfl⟩ | ⟨k1, rfl⟩
  · rcases Nat.lt_trichotomy v w with g | g | g
    · exact absurd h2 (k3 v g)
    · rw [g]
    · exact absurd k2 (h3 w g)
  · exact absurd h2 (k1 v h1)
  · exact absurd k2 (h1 w k1)
  · rfl
section RULE
variable {X : aw_X} {d d2 : Nat} {Q : Option Value → aw_H → Prop} {I : Nat → Nat → Int32} {L : Nat → Nat → Int64} {D : Nat → Nat} {S : PT} {c s B T O F r : Nat} {v v1 v2 v3 rule : Int32}
theorem c_AW_isHarm (h1 : harm v → Q (some (.int 1)) (aw_s I L D)) (h0 : ¬ harm v → Q (some (.int 0)) (aw_s I L D)) : aw_m X d y_AW_isHarm [.int v] (aw_s I L D) Q :=
  aw_go rfl rfl (b_AW_isHarm_0 (fun x => h1 (Or.inl x)) (fun _ x => h1 (Or.inr (Or.inl x))) (fun a b k => h0 (fun x => x.elim a (fun x => x.elim b k))) (fun _ _ x => h1 (Or.inr (Or.inr x))))
theorem harm_n {j : Nat} (hj : j ≤ 5) : harm (nI j) ↔ 1 ≤ j ∧ j ≤ 3 := by
  have e1 : (nI j = (1 : Int32)) = (j = 1) := eqI (k := 1) (by omega) (by decide)
  have e2 : (nI j = (2 : Int32)) = (j = 2) := eqI (k := 2) (by omega) (by decide)
  have e3 : (nI j = (3 : Int32)) = (j = 3) := eqI (k := 3) (by omega) (by decide)
  unfold harm
  rw [e1, e2, e3]
  omega
theorem c_M_isHarm {E : PE} {F' : Nat} (hE : p_end B F' E) (h1 : harm E.1 → Q (some (.int 1)) (aw_s I L D)) (h0 : ¬ harm E.1 → Q (some (.int 0)) (aw_s I L D)) : aw_m X d y_M_isHarm [.int E.1] (aw_s I L D) Q := by
  obtain ⟨e, sp, pc, stk, cs, nm, cl, sp0, bg, ds, ak, ys, tr⟩ := E
  obtain ⟨⟨j, hj, rfl⟩, -⟩ := hE
  have h1 : harm (nI j) → Q (some (.int 1)) (aw_s I L D) := h1
  have h0 : ¬ harm (nI j) → Q (some (.int 0)) (aw_s I L D) := h0
  rw [harm_n hj] at h1 h0
  have c1 : (nI j < (1 : Int32)) = (j < 1) := nI_lt' (b := 1) (by omega) (by decide)
  have c3 : ((3 : Int32) < nI j) = (3 < j) := nI_lt' (a := 3) (by decide) (by omega)
  refine aw_go rfl rfl (b_M_isHarm_0 (fun x => h0 ?_) (fun x y => h0 ?_) (fun x y => h1 ?_))
  · rw [c1] at x; omega
  · rw [c3] at y; omega
  · rw [c1] at x; rw [c3] at y; omega
theorem c_Sz_letterRows (hk : SZok B T O) (h1 : I 1 0 = nI B) (h2 : I 1 1 = nI T) (hQ : Q (some (.int (nI (2 ^ (B * T))))) (aw_s I L D)) : aw_m X d y_Sz_letterRows [.ref 1] (aw_s I L D) Q := by
  refine aw_go rfl rfl (b_Sz_letterRows_0 ?_)
  rw [h1, h2, lets_e hk]; exact hQ
theorem l_harmedRow {E : Nat → PE} {m lk : Nat} (f0 : 0 < F) (f4 : F ≤ 40) (hrule : rule = -1 ∨ rg B rule) (hm : m ≤ B * (T + O)) (hlk : lk < 2 ^ m) (hE : ∀ r, RT1 S B T O F r rule (E r)) {I0 : Nat → Nat → Int32} {L0 : Nat → Nat → Int64}
    (hQ1 : (∀ r, r < 2 ^ m → ¬ harm (E r).1) → ∀ I' L', KFr I0 I' L0 L' → Q (some (.int (-1))) (aw_s I' L' D)) (hQ2 : ∀ r, r < 2 ^ m → harm (E r).1 → ∀ I' L', KFr I0 I' L0 L' → Q (some (.int (nI r))) (aw_s I' L' D)) :
    ∀ (n i : Nat) (I : Nat → Nat → Int32) (L : Nat → Nat → Int64), i + n = 2 ^ m → KIn S c B T O I L → KFr I0 I L0 L → (∀ j, j < i → ¬ harm (E ((lk + j) % 2 ^ m)).1) →
      aw_z X (d + 5) y_AW_harmedRow Q 27 [some (.ref 0), some (.ref c), some (.int (nI F)), some (.int rule), some (.int (nI lk)), some (.int (nI (2 ^ m))), some (.int (nI i)), none] [] (aw_s I L D) := by
  intro n
  induction n with
  | zero =>
    intro i I L e h f hj
    have hR := rows_lt h.2.2.2.1
    have p1 : 2 ^ m ≤ 2 ^ (B * (T + O)) := Nat.pow_le_pow_right (by decide) hm
    refine b_AW_harmedRow_27 (fun _ => hQ1 (fun r hr => ?_) I L f) (fun q => absurd ?_ q)
    · obtain ⟨j, j1, j2⟩ := mod_all hlk hr
      rw [← j2]; exact hj j (by omega)
    · rw [nI_leI (by omega) (by omega)]; omega
  | succ n ih =>
    intro i I L e h f hj
    have hR := rows_lt h.2.2.2.1
    have p1 : 2 ^ m ≤ 2 ^ (B * (T + O)) := Nat.pow_le_pow_right (by decide) hm
    have hx : (lk + i) % 2 ^ m < 2 ^ m := Nat.mod_lt _ (Nat.two_pow_pos m)
    have hm12 : m ≤ 12 := Nat.le_trans hm h.2.2.2.1.2.2.2.2.2
    have er : (nI lk + nI i) &&& (nI (2 ^ m) - 1) = nI ((lk + i) % 2 ^ m) := by rw [nI_add]; exact andR hm12 (by omega)
    refine b_AW_harmedRow_27 (fun q => ?_) (fun _ => ?_)
    · rw [nI_leI (by omega) (by omega)] at q; omega
    · rw [er]
      refine k_launchA h f0 f4 (by omega) hrule (hE _) (fun I1 L1 f1 => b_AW_harmedRow_58 (c_AW_isHarm (fun g => b_AW_harmedRow_61 (fun x => absurd x (by decide)) (fun _ => hQ2 _ hx g I1 L1 (f.tr f1))) (fun g => b_AW_harmedRow_61 (fun _ => ?_) (fun x => absurd rfl x))))
      rw [nI_1]
      refine ih (i + 1) I1 L1 (by omega) (h.fr f1) (f.tr f1) (fun j hj' => ?_)
      by_cases q : j = i
      · subst q; exact g
      · exact hj j (by omega)
theorem c_AW_harmedRow {E : Nat → PE} {m lk : Nat} (h : KIn S c B T O I L) (f0 : 0 < F) (f4 : F ≤ 40) (hrule : (rule = -1 ∧ m = B * (T + O)) ∨ (¬ rule = -1 ∧ rg B rule ∧ m = B * T)) (hlk : lk < 2 ^ m) (hE : ∀ r, RT1 S B T O F r rule (E r))
    (hQ1 : (∀ r, r < 2 ^ m → ¬ harm (E r).1) → ∀ I' L', KFr I I' L L' → Q (some (.int (-1))) (aw_s I' L' D)) (hQ2 : ∀ r, r < 2 ^ m → harm (E r).1 → ∀ I' L', KFr I I' L L' → Q (some (.int (nI r))) (aw_s I' L' D)) :
    aw_m X (d + 5) y_AW_harmedRow [.ref 0, .ref c, .int (nI F), .int rule, .int (nI lk)] (aw_s I L D) Q := by
  have hk := h.2.2.2.1
  have le := (lets_le hk).1
  refine aw_go rfl rfl (b_AW_harmedRow_0 (fun q => c_Sz_letterRows hk h.2.2.2.2.1 h.2.2.2.2.2.1 (b_AW_harmedRow_22 ?_)) (fun q => c_Sz_rows (d := d + 3) hk h.2.2.2.2.1 h.2.2.2.2.2.1 h.2.2.2.2.2.2 (b_AW_harmedRow_12 (b_AW_harmedRow_22 ?_))))
  · rcases hrule with ⟨a, -⟩ | ⟨-, a, rfl⟩
    · exact absurd a q
    · exact l_harmedRow (I0 := I) (L0 := L) f0 f4 (Or.inr a) le hlk hE hQ1 hQ2 _ 0 I L (Nat.zero_add _) h KFr.rf (fun j x => absurd x (Nat.not_lt_zero j))
  · rcases hrule with ⟨-, rfl⟩ | ⟨a, -⟩
    · exact l_harmedRow (I0 := I) (L0 := L) f0 f4 (Or.inl q) (Nat.le_refl _) hlk hE hQ1 hQ2 _ 0 I L (Nat.zero_add _) h KFr.rf (fun j x => absurd x (Nat.not_lt_zero j))
    · exact absurd q a
end RULE
