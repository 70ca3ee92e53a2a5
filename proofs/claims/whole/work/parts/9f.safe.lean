/-! PART 9f: safe of both -/
/-- how many below k it holds for, and the first for which it does not -/
def sfc (g : Nat → Bool) : Nat → Nat × Int32
  | 0 => (0, -1)
  | k + 1 => if g k = true then ((sfc g k).1 + 1, (sfc g k).2) else ((sfc g k).1, if (sfc g k).2 = -1 then nI k else (sfc g k).2)
theorem sfc_le (g : Nat → Bool) : ∀ k, (sfc g k).1 ≤ k
  | 0 => Nat.le_refl _
  | k + 1 => by
    have := sfc_le g k
    rw [sfc]
    split
    · show (sfc g k).1 + 1 ≤ k + 1
      omega
    · show (sfc g k).1 ≤ k + 1
      omega
theorem rows_mul {B T O : Nat} : 2 ^ (B * (T + O)) = 2 ^ (B * O) * 2 ^ (B * T) := by
  rw [← Nat.pow_add, Nat.mul_add, Nat.add_comm]
theorem row_lt {a A R x : Nat} (ha : a < A) (hx : x < R) : x + a * R < A * R := by
  have h : (a + 1) * R ≤ A * R := Nat.mul_le_mul_right _ ha
  rw [Nat.add_mul, Nat.one_mul] at h
  omega
section SAFE
variable {X : aw_X} {d d2 : Nat} {Q : Option Value → aw_H → Prop} {I : Nat → Nat → Int32} {L : Nat → Nat → Int64} {D : Nat → Nat} {S : PT} {c s B T O F r : Nat} {v v1 v2 v3 rule : Int32}
theorem answ_e (hk : SZok B T O) : (1 : Int32) <<< ((nI B * nI O) &&& 31) = nI (2 ^ (B * O)) := by
  have h : B * O ≤ B * (T + O) := Nat.mul_le_mul_left _ (by omega)
  rw [pk_mul]; exact bit_e (Nat.le_trans h hk.2.2.2.2.2)
theorem c_Sz_answerRows (hk : SZok B T O) (h1 : I 1 0 = nI B) (h2 : I 1 2 = nI O) (hQ : Q (some (.int (nI (2 ^ (B * O))))) (aw_s I L D)) : aw_m X d y_Sz_answerRows [.ref 1] (aw_s I L D) Q := by
  refine aw_go rfl rfl (b_Sz_answerRows_0 ?_)
  rw [h1, h2, answ_e hk]; exact hQ
theorem l_AW_isSafe {E : Nat → PE} {x : Nat} (f0 : 0 < F) (f4 : F ≤ 40) (hx : x < 2 ^ (B * T)) (hE : ∀ r, RT1 S B T O F r (-1) (E r)) {I0 : Nat → Nat → Int32} {L0 : Nat → Nat → Int64}
    (hQ1 : (∀ a, a < 2 ^ (B * O) → ¬ harm (E (x + a * 2 ^ (B * T))).1) → ∀ I' L', KFr I0 I' L0 L' → Q (some (.int 1)) (aw_s I' L' D)) (hQ0 : ¬ (∀ a, a < 2 ^ (B * O) → ¬ harm (E (x + a * 2 ^ (B * T))).1) → ∀ I' L', KFr I0 I' L0 L' → Q (some (.int 0)) (aw_s I' L' D)) :
    ∀ (n a : Nat) (I : Nat → Nat → Int32) (L : Nat → Nat → Int64), a + n = 2 ^ (B * O) → KIn S c B T O I L → KFr I0 I L0 L → (∀ b, b < a → ¬ harm (E (x + b * 2 ^ (B * T))).1) →
      aw_z X (d + 6) y_AW_isSafe Q 3 [some (.ref 0), some (.ref c), some (.int (nI x)), some (.int (nI F)), some (.int (nI a)), none] [] (aw_s I L D) := by
  intro n
  induction n with
  | zero =>
    intro a I L e h f hb
    have hk := h.2.2.2.1
    have hR := rows_lt hk
    have rm := rows_mul (B := B) (T := T) (O := O)
    have p1 : 2 ^ (B * O) ≤ 2 ^ (B * (T + O)) := Nat.pow_le_pow_right (by decide) (Nat.mul_le_mul_left _ (by omega))
    refine b_AW_isSafe_3 (c_Sz_answerRows hk h.2.2.2.2.1 h.2.2.2.2.2.2 (b_AW_isSafe_12 (fun _ => hQ1 (fun b hb' => hb b (by omega)) I L f) (fun q => absurd ?_ q)))
    rw [nI_leI (by omega) (by omega)]; omega
  | succ n ih =>
    intro a I L e h f hb
    have hk := h.2.2.2.1
    have hR := rows_lt hk
    have rm := rows_mul (B := B) (T := T) (O := O)
    have p1 : 2 ^ (B * O) ≤ 2 ^ (B * (T + O)) := Nat.pow_le_pow_right (by decide) (Nat.mul_le_mul_left _ (by omega))
    have hr : x + a * 2 ^ (B * T) < 2 ^ (B * (T + O)) := by rw [rm]; exact row_lt (by omega) hx
    refine b_AW_isSafe_3 (c_Sz_answerRows hk h.2.2.2.2.1 h.2.2.2.2.2.2 (b_AW_isSafe_12 (fun q => ?_) (fun _ => c_Sz_letterRows hk h.2.2.2.2.1 h.2.2.2.2.2.1 (b_AW_isSafe_25 ?_))))
    · rw [nI_leI (by omega) (by omega)] at q; omega
    · rw [pk_mul, nI_add]
      refine k_launch h f0 f4 hr (hE _) (fun I1 L1 f1 => b_AW_isSafe_40 (c_AW_isHarm (fun g => b_AW_isSafe_43 (fun q => absurd q (by decide)) (fun _ => hQ0 (fun z => z a (by omega) g) I1 L1 (f.tr f1))) (fun g => b_AW_isSafe_43 (fun _ => ?_) (fun q => absurd rfl q))))
      rw [nI_1]
      refine ih (a + 1) I1 L1 (by omega) (h.fr f1) (f.tr f1) (fun b hb' => ?_)
      by_cases q : b = a
      · subst q; exact g
      · exact hb b (by omega)
theorem KIn.u12 {u : Int32} (h : KIn S c B T O I L) : KIn S c B T O (aw_u I 0 12 u) L := by
  obtain ⟨a, b, k, e, s1, s2, s3⟩ := h
  obtain ⟨b1, b2⟩ := codes_bd b
  exact ⟨a, b, k.fr (fun o x y => au_o (by omega)) rfl, e, by rw [au_o (by decide)]; exact s1, by rw [au_o (by decide)]; exact s2, by rw [au_o (by decide)]; exact s3⟩
theorem KFr.u12 {I0 I : Nat → Nat → Int32} {L0 L : Nat → Nat → Int64} {u w : Int32} (h : KFr (aw_u I0 0 12 u) I L0 L) : KFr (aw_u I0 0 12 w) (aw_u I 0 12 w) L0 L := by
  obtain ⟨a, b, k⟩ := h
  refine ⟨fun o h1 h2 h3 h4 h5 h6 => ?_, ?_, k⟩
  · by_cases g : o = 0
    · subst g
      funext x
      by_cases q : x = 12
      · subst q; rw [au_s, au_s]
      · rw [au_k q, au_k q, a 0 h1 h2 h3 h4 h5 h6, au_k q]
    · rw [au_o g, au_o g, a o h1 h2 h3 h4 h5 h6, au_o g]
  · rw [au_o (by decide), au_o (by decide), b, au_o (by decide)]
theorem l_AW_safe {E : Nat → PE} {g : Nat → Bool} (f0 : 0 < F) (f4 : F ≤ 40) (hE : ∀ r, RT1 S B T O F r (-1) (E r)) (hg : ∀ x, g x = true ↔ ∀ a, a < 2 ^ (B * O) → ¬ harm (E (x + a * 2 ^ (B * T))).1) {I0 : Nat → Nat → Int32} {L0 : Nat → Nat → Int64}
    (hQ : ∀ I' L', KFr (aw_u I0 0 12 (sfc g (2 ^ (B * T))).2) I' L0 L' → Q (some (.int (nI (sfc g (2 ^ (B * T))).1))) (aw_s I' L' D)) :
    ∀ (n x : Nat) (I : Nat → Nat → Int32) (L : Nat → Nat → Int64), x + n = 2 ^ (B * T) → KIn S c B T O I L → KFr (aw_u I0 0 12 (sfc g x).2) I L0 L →
      aw_z X (d + 7) y_AW_safe Q 30 [some (.ref 0), none, some (.int (nI F)), some (.ref c), some (.int (nI (sfc g x).1)), some (.int (nI x))] [] (aw_s I L D) := by
  intro n
  induction n with
  | zero =>
    intro x I L e h f
    have hk := h.2.2.2.1
    have lt12 : 2 ^ (B * T) ≤ 2 ^ 12 := Nat.pow_le_pow_right (by decide) (lets_le hk).2
    have ex : x = 2 ^ (B * T) := by omega
    refine b_AW_safe_30 (c_Sz_letterRows hk h.2.2.2.2.1 h.2.2.2.2.2.1 (b_AW_safe_39 (fun _ => ?_) (fun q => absurd ?_ q)))
    · rw [ex] at f ⊢; exact hQ I L f
    · rw [nI_leI (by omega) (by omega)]; omega
  | succ n ih =>
    intro x I L e h f
    have hk := h.2.2.2.1
    have lt12 : 2 ^ (B * T) ≤ 2 ^ 12 := Nat.pow_le_pow_right (by decide) (lets_le hk).2
    refine b_AW_safe_30 (c_Sz_letterRows hk h.2.2.2.2.1 h.2.2.2.2.2.1 (b_AW_safe_39 (fun q => ?_) (fun _ => aw_go rfl rfl (b_AW_isSafe_0 (l_AW_isSafe (d := d) (E := E) (I0 := I) (L0 := L) f0 f4 (show x < 2 ^ (B * T) by omega) hE (fun hs I1 L1 f1 => b_AW_safe_50 (fun z => absurd z (by decide)) (fun z => absurd z (by decide)) (fun _ => ?_)) (fun hs I1 L1 f1 => b_AW_safe_50 (fun _ hu => ?_) (fun _ hu => ?_) (fun z => absurd rfl z)) (2 ^ (B * O)) 0 I L (Nat.zero_add _) h KFr.rf (fun b z => absurd z (Nat.not_lt_zero b)))))))
    · rw [nI_leI (by omega) (by omega)] at q; omega
    · have gx : g x = true := (hg x).mpr hs
      have es : sfc g (x + 1) = ((sfc g x).1 + 1, (sfc g x).2) := by rw [sfc, if_pos gx]
      have t := ih (x + 1) I1 L1 (by omega) (h.fr f1) (by rw [es]; exact f.tr f1)
      rw [es] at t
      rw [nI_1, nI_1]; exact t
    all_goals
      have gx : ¬ g x = true := fun z => hs ((hg x).mp z)
      have u12 : I1 0 12 = (sfc g x).2 := by
        rw [(f.tr f1).1 0 (by decide) (by decide) (by decide) (by decide) (by decide) (by decide), au_s]
      rw [u12] at hu
    · have es : sfc g (x + 1) = ((sfc g x).1, (sfc g x).2) := by rw [sfc, if_neg gx, if_neg hu]
      have t := ih (x + 1) I1 L1 (by omega) (h.fr f1) (by rw [es]; exact f.tr f1)
      rw [es] at t
      rw [nI_1]; exact t
    · have es : sfc g (x + 1) = ((sfc g x).1, nI x) := by rw [sfc, if_neg gx, if_pos hu]
      have t := ih (x + 1) (aw_u I1 0 12 (nI x)) L1 (by omega) (h.fr f1).u12 (by rw [es]; exact (f.tr f1).u12)
      rw [es] at t
      rw [nI_1]; exact t
end SAFE
