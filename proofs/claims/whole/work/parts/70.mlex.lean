/-! PART 70: the reference's tokens -/
def kdl : List Nat := [16, 18, 15, 3, 0, 3, 1, 12, 12, 0, 3, 5, 12, 12, 0, 9, 6, 0, 0, 0, 5, 12, 19, 5, 0, 23, 8, 9, 12, 5, 13, 21, 19, 20, 0, 12, 5, 20, 0, 0, 1, 19, 11, 0, 0, 5, 14, 4, 0, 0, 15, 18, 0, 0, 0, 1, 14, 4, 0, 0]
def kyd (w i : Nat) : Nat := kdl.getD (5 * w + i) 0
def kcl : List Nat := [328458, 60114, 63030, 249, 107681, 12387497, 271721, 8903, 1253, 4027, 423, 1111]
def kyC (w : Nat) : Nat := kcl.getD w 0
def wcN (d : Nat → Nat) : Nat → Nat
  | 0 => 0
  | k + 1 => 27 * wcN d k + d k
theorem kyC_big : ∀ w, w < 12 → 26 < kyC w ∧ kyC w < 2 ^ 31 := by decide +kernel
theorem wch_kyd : ∀ w, w < 12 → ∀ i, i < 5 → wch (5 * w + i) = if kyd w i = 0 then 32 else nI (kyd w i + 96) := by decide +kernel
theorem kyd_le : ∀ w, w < 12 → ∀ i, i < 5 → kyd w i ≤ 26 := by decide +kernel
theorem wcN_5 (d : Nat → Nat) : wcN d 2 = 27 * d 0 + d 1 ∧ wcN d 3 = 27 * (27 * d 0 + d 1) + d 2 ∧ wcN d 4 = 27 * (27 * (27 * d 0 + d 1) + d 2) + d 3 ∧ wcN d 5 = 27 * (27 * (27 * (27 * d 0 + d 1) + d 2) + d 3) + d 4 := by
  simp [wcN]
theorem key_len (d : Nat → Nat) (len : Nat) (h2 : 2 ≤ len) (h5 : len ≤ 5) (hd : ∀ i, i < len → 1 ≤ d i ∧ d i ≤ 26) (a0 a1 a2 a3 a4 c : Nat) (h0 : 1 ≤ a0 ∧ a0 ≤ 26) (h1 : 1 ≤ a1 ∧ a1 ≤ 26)
    (hc : (a2 = 0 ∧ a3 = 0 ∧ a4 = 0 ∧ c = 27 * a0 + a1) ∨ ((1 ≤ a2 ∧ a2 ≤ 26) ∧ a3 = 0 ∧ a4 = 0 ∧ c = 27 * (27 * a0 + a1) + a2) ∨ ((1 ≤ a2 ∧ a2 ≤ 26) ∧ (1 ≤ a3 ∧ a3 ≤ 26) ∧ a4 = 0 ∧ c = 27 * (27 * (27 * a0 + a1) + a2) + a3) ∨ ((1 ≤ a2 ∧ a2 ≤ 26) ∧ (1 ≤ a3 ∧ a3 ≤ 26) ∧ (1 ≤ a4 ∧ a4 ≤ 26) ∧ c = 27 * (27 * (27 * (27 * a0 + a1) + a2) + a3) + a4)) :
    wcN d len = c ↔ (d 0 = a0 ∧ d 1 = a1 ∧ (if 2 < len then d 2 else 0) = a2 ∧ (if 3 < len then d 3 else 0) = a3 ∧ (if 4 < len then d 4 else 0) = a4) := by
  obtain ⟨w2, w3, w4, w5⟩ := wcN_5 d
  have b0 := hd 0 (by omega)
  have b1 := hd 1 (by omega)
  rcases (show len = 2 ∨ len = 3 ∨ len = 4 ∨ len = 5 by omega) with rfl | rfl | rfl | rfl
  · rw [w2, if_neg (by decide), if_neg (by decide), if_neg (by decide)]
    omega
  · have b2 := hd 2 (by omega)
    rw [w3, if_pos (by decide), if_neg (by decide), if_neg (by decide)]
    omega
  · have b2 := hd 2 (by omega)
    have b3 := hd 3 (by omega)
    rw [w4, if_pos (by decide), if_pos (by decide), if_neg (by decide)]
    omega
  · have b2 := hd 2 (by omega)
    have b3 := hd 3 (by omega)
    have b4 := hd 4 (by omega)
    rw [w5, if_pos (by decide), if_pos (by decide), if_pos (by decide)]
    omega
theorem ky_shape : ∀ w, w < 12 → (1 ≤ kyd w 0 ∧ kyd w 0 ≤ 26) ∧ (1 ≤ kyd w 1 ∧ kyd w 1 ≤ 26) ∧ ((kyd w 2 = 0 ∧ kyd w 3 = 0 ∧ kyd w 4 = 0 ∧ kyC w = 27 * kyd w 0 + kyd w 1) ∨ ((1 ≤ kyd w 2 ∧ kyd w 2 ≤ 26) ∧ kyd w 3 = 0 ∧ kyd w 4 = 0 ∧ kyC w = 27 * (27 * kyd w 0 + kyd w 1) + kyd w 2) ∨ ((1 ≤ kyd w 2 ∧ kyd w 2 ≤ 26) ∧ (1 ≤ kyd w 3 ∧ kyd w 3 ≤ 26) ∧ kyd w 4 = 0 ∧ kyC w = 27 * (27 * (27 * kyd w 0 + kyd w 1) + kyd w 2) + kyd w 3) ∨ ((1 ≤ kyd w 2 ∧ kyd w 2 ≤ 26) ∧ (1 ≤ kyd w 3 ∧ kyd w 3 ≤ 26) ∧ (1 ≤ kyd w 4 ∧ kyd w 4 ≤ 26) ∧ kyC w = 27 * (27 * (27 * (27 * kyd w 0 + kyd w 1) + kyd w 2) + kyd w 3) + kyd w 4)) := by decide +kernel
theorem key_iff (d : Nat → Nat) (len w : Nat) (h2 : 2 ≤ len) (h5 : len ≤ 5) (hw : w < 12) (hd : ∀ i, i < len → 1 ≤ d i ∧ d i ≤ 26) : wcN d len = kyC w ↔ ∀ i, i < 5 → (if i < len then d i else 0) = kyd w i := by
  obtain ⟨s0, s1, s2⟩ := ky_shape w hw
  rw [key_len d len h2 h5 hd _ _ _ _ _ _ s0 s1 s2]
  constructor
  · rintro ⟨e0, e1, e2, e3, e4⟩ i hi
    rcases (show i = 0 ∨ i = 1 ∨ i = 2 ∨ i = 3 ∨ i = 4 by omega) with rfl | rfl | rfl | rfl | rfl
    · rw [if_pos (by omega)]; exact e0
    · rw [if_pos (by omega)]; exact e1
    · exact e2
    · exact e3
    · exact e4
  · intro h
    have e0 := h 0 (by decide)
    have e1 := h 1 (by decide)
    rw [if_pos (by omega)] at e0 e1
    exact ⟨e0, e1, h 2 (by decide), h 3 (by decide), h 4 (by decide)⟩
theorem wMt_iff {bt : Nat → Int32} {q len w : Nat} {d : Nat → Nat} (h2 : 2 ≤ len) (h5 : len ≤ 5) (hw : w < 12) (hd : ∀ i, i < len → 1 ≤ d i ∧ d i ≤ 26) (hb : ∀ i, i < len → bt (q + i) = nI (d i + 96)) : wMt bt q len w ↔ wcN d len = kyC w := by
  rw [key_iff d len w h2 h5 hw hd]
  unfold wMt
  have one : ∀ i, i < 5 → ((if i < len then bt (q + i) else 32) = wch (5 * w + i) ↔ (if i < len then d i else 0) = kyd w i) := by
    intro i hi
    rw [wch_kyd w hw i hi]
    have hk := kyd_le w hw i hi
    by_cases g : i < len
    · have hdi := hd i g
      rw [if_pos g, if_pos g, hb i g]
      by_cases k0 : kyd w i = 0
      · rw [if_pos k0, k0]
        have : (nI (d i + 96) = 32) = (d i + 96 = 32) := nI_eq' (b := 32) (by omega) (by decide)
        rw [this]; omega
      · rw [if_neg k0, nI_eq (by omega) (by omega)]; omega
    · rw [if_neg g, if_neg g]
      by_cases k0 : kyd w i = 0
      · rw [if_pos k0, k0]; simp
      · rw [if_neg k0]
        have : ((32 : Int32) = nI (kyd w i + 96)) = (32 = kyd w i + 96) := nI_eq' (a := 32) (by decide) (by omega)
        rw [this]; omega
  exact ⟨fun h i hi => (one i hi).mp (h i hi), fun h i hi => (one i hi).mpr (h i hi)⟩
/-- the reference stands at a token: its kind there, number, sign, word -/
def mT (K V kd nb sg : Int32) (wd : Int64) : Prop :=
  (K = 0 ∧ (kd = 1 ∨ (kd = 2 ∧ ∃ m, wd = lN m ∧ m < 2 ^ 31 ∧ ¬ (1 ≤ m ∧ m ≤ 8) ∧ ¬ (16 ≤ m ∧ m ≤ 19) ∧ ∀ w, w < 12 → m ≠ kyC w))) ∨
  (K = 1 ∧ kd = 0) ∨
  (K = 2 ∧ kd = 2 ∧ ∃ v, v < 8 ∧ V = nI v ∧ wd = lN (v + 1)) ∨
  (K = 3 ∧ kd = 2 ∧ ∃ v, v < 4 ∧ V = nI v ∧ wd = lN (v + 16)) ∨
  (K = 4 ∧ kd = 3 ∧ nb = V) ∨
  (∃ w, w < 12 ∧ K = nI (w + 5) ∧ kd = 2 ∧ wd = lN (kyC w)) ∨
  (K ∈ mks ∧ kd = 4 ∧ sg = K)
def wcI (bt : Nat → Int32) (q : Nat) : Nat → Int64
  | 0 => 0
  | k + 1 => ((27 : Int64) * wcI bt q k + (bt (q + k)).toInt64) - (96 : Int64)
theorem wcN_lt (d : Nat → Nat) (hd : ∀ i, d i ≤ 26) : ∀ k, k ≤ 5 → wcN d k < 27 ^ k
  | 0, _ => by simp [wcN]
  | k + 1, h => by
    have := wcN_lt d hd k (by omega)
    have := hd k
    simp only [wcN, Nat.pow_succ]
    omega
theorem wcN_up (d d' : Nat → Nat) : ∀ k, (∀ i, i < k → d i = d' i) → wcN d k = wcN d' k
  | 0, _ => rfl
  | k + 1, h => by simp only [wcN]; rw [wcN_up d d' k (fun i hi => h i (by omega)), h k (by omega)]
theorem wcI_wcN {bt : Nat → Int32} {q : Nat} {d : Nat → Nat} : ∀ k, (∀ i, i < k → 1 ≤ d i ∧ d i ≤ 26) → (∀ i, i < k → bt (q + i) = nI (d i + 96)) → wcI bt q k = lN (wcN d k)
  | 0, _, _ => rfl
  | k + 1, hd, hb => by
    have := hd k (Nat.lt_succ_self k)
    simp only [wcI, wcN]
    rw [wcI_wcN k (fun i hi => hd i (by omega)) (fun i hi => hb i (by omega)), hb k (Nat.lt_succ_self k), nI_l (by omega)]
    rw [show (27 : Int64) = lN 27 from rfl, show (96 : Int64) = lN 96 from rfl, lN_mul, lN_add, lN_sub (by omega)]
    congr 1
theorem wcN_big (d : Nat → Nat) (n : Nat) (h : 1 ≤ d n) : 26 < wcN d (n + 2) := by
  simp only [wcN]
  omega
theorem isLt_dig {x : Int32} (h : isLt x) : ∃ m, 1 ≤ m ∧ m ≤ 26 ∧ x = nI (m + 96) := by
  obtain ⟨v, hv, e⟩ := sub_rng (a := 97) (n := 25) (by decide) (by decide) h.1 h.2
  refine ⟨v + 1, by omega, by omega, ?_⟩
  have : x = nI v + nI 97 := by rw [← e, Int32.sub_add_cancel]
  rw [this, nI_add]
theorem isLt_notDg {x : Int32} (h : isLt x) : ¬ isDg x := by
  obtain ⟨m, h1, h2, rfl⟩ := isLt_dig h
  rintro ⟨a, b⟩
  have : ((57 : Int32) < nI (m + 96)) = (57 < m + 96) := nI_lt' (a := 57) (by decide) (by omega)
  rw [this] at b
  omega
/-- the reference's tape -/
def MTp (I : Nat → Nat → Int32) (bt : Nat → Int32) (z : Nat) : Prop := I 69 3 = nI z ∧ z ≤ 540 ∧ ∀ j, j < z → I 70 j = bt j
section MLEX
variable {X : aw_X} {d : Nat} {Q : Option Value → aw_H → Prop} {I : Nat → Nat → Int32} {L : Nat → Nat → Int64} {D : Nat → Nat}
theorem c_M_isLetter {x : Int32} (h1 : isLt x → Q (some (.int 1)) (aw_s I L D)) (h0 : ¬ isLt x → Q (some (.int 0)) (aw_s I L D)) : aw_m X d y_M_isLetter [.int x] (aw_s I L D) Q :=
  aw_go rfl rfl (b_M_isLetter_0 (fun q => h0 (fun h => h.1 q)) (fun _ q2 => h0 (fun h => h.2 q2)) (fun q q2 => h1 ⟨q, q2⟩))
theorem c_M_isDigit {x : Int32} (h1 : isDg x → Q (some (.int 1)) (aw_s I L D)) (h0 : ¬ isDg x → Q (some (.int 0)) (aw_s I L D)) : aw_m X d y_M_isDigit [.int x] (aw_s I L D) Q :=
  aw_go rfl rfl (b_M_isDigit_0 (fun q => h0 (fun h => h.1 q)) (fun _ q2 => h0 (fun h => h.2 q2)) (fun q q2 => h1 ⟨q, q2⟩))
theorem c_M_isMark {x : Int32} (h1 : x ∈ mks → Q (some (.int 1)) (aw_s I L D)) (h0 : ¬ x ∈ mks → Q (some (.int 0)) (aw_s I L D)) : aw_m X d y_M_isMark [.int x] (aw_s I L D) Q := by
  have e : (x ∈ mks) = (x = 59 ∨ x = 123 ∨ x = 125 ∨ x = 40 ∨ x = 41 ∨ x = 91 ∨ x = 93 ∨ x = 43 ∨ x = 45 ∨ x = 42 ∨ x = 47 ∨ x = 61 ∨ x = 60 ∨ x = 62 ∨ x = 35) := by
    simp only [mks, List.mem_cons, List.not_mem_nil, or_false]
  rw [e] at h0 h1
  refine aw_go rfl rfl (b_M_isMark_0 (fun q => h1 ?_) (fun _ q => h1 ?_) (fun _ _ q => h1 ?_) (fun _ _ _ q => h1 ?_) (fun _ _ _ _ q => h1 ?_) (fun _ _ _ _ _ q => h1 ?_) (fun _ _ _ _ _ _ _ q => h1 ?_) (fun _ _ _ _ _ _ _ _ q => h1 ?_) (fun _ _ _ _ _ _ _ _ _ q => h1 ?_) (fun _ _ _ _ _ _ _ _ _ _ q => h1 ?_) (fun _ _ _ _ _ _ _ _ _ _ _ q => h1 ?_) (fun _ _ _ _ _ _ _ _ _ _ _ _ q => h1 ?_) (fun _ _ _ _ _ _ _ _ _ _ _ _ _ q => h1 ?_) (fun a1 a2 a3 a4 a5 a6 a7 a8 a9 a10 a11 a12 a13 a14 a15 => h0 ?_) (fun _ _ _ _ _ _ _ _ _ _ _ _ _ _ q => h1 ?_) (fun _ _ _ _ _ _ q => h1 ?_))
  all_goals first
    | (simp only [q, true_or, or_true]; done)
    | (rintro (g | g | g | g | g | g | g | g | g | g | g | g | g | g | g) <;> contradiction)
theorem c_M_byteAt {bt : Nat → Int32} {z p : Nat} (hT : MTp I bt z) (hp : p ≤ z) (h : ∀ x, (p < z → x = bt p) → (p = z → x = 0) → Q (some (.int x)) (aw_s I L D)) : aw_m X d y_M_byteAt [.ref 69, .int (nI p)] (aw_s I L D) Q := by
  obtain ⟨t1, t2, t3⟩ := hT
  have B0 := @b_M_byteAt_0 X d Q I L D (nI p)
  rw [t1, nI_clamp (show p < 2 ^ 31 by omega), nI_leI (by omega) (by omega)] at B0
  exact aw_go rfl rfl (B0 (fun q => h 0 (fun g => absurd g (by omega)) (fun _ => rfl)) (fun q => aw_in_nI (by omega) (by decide)) (fun q => h _ (fun g => t3 p g) (fun g => absurd g (by omega))))
/-- behind the word's last sign: what the token is -/
theorem mT_word {bt : Nat → Int32} {q e : Nat} {K V sg : Int32} {gd lt : Prop} (hqe : q < e) (how : ∀ j, q ≤ j → j < e → isOw (bt j)) (hW : tkW bt q e K V) (hl : lt ↔ isLt (bt q)) (hg : gd ↔ ∀ j, q ≤ j → j < e → (isLt (bt j) ↔ isLt (bt q))) :
    (gd → lt → e - q ≤ 5 → mT K V 2 (numV bt q (min (e - q) 3)) sg (wcI bt q (min (e - q) 5))) ∧ (gd → ¬ lt → e - q ≤ 3 → mT K V 3 (numV bt q (min (e - q) 3)) sg (wcI bt q (min (e - q) 5))) ∧ ((¬ gd ∨ (lt ∧ 5 < e - q) ∨ (¬ lt ∧ 3 < e - q)) → mT K V 1 (numV bt q (min (e - q) 3)) sg (wcI bt q (min (e - q) 5))) := by
  have lt_or : ∀ j, q ≤ j → j < e → ¬ isDg (bt j) → isLt (bt j) := fun j a b n => (how j a b).resolve_right n
  rcases hW with ⟨had, h⟩ | ⟨⟨j1, a1, a2, a3⟩, ⟨j2, c1, c2, c3⟩, rfl⟩ | ⟨hnd, h⟩
  · -- a number
    have hnl : ¬ lt := fun g => isLt_notDg (hl.mp g) (had q (Nat.le_refl _) hqe)
    refine ⟨fun _ g => absurd g hnl, fun _ _ g3 => ?_, fun g => ?_⟩
    · rcases h with ⟨_, rfl, rfl⟩ | ⟨g, -⟩
      · exact Or.inr (Or.inr (Or.inr (Or.inr (Or.inl ⟨rfl, rfl, by rw [Nat.min_eq_left g3]⟩))))
      · omega
    · have gd1 : gd := hg.mpr (fun j a b => ⟨fun x => absurd (had j a b) (isLt_notDg x), fun x => absurd (hl.mpr x) hnl⟩)
      rcases h with ⟨g3, -⟩ | ⟨g, rfl⟩
      · rcases g with g | ⟨g, -⟩ | ⟨-, g⟩
        · exact absurd gd1 g
        · exact absurd g hnl
        · omega
      · exact Or.inl ⟨rfl, Or.inl rfl⟩
  · -- both
    have ngd : ¬ gd := fun g => by
      have x1 := hg.mp g j1 a1 a2
      have x2 := hg.mp g j2 c1 c2
      have l2 := lt_or j2 c1 c2 c3
      exact isLt_notDg (x1.mpr (x2.mp l2)) a3
    exact ⟨fun g => absurd g ngd, fun g => absurd g ngd, fun _ => Or.inl ⟨rfl, Or.inl rfl⟩⟩
  · -- a word
    have hal : ∀ j, q ≤ j → j < e → isLt (bt j) := fun j a b => lt_or j a b (hnd j a b)
    have hlt : lt := hl.mpr (hal q (Nat.le_refl _) hqe)
    have hgd : gd := hg.mpr (fun j a b => ⟨fun _ => hl.mp hlt, fun _ => hal j a b⟩)
    have hex : ∀ i : Nat, ∃ m : Nat, i < e - q → (1 ≤ m ∧ m ≤ 26 ∧ bt (q + i) = nI (m + 96)) := fun i => by
      by_cases g : i < e - q
      · obtain ⟨m, x1, x2, x3⟩ := isLt_dig (hal (q + i) (by omega) (by omega))
        exact ⟨m, fun _ => ⟨x1, x2, x3⟩⟩
      · exact ⟨0, fun x => absurd x g⟩
    obtain ⟨dd, hdd⟩ := Classical.axiomOfChoice hex
    refine ⟨fun _ _ g5 => ?_, fun _ g => absurd hlt g, fun g => ?_⟩
    · have em : min (e - q) 5 = e - q := Nat.min_eq_left g5
      have hw : wcI bt q (e - q) = lN (wcN dd (e - q)) := wcI_wcN (e - q) (fun i hi => ⟨(hdd i hi).1, (hdd i hi).2.1⟩) (fun i hi => (hdd i hi).2.2)
      rw [em, hw]
      rcases h with ⟨e1, hK⟩ | ⟨g, -⟩ | ⟨g2, -, h⟩
      · have es : e - q = 1 := by omega
        obtain ⟨m1, m2, m3⟩ := hdd 0 (by omega)
        have ew : wcN dd 1 = dd 0 := by simp [wcN]
        rw [es, ew]
        rw [Nat.add_zero] at m3
        have l97 : (bt q < (97 : Int32)) = (dd 0 + 96 < 97) := by rw [m3]; exact nI_lt' (b := 97) (by omega) (by decide)
        have l104 : ((104 : Int32) < bt q) = (104 < dd 0 + 96) := by rw [m3]; exact nI_lt' (a := 104) (by decide) (by omega)
        have l112 : (bt q < (112 : Int32)) = (dd 0 + 96 < 112) := by rw [m3]; exact nI_lt' (b := 112) (by omega) (by decide)
        have l115 : ((115 : Int32) < bt q) = (115 < dd 0 + 96) := by rw [m3]; exact nI_lt' (a := 115) (by decide) (by omega)
        unfold letK at hK
        rw [l97, l104, l112, l115] at hK
        rcases hK with ⟨x1, x2, rfl, rfl⟩ | ⟨x1, x2, rfl, rfl⟩ | ⟨x1, x2, rfl⟩
        · refine Or.inr (Or.inr (Or.inl ⟨rfl, rfl, dd 0 - 1, by omega, ?_, ?_⟩))
          · rw [m3, show (97 : Int32) = nI 97 from rfl, pk_sub (by omega)]
            congr 1
          · exact congrArg lN (by omega)
        · refine Or.inr (Or.inr (Or.inr (Or.inl ⟨rfl, rfl, dd 0 - 16, by omega, ?_, ?_⟩)))
          · rw [m3, show (112 : Int32) = nI 112 from rfl, pk_sub (by omega)]
            exact congrArg nI (by omega)
          · exact congrArg lN (by omega)
        · exact Or.inl ⟨rfl, Or.inr ⟨rfl, dd 0, rfl, by omega, by omega, by omega, fun w hw => by have := (kyC_big w hw).1; omega⟩⟩
      · omega
      · have hb : wcN dd (e - q) < 27 ^ 5 := by
          have h1 := wcN_up dd (fun i => if i < e - q then dd i else 0) (e - q) (fun i hi => by rw [if_pos hi])
          rw [h1]
          refine Nat.lt_of_lt_of_le (wcN_lt _ (fun i => ?_) (e - q) g5) (Nat.pow_le_pow_right (by decide) g5)
          split
          · next g => exact (hdd i g).2.1
          · omega
        have hbig : 26 < wcN dd (e - q) := by
          have e2 : e - q - 2 + 2 = e - q := Nat.sub_add_cancel g2
          rw [← e2]
          exact wcN_big dd _ (hdd (e - q - 2) (Nat.sub_lt (Nat.lt_of_lt_of_le (by decide) g2) (by decide))).1
        have iff := fun w (hw : w < 12) => wMt_iff (bt := bt) (q := q) (d := dd) g2 g5 hw (fun i hi => ⟨(hdd i hi).1, (hdd i hi).2.1⟩) (fun i hi => (hdd i hi).2.2)
        rcases h with ⟨w, hw, hm, rfl, -⟩ | ⟨rfl, hn⟩
        · exact Or.inr (Or.inr (Or.inr (Or.inr (Or.inr (Or.inl ⟨w, hw, rfl, rfl, by rw [(iff w hw).mp hm]⟩)))))
        · exact Or.inl ⟨rfl, Or.inr ⟨rfl, _, rfl, by omega, by omega, by omega, fun w hw g => hn w hw ((iff w hw).mpr g)⟩⟩
    · rcases g with g | ⟨-, g5⟩ | ⟨g, -⟩
      · exact absurd hgd g
      · rcases h with ⟨e1, -⟩ | ⟨-, rfl⟩ | ⟨-, x, -⟩
        · omega
        · exact Or.inl ⟨rfl, Or.inl rfl⟩
        · omega
      · exact absurd hlt g
end MLEX
