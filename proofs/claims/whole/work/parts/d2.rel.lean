/-! PART d2 (by gen_rel.py): what stands between two calls; each pair of calls keeps it -/
section RELN
variable {I I' : Nat → Nat → Int32} {L L' : Nat → Nat → Int64} {D : Nat → Nat}
theorem RT_n (h : RT I) (f : ∀ o k, (o = 2 ∧ k = 1) ∨ o = 3 ∨ (o = 69 ∧ k = 2) ∨ o = 70 → I' o k = I o k) : RT I' := h.fr (f 2 1 (by omega)) (funext fun k => f 3 k (by omega)) (f 69 2 (by omega)) (funext fun k => f 70 k (by omega))
theorem RBy_n (h : RBy I) (f : ∀ o k, o = 3 → I' o k = I o k) : RBy I' := fun j hj => by rw [f 3 j rfl]; exact h j hj
theorem RF_n (h : RF I) (f : ∀ o k, (o = 0 ∧ k = 9) ∨ (o = 69 ∧ k = 9) → I' o k = I o k) : RF I' := by
  unfold RF at *
  rw [f 0 9 (by omega), f 69 9 (by omega)]; exact h
theorem RSz_n (h : RSz I) (f : ∀ o k, (o = 1 ∧ k < 3) ∨ (o = 69 ∧ 33 ≤ k ∧ k ≤ 35) → I' o k = I o k) : RSz I' := by
  obtain ⟨B, T, O, a, b1, b2, b3, c1, c2, c3⟩ := h
  exact ⟨B, T, O, a, (f 1 0 (by omega)).trans b1, (f 1 1 (by omega)).trans b2, (f 1 2 (by omega)).trans b3, (f 69 33 (by omega)).trans c1, (f 69 34 (by omega)).trans c2, (f 69 35 (by omega)).trans c3⟩
theorem RCl_n (h : RCl I D) (f : ∀ o k, (D 4 ≤ o ∧ o ≤ D 4 + 4) ∨ (o = 69 ∧ k = 75) ∨ o = 106 → I' o k = I o k) (k6 : KSl 6 I I') : RCl I' D := h.fr (fun o p q => funext fun k => f o k (by omega)) (f 69 75 (by omega)) (funext fun k => f 106 k (by omega)) k6
theorem RPw_n (h : RPw I) (f : ∀ o k, o = 111 → I' o k = I o k) : RPw I' := fun j hj => by rw [f 111 j rfl]; exact h j hj
theorem RWk_n (h : RWk I L) (f : ∀ o k, (o = 1 ∧ k < 3) ∨ (11 ≤ o ∧ o ≤ 21) ∨ (o = 69 ∧ ((33 ≤ k ∧ k ≤ 36) ∨ (64 ≤ k ∧ k ≤ 67))) ∨ (90 ≤ o ∧ o ≤ 101) → I' o k = I o k) (g : ∀ o k, (11 ≤ o ∧ o ≤ 21) ∨ o = 89 ∨ o = 91 ∨ o = 92 → L' o k = L o k) (k4 : KSl 4 I I') : RWk I' L' :=
  h.fr (fun k hk => f 1 k (by omega)) (fun o p q => funext fun k => f o k (by omega)) (fun o p q => funext fun k => g o k (by omega)) (fun k p => f 69 k (by omega)) k4 (fun o p q => funext fun k => f o k (by omega)) (fun o p => funext fun k => g o k (by omega))
theorem RRow_n {N o k a o' k' a' : Nat} (h : RRow I N o k a o' k' a') (f : ∀ x j, (x = o ∧ j = k) ∨ (x = o' ∧ j = k') ∨ x = a ∨ x = a' → I' x j = I x j) : RRow I' N o k a o' k' a' := by
  obtain ⟨n, b1, b2, b3, b4⟩ := h
  exact ⟨n, b1, (f o k (Or.inl ⟨rfl, rfl⟩)).trans b2, (f o' k' (Or.inr (Or.inl ⟨rfl, rfl⟩))).trans b3, fun j hj => by rw [f a j (Or.inr (Or.inr (Or.inl rfl))), f a' j (Or.inr (Or.inr (Or.inr rfl)))]; exact b4 j hj⟩
theorem RGt_n (h : RGt I) (f : ∀ o k, (o = 0 ∧ k = 17) ∨ (o = 69 ∧ k = 85) ∨ o = 68 ∨ o = 114 → I' o k = I o k) : RGt I' := by
  rcases h with ⟨a, b⟩ | ⟨a, b, c⟩
  · exact Or.inl ⟨(f 0 17 (by omega)).trans a, (f 69 85 (by omega)).trans b⟩
  · exact Or.inr ⟨(f 0 17 (by omega)).trans a, (f 69 85 (by omega)).trans b, fun j hj => by rw [f 68 j (by omega), f 114 j (by omega)]; exact c j hj⟩
/-- all but the programs -/
def RelC (I : Nat → Nat → Int32) (L : Nat → Nat → Int64) (D : Nat → Nat) : Prop :=
  RT I ∧ RBy I ∧ RF I ∧ RSz I ∧ RCl I D ∧ RPw I ∧ RWk I L ∧ RRow I 2 0 11 66 69 71 105 ∧ RRow I 28 0 14 67 69 69 104 ∧ RRow I 511 23 8 28 69 83 112 ∧ RGt I ∧ I 69 48 = 0 ∧ I 4 19 = 0 ∧ I 0 12 = I 69 72 ∧ I 0 15 = I 69 73
/-- what stands between two calls -/
def Rel (I : Nat → Nat → Int32) (L : Nat → Nat → Int64) (D : Nat → Nat) : Prop := (∃ pg, RP pg I L D) ∧ RelC I L D
theorem RP_n {pg : Nat → PT} (h : RP pg I L D) (f : ∀ o k, (30 ≤ o ∧ o ≤ 59) ∨ (o = 69 ∧ k = 32) ∨ (71 ≤ o ∧ o ≤ 78) → I' o k = I o k) (g : ∀ o k, 30 ≤ o ∧ o ≤ 59 → L' o k = L o k) : RP pg I' L' D :=
  h.fr (fun o p q => funext fun k => f o k (by omega)) (fun o p q => g o 10 ⟨p, q⟩) (f 69 32 (by omega)) (fun o p q => funext fun k => f o k (by omega))
theorem KSl_n {x : Nat} (f : ∀ o k, 71 ≤ o ∧ o ≤ 78 → I' o k = I o k) : KSl x I I' := KSl.same (fun o p q => funext fun k => f o k ⟨p, q⟩)
theorem RP.d4 {pg : Nat → PT} (h : RP pg I L D) : 30 ≤ D 4 ∧ D 4 + 4 ≤ 59 := ⟨(codes_bd (h.1.1 4 (by decide))).1, by have := (codes_bd (h.1.1 4 (by decide))).2; omega⟩
theorem FRn_i (f : FRn I I' L L') : ∀ o k, ¬ (o = 5 ∨ o = 6 ∨ o = 7 ∨ o = 8 ∨ o = 10 ∨ o = 71 ∨ o = 73 ∨ (84 ≤ o ∧ o ≤ 88)) ∧ (o = 4 → k = 19) ∧ (o = 69 → ¬ (k = 0 ∨ k = 25 ∨ k = 32 ∨ (42 ≤ k ∧ k ≤ 45))) → I' o k = I o k := by
  intro o k hn
  obtain ⟨f1, f2, f3, -⟩ := f
  by_cases h4 : o = 4
  · subst h4; rw [hn.2.1 rfl]; exact f3
  · by_cases h9 : o = 69
    · subst h9; exact f2 k (by omega) (by omega) (by omega) (by omega) (by omega) (by omega) (by omega)
    · exact congrFun (f1 o (by omega) (by omega) (by omega) (by omega) (by omega) (by omega) (by omega) (by omega) (by omega) (by omega) (by omega) (by omega) (by omega) (by omega)) k
theorem RelC_frn (hb : 30 ≤ D 4 ∧ D 4 + 4 ≤ 59) (h : RelC I L D) (f : FRn I I' L L') : RelC I' L' D := by
  have i := FRn_i f
  have k4 := f.2.2.2.1
  have k6 := f.2.2.2.2.1
  have g : ∀ o k, o ≠ 4 ∧ o ≠ 9 ∧ o ≠ 69 → L' o k = L o k := fun o k p => congrFun (f.2.2.2.2.2.1 o p.1 p.2.1 p.2.2) k
  obtain ⟨a1, a2, a3, a4, a5, a6, a7, a8, a9, a10, a11, a12, a13, a14, a15⟩ := h
  exact ⟨RT_n a1 (fun o k hn => i o k (by omega)), RBy_n a2 (fun o k hn => i o k (by omega)), RF_n a3 (fun o k hn => i o k (by omega)), RSz_n a4 (fun o k hn => i o k (by omega)), RCl_n a5 (fun o k hn => i o k (by omega)) k6, RPw_n a6 (fun o k hn => i o k (by omega)), RWk_n a7 (fun o k hn => i o k (by omega)) (fun o k hn => g o k (by omega)) k4, RRow_n a8 (fun o k hn => i o k (by omega)), RRow_n a9 (fun o k hn => i o k (by omega)), RRow_n a10 (fun o k hn => i o k (by omega)), RGt_n a11 (fun o k hn => i o k (by omega)), (i 69 48 (by omega)).trans a12, (i 4 19 (by omega)).trans a13, by rw [i 0 12 (by omega), i 69 72 (by omega)]; exact a14, by rw [i 0 15 (by omega), i 69 73 (by omega)]; exact a15⟩
theorem RelC_u12 {u : Int32} (hb : 30 ≤ D 4 ∧ D 4 + 4 ≤ 59) (h : RelC I L D) : RelC (aw_u (aw_u I 0 12 u) 69 72 u) L D := by
  have i : ∀ o k, ¬ (o = 0 ∧ k = 12) ∧ ¬ (o = 69 ∧ k = 72) → aw_u (aw_u I 0 12 u) 69 72 u o k = I o k := fun o k p => by rw [au_ok (by omega), au_ok (by omega)]
  have k4 : KSl 4 I (aw_u (aw_u I 0 12 u) 69 72 u) := KSl_n (fun o k p => i o k (by omega))
  have k6 : KSl 6 I (aw_u (aw_u I 0 12 u) 69 72 u) := KSl_n (fun o k p => i o k (by omega))
  have g : ∀ o k, o = o ∧ k = k → L o k = L o k := fun _ _ _ => rfl
  obtain ⟨a1, a2, a3, a4, a5, a6, a7, a8, a9, a10, a11, a12, a13, a14, a15⟩ := h
  exact ⟨RT_n a1 (fun o k hn => i o k (by omega)), RBy_n a2 (fun o k hn => i o k (by omega)), RF_n a3 (fun o k hn => i o k (by omega)), RSz_n a4 (fun o k hn => i o k (by omega)), RCl_n a5 (fun o k hn => i o k (by omega)) k6, RPw_n a6 (fun o k hn => i o k (by omega)), RWk_n a7 (fun o k hn => i o k (by omega)) (fun o k hn => g o k (by omega)) k4, RRow_n a8 (fun o k hn => i o k (by omega)), RRow_n a9 (fun o k hn => i o k (by omega)), RRow_n a10 (fun o k hn => i o k (by omega)), RGt_n a11 (fun o k hn => i o k (by omega)), (i 69 48 (by omega)).trans a12, (i 4 19 (by omega)).trans a13, by rw [au_s, au_o (by decide), au_s], by rw [i 0 15 (by omega), i 69 73 (by omega)]; exact a15⟩
theorem RelC_o103 {w : Nat → Int32} (hb : 30 ≤ D 4 ∧ D 4 + 4 ≤ 59) (h : RelC I L D) : RelC (aw_o I 103 w) L D := by
  have i : ∀ o k, ¬ (o = 103 ∧ k = k) → aw_o I 103 w o k = I o k := fun o k p => by rw [aw_o_n _ _ (by omega)]
  have k4 : KSl 4 I (aw_o I 103 w) := KSl_n (fun o k p => i o k (by omega))
  have k6 : KSl 6 I (aw_o I 103 w) := KSl_n (fun o k p => i o k (by omega))
  have g : ∀ o k, o = o ∧ k = k → L o k = L o k := fun _ _ _ => rfl
  obtain ⟨a1, a2, a3, a4, a5, a6, a7, a8, a9, a10, a11, a12, a13, a14, a15⟩ := h
  exact ⟨RT_n a1 (fun o k hn => i o k (by omega)), RBy_n a2 (fun o k hn => i o k (by omega)), RF_n a3 (fun o k hn => i o k (by omega)), RSz_n a4 (fun o k hn => i o k (by omega)), RCl_n a5 (fun o k hn => i o k (by omega)) k6, RPw_n a6 (fun o k hn => i o k (by omega)), RWk_n a7 (fun o k hn => i o k (by omega)) (fun o k hn => g o k (by omega)) k4, RRow_n a8 (fun o k hn => i o k (by omega)), RRow_n a9 (fun o k hn => i o k (by omega)), RRow_n a10 (fun o k hn => i o k (by omega)), RGt_n a11 (fun o k hn => i o k (by omega)), (i 69 48 (by omega)).trans a12, (i 4 19 (by omega)).trans a13, by rw [i 0 12 (by omega), i 69 72 (by omega)]; exact a14, by rw [i 0 15 (by omega), i 69 73 (by omega)]; exact a15⟩
theorem RelC_z (hb : 30 ≤ D 4 ∧ D 4 + 4 ≤ 59) (h : RelC I L D) : RelC (aw_u I 69 0 0) L D := by
  have i : ∀ o k, ¬ (o = 69 ∧ k = 0) → aw_u I 69 0 0 o k = I o k := fun o k p => au_ok (by omega)
  have k4 : KSl 4 I (aw_u I 69 0 0) := KSl_n (fun o k p => i o k (by omega))
  have k6 : KSl 6 I (aw_u I 69 0 0) := KSl_n (fun o k p => i o k (by omega))
  have g : ∀ o k, o = o ∧ k = k → L o k = L o k := fun _ _ _ => rfl
  obtain ⟨a1, a2, a3, a4, a5, a6, a7, a8, a9, a10, a11, a12, a13, a14, a15⟩ := h
  exact ⟨RT_n a1 (fun o k hn => i o k (by omega)), RBy_n a2 (fun o k hn => i o k (by omega)), RF_n a3 (fun o k hn => i o k (by omega)), RSz_n a4 (fun o k hn => i o k (by omega)), RCl_n a5 (fun o k hn => i o k (by omega)) k6, RPw_n a6 (fun o k hn => i o k (by omega)), RWk_n a7 (fun o k hn => i o k (by omega)) (fun o k hn => g o k (by omega)) k4, RRow_n a8 (fun o k hn => i o k (by omega)), RRow_n a9 (fun o k hn => i o k (by omega)), RRow_n a10 (fun o k hn => i o k (by omega)), RGt_n a11 (fun o k hn => i o k (by omega)), (i 69 48 (by omega)).trans a12, (i 4 19 (by omega)).trans a13, by rw [i 0 12 (by omega), i 69 72 (by omega)]; exact a14, by rw [i 0 15 (by omega), i 69 73 (by omega)]; exact a15⟩
theorem Rel_z (h : Rel I L D) : Rel (aw_u I 69 0 0) L D := by
  obtain ⟨⟨pg, p⟩, c⟩ := h
  exact ⟨⟨pg, RP_n p (fun o k q => au_ok (by omega)) (fun _ _ _ => rfl)⟩, RelC_z p.d4 c⟩
end RELN
/-- a pair of calls, the class's and then the reference's, from where it stands to where it stands again -/
def PairQ (X : aw_X) (yK : aw_Y) (avK : List Value) (yM : aw_Y) (avM : List Value) (I : Nat → Nat → Int32) (L : Nat → Nat → Int64) (D : Nat → Nat) : Prop :=
  ∀ Q : Option Value → aw_H → Prop, (∀ r I1 L1 D1, (∀ Q2 : Option Value → aw_H → Prop, (∀ I2 L2 D2, Rel I2 L2 D2 → Q2 (some (.int r)) (aw_s I2 L2 D2)) → aw_m X 2047 yM avM (aw_s I1 L1 D1) Q2) → Q (some (.int r)) (aw_s I1 L1 D1)) → aw_m X 2047 yK avK (aw_s I L D) Q
section PAIRS
variable {X : aw_X} {I : Nat → Nat → Int32} {L : Nat → Nat → Int64} {D : Nat → Nat} {v v1 v2 v3 v4 v5 : Int32} {yK yM : aw_Y} {avK avM : List Value}
theorem GetP.pair (h : Rel I L D) (g : GetP X yK avK yM avM I) : PairQ X yK avK yM avM I L D := fun Q hQ => by
  obtain ⟨r, g⟩ := g
  exact (g 2046 L D).1 Q (hQ r I L D (fun Q2 hQ2 => (g 2046 L D).2 Q2 (hQ2 _ _ _ (Rel_z h))))
theorem GetW.pair {k : Nat} (hk : k ≤ 2047) (h : Rel I L D) (g : GetW X k yK avK yM avM I L D) : PairQ X yK avK yM avM I L D := fun Q hQ => by
  obtain ⟨r, g⟩ := g
  have e : 2047 = (2047 - k) + k := by omega
  rw [e]
  refine (g (2047 - k)).1 Q (hQ r I L D (fun Q2 hQ2 => ?_))
  rw [e]
  exact (g (2047 - k)).2 Q2 (hQ2 _ _ _ (Rel_z h))
theorem pr_fault (h : Rel I L D) : PairQ X y_AW_fault [.ref 0] y_M_fault [.ref 69] I L D := (q_fault h.2.2.2.1).pair h
theorem pr_mended (h : Rel I L D) : PairQ X y_AW_mended [.ref 0] y_M_mended [.ref 69] I L D := (q_mended h.2.2.2.2.2.2.2.2.2.2.2.2.2.2.2).pair h
theorem pr_us (h : Rel I L D) : PairQ X y_AW_unsafe [.ref 0] y_M_unsafe [.ref 69] I L D := (q_us h.2.2.2.2.2.2.2.2.2.2.2.2.2.2.1).pair h
theorem pr_count (h : Rel I L D) : PairQ X y_AW_count [.ref 0, .int v] y_M_count [.ref 69, .int v] I L D := (q_count h.2.2.2.2.1 h.2.1).pair h
theorem pr_coverAt (h : Rel I L D) : PairQ X y_AW_coverAt [.ref 0, .int v] y_M_coverAt [.ref 69, .int v] I L D := (q_coverAt h.2.2.2.2.2.2.2.2.1).pair h
theorem pr_lawAt (h : Rel I L D) : PairQ X y_AW_lawAt [.ref 0, .int v] y_M_lawAt [.ref 69, .int v] I L D := (q_lawAt h.2.2.2.2.2.2.2.2.2.1).pair h
theorem pr_proofAt (h : Rel I L D) : PairQ X y_AW_proofAt [.ref 0, .int v] y_M_proofAt [.ref 69, .int v] I L D := (q_proofAt h.2.2.2.2.2.2.2.2.2.2.1).pair h
theorem pr_got (h : Rel I L D) : PairQ X y_AW_got [.ref 0, .int v] y_M_got [.ref 69, .int v] I L D := (q_got h.2.2.2.2.2.2.2.2.2.2.2.1).pair h
theorem pr_went (h : Rel I L D) : PairQ X y_AW_went [.ref 0, .int v1, .int v2] y_M_went [.ref 69, .int v1, .int v2] I L D := (q_went h.2.2.2.2.2.2.2.1).pair (by decide) h
theorem pr_along (h : Rel I L D) : PairQ X y_AW_along [.ref 0, .int v1] y_M_along [.ref 69, .int v1] I L D := (q_along h.2.2.2.2.2.2.2.1).pair (by decide) h
theorem pr_least (h : Rel I L D) : PairQ X y_AW_least [.ref 0, .int v1, .int v2] y_M_least [.ref 69, .int v1, .int v2] I L D := (q_least h.2.2.2.2.2.2.2.1).pair (by decide) h
theorem pr_may (h : Rel I L D) : PairQ X y_AW_may [.ref 0, .int v1, .int v2, .int v3] y_M_may [.ref 69, .int v1, .int v2, .int v3] I L D := (q_may h.2.2.2.2.2.2.2.1).pair (by decide) h
theorem pr_rounds (h : Rel I L D) : PairQ X y_AW_rounds [.ref 0, .int v1, .int v2] y_M_rounds [.ref 69, .int v1, .int v2] I L D := (q_rounds h.2.2.2.2.2.2.2.1).pair (by decide) h
theorem pr_reach (h : Rel I L D) : PairQ X y_AW_reach [.ref 0, .int v1, .int v2, .int v3] y_M_reach [.ref 69, .int v1, .int v2, .int v3] I L D := fun Q hQ => by
  obtain ⟨⟨pg, p⟩, c⟩ := h
  exact q_reach (d := 2040) (d2 := 2042) p c.2.2.2.1 c.2.2.2.2.2.2.2.2.2.2.2.1 (fun r I1 L1 hM => hQ r I1 L1 D (fun Q2 hQ2 => hM Q2 (fun I2 L2 p2 _ f => hQ2 _ _ _ ⟨⟨pg, p2⟩, RelC_frn p.d4 c f⟩)))
theorem pr_alike (h : Rel I L D) : PairQ X y_AW_alike [.ref 0, .int v1, .int v2, .int v3] y_M_alike [.ref 69, .int v1, .int v2, .int v3] I L D := fun Q hQ => by
  obtain ⟨⟨pg, p⟩, c⟩ := h
  exact q_alike (d := 2040) (d2 := 2042) p c.2.2.2.1 c.2.2.2.2.2.2.2.2.2.2.2.1 (fun r I1 L1 hM => hQ r I1 L1 D (fun Q2 hQ2 => hM Q2 (fun I2 L2 p2 _ f => hQ2 _ _ _ ⟨⟨pg, p2⟩, RelC_frn p.d4 c f⟩)))
theorem pr_rule (h : Rel I L D) : PairQ X y_AW_rule [.ref 0, .int v1, .int v2] y_M_rule [.ref 69, .int v1, .int v2] I L D := fun Q hQ => by
  obtain ⟨⟨pg, p⟩, c⟩ := h
  exact q_rule (d := 2041) (d2 := 2043) p c.2.2.2.1 c.2.2.2.2.2.2.2.2.2.2.2.1 (fun r I1 L1 hM => hQ r I1 L1 D (fun Q2 hQ2 => hM Q2 (fun I2 L2 p2 _ f => hQ2 _ _ _ ⟨⟨pg, p2⟩, RelC_frn p.d4 c f⟩)))
theorem pr_safe (h : Rel I L D) : PairQ X y_AW_safe [.ref 0, .int v1, .int v2] y_M_safe [.ref 69, .int v1, .int v2] I L D := fun Q hQ => by
  obtain ⟨⟨pg, p⟩, c⟩ := h
  exact q_safe (d := 2040) (d2 := 2043) p c.2.2.2.1 c.2.2.2.2.2.2.2.2.2.2.2.1 (fun r I1 L1 hM => hQ r I1 L1 D (fun Q2 hQ2 => hM Q2 (fun I2 L2 p2 _ f => hQ2 _ _ _ ⟨⟨pg, p2⟩, by
    rcases f with f | ⟨u, f⟩
    · exact RelC_frn p.d4 c f
    · exact RelC_frn p.d4 (RelC_u12 p.d4 c) f⟩)))
theorem pr_hangs (h : Rel I L D) : PairQ X y_AW_hangs [.ref 0, .int v1, .int v2, .int v3] y_M_hangs [.ref 69, .int v1, .int v2, .int v3] I L D := fun Q hQ => by
  obtain ⟨⟨pg, p⟩, c⟩ := h
  exact q_hangs (d := 2039) (d2 := 2042) p c.2.2.2.1 c.2.2.2.2.2.2.2.2.2.2.2.1 (fun r I1 L1 hM => hQ r I1 L1 D (fun Q2 hQ2 => hM Q2 (fun I2 L2 p2 _ f => hQ2 _ _ _ ⟨⟨pg, p2⟩, RelC_frn p.d4 (RelC_o103 p.d4 c) f⟩)))
theorem pr_holds (h : Rel I L D) : PairQ X y_AW_holds [.ref 0] y_M_holds [.ref 69] I L D := fun Q hQ => by
  obtain ⟨⟨pg, p⟩, c⟩ := h
  refine q_holds (d := 2042) (d2 := 2043) p.1 c.2.2.2.2.1 c.2.2.2.1 (fun r I1 L1 hM => hQ r I1 L1 D (fun Q2 hQ2 => hM Q2 (fun I2 L2 _ f => hQ2 _ _ _ ⟨⟨pg, ?_⟩, RelC_frn p.d4 c f.n⟩)))
  obtain ⟨f1, f2, -, f4, -⟩ := f
  exact RP_n p (fun o k q => by
    by_cases h9 : o = 69
    · subst h9; exact f2 k (by omega) (by omega) (by omega) (by omega) (by omega) (by omega)
    · exact congrFun (f1 o (by omega) (by omega) (by omega) (by omega) (by omega) (by omega) (by omega) (by omega) (by omega) (by omega) (by omega) (by omega)) k) (fun o k q => congrFun (f4 o (by omega) (by omega) (by omega)) k)
theorem pr_run (h : Rel I L D) : PairQ X y_AW_run [.ref 0, .int v1, .int v2, .int v3] y_M_run [.ref 69, .int v1, .int v2, .int v3] I L D := fun Q hQ => by
  obtain ⟨⟨pg, p⟩, h⟩ := h
  have hb := p.d4
  have hc := h
  obtain ⟨a1, a2, a3, a4, a5, a6, a7, a8, a9, a10, a11, a12, a13, a14, a15⟩ := h
  refine q_run (d := 2041) (d2 := 2043) p a4 a12 a11 (fun r I1 L1 hM => hQ r I1 L1 D (fun Q2 hQ2 => hM Q2 (fun I2 L2 p2 g2 _ f => hQ2 _ _ _ ?_)))
  obtain ⟨f1, f2, f3, f4, f5, f6, f7, -⟩ := f
  have i : ∀ o k, ¬ (o = 5 ∨ o = 6 ∨ o = 7 ∨ o = 8 ∨ o = 10 ∨ o = 68 ∨ o = 71 ∨ o = 73 ∨ (84 ≤ o ∧ o ≤ 88) ∨ o = 114) ∧ (o = 4 → k = 19) ∧ (o = 0 → k ≠ 17) ∧ (o = 69 → ¬ (k = 0 ∨ k = 25 ∨ k = 32 ∨ (42 ≤ k ∧ k ≤ 45) ∨ k = 85)) → I2 o k = I o k := fun o k hn => by
    by_cases h4 : o = 4
    · subst h4; rw [hn.2.1 rfl]; exact f4
    · by_cases h9 : o = 69
      · subst h9; exact f3 k (by omega) (by omega) (by omega) (by omega) (by omega) (by omega) (by omega) (by omega)
      · by_cases h0 : o = 0
        · subst h0; exact f2 k (by omega)
        · exact congrFun (f1 o (by omega) (by omega) (by omega) (by omega) (by omega) (by omega) (by omega) (by omega) (by omega) (by omega) (by omega) (by omega) (by omega) (by omega) (by omega) (by omega) (by omega)) k
  have g : ∀ o k, o ≠ 4 ∧ o ≠ 9 ∧ o ≠ 69 → L2 o k = L o k := fun o k p => congrFun (f7 o p.1 p.2.1 p.2.2) k
  have k4 : KSl 4 I I2 := f5
  have k6 : KSl 6 I I2 := f6
  exact ⟨⟨_, p2⟩, ⟨RT_n a1 (fun o k hn => i o k (by omega)), RBy_n a2 (fun o k hn => i o k (by omega)), RF_n a3 (fun o k hn => i o k (by omega)), RSz_n a4 (fun o k hn => i o k (by omega)), RCl_n a5 (fun o k hn => i o k (by omega)) k6, RPw_n a6 (fun o k hn => i o k (by omega)), RWk_n a7 (fun o k hn => i o k (by omega)) (fun o k hn => g o k (by omega)) k4, RRow_n a8 (fun o k hn => i o k (by omega)), RRow_n a9 (fun o k hn => i o k (by omega)), RRow_n a10 (fun o k hn => i o k (by omega)), g2, (i 69 48 (by omega)).trans a12, (i 4 19 (by omega)).trans a13, by rw [i 0 12 (by omega), i 69 72 (by omega)]; exact a14, by rw [i 0 15 (by omega), i 69 73 (by omega)]; exact a15⟩⟩
theorem pr_mend (h : Rel I L D) : PairQ X y_AW_mend [.ref 0, .int v1, .int v2] y_M_mend [.ref 69, .int v1, .int v2] I L D := fun Q hQ => by
  obtain ⟨⟨pg, p⟩, h⟩ := h
  have hb := p.d4
  have hc := h
  obtain ⟨a1, a2, a3, a4, a5, a6, a7, a8, a9, a10, a11, a12, a13, a14, a15⟩ := h
  refine q_mend (d := 2040) (d2 := 2042) p a4 a12 (fun r I1 L1 hM => hQ r I1 L1 D (fun Q2 hQ2 => hM Q2 (fun I2 L2 u p2 _ f => hQ2 _ _ _ ?_)))
  obtain ⟨f1, f2, fa, fb, f3, f4, f5, f6, f7, -⟩ := f
  have i : ∀ o k, ¬ (o = 5 ∨ o = 6 ∨ o = 7 ∨ o = 8 ∨ o = 10 ∨ (71 ≤ o ∧ o ≤ 78) ∨ (84 ≤ o ∧ o ≤ 88)) ∧ (o = 4 → k = 19) ∧ (o = 0 → k ≠ 15) ∧ (o = 69 → ¬ (k = 0 ∨ k = 25 ∨ k = 32 ∨ (42 ≤ k ∧ k ≤ 45) ∨ k = 73)) → I2 o k = I o k := fun o k hn => by
    by_cases h4 : o = 4
    · subst h4; rw [hn.2.1 rfl]; exact f4
    · by_cases h9 : o = 69
      · subst h9; exact f3 k (by omega) (by omega) (by omega) (by omega) (by omega) (by omega) (by omega) (by omega)
      · by_cases h0 : o = 0
        · subst h0; exact f2 k (by omega)
        · exact congrFun (f1 o (by omega) (by omega) (by omega) (by omega) (by omega) (by omega) (by omega) (by omega) (by omega) (by omega) (by omega) (by omega) (by omega) (by omega)) k
  have g : ∀ o k, o ≠ 4 ∧ o ≠ 9 ∧ o ≠ 69 → L2 o k = L o k := fun o k p => congrFun (f7 o p.1 p.2.1 p.2.2) k
  have k4 : KSl 4 I I2 := f5
  have k6 : KSl 6 I I2 := f6
  exact ⟨⟨_, p2⟩, ⟨RT_n a1 (fun o k hn => i o k (by omega)), RBy_n a2 (fun o k hn => i o k (by omega)), RF_n a3 (fun o k hn => i o k (by omega)), RSz_n a4 (fun o k hn => i o k (by omega)), RCl_n a5 (fun o k hn => i o k (by omega)) k6, RPw_n a6 (fun o k hn => i o k (by omega)), RWk_n a7 (fun o k hn => i o k (by omega)) (fun o k hn => g o k (by omega)) k4, RRow_n a8 (fun o k hn => i o k (by omega)), RRow_n a9 (fun o k hn => i o k (by omega)), RRow_n a10 (fun o k hn => i o k (by omega)), RGt_n a11 (fun o k hn => i o k (by omega)), (i 69 48 (by omega)).trans a12, (i 4 19 (by omega)).trans a13, by rw [i 0 12 (by omega), i 69 72 (by omega)]; exact a14, by rw [fa, fb, a15]⟩⟩
theorem pr_walk (h : Rel I L D) : PairQ X y_AW_walk [.ref 0, .int v1, .int v2] y_M_walk [.ref 69, .int v1, .int v2] I L D := fun Q hQ => by
  obtain ⟨⟨pg, p⟩, h⟩ := h
  have hb := p.d4
  have hc := h
  obtain ⟨a1, a2, a3, a4, a5, a6, a7, a8, a9, a10, a11, a12, a13, a14, a15⟩ := h
  refine q_walk (d := 2040) (d2 := 2042) p a4 a12 a13 a7 (fun r I1 L1 hM => hQ r I1 L1 D (fun Q2 hQ2 => hM Q2 (fun I2 L2 p2 w2 _ f => hQ2 _ _ _ ?_)))
  obtain ⟨f1, f3, f4, f6, f7, -⟩ := f
  have i : ∀ o k, ¬ ((5 ≤ o ∧ o ≤ 21) ∨ (71 ≤ o ∧ o ≤ 78) ∨ (84 ≤ o ∧ o ≤ 88) ∨ (93 ≤ o ∧ o ≤ 103)) ∧ (o = 4 → k = 19) ∧ (o = 69 → ¬ (k = 0 ∨ k = 25 ∨ k = 32 ∨ k = 36 ∨ (42 ≤ k ∧ k ≤ 45) ∨ (64 ≤ k ∧ k ≤ 67))) → I2 o k = I o k := fun o k hn => by
    by_cases h4 : o = 4
    · subst h4; rw [hn.2.1 rfl]; exact f4
    · by_cases h9 : o = 69
      · subst h9; exact f3 k (by omega) (by omega) (by omega) (by omega) (by omega) (by omega) (by omega) (by omega) (by omega)
      · exact congrFun (f1 o (by omega) (by omega) (by omega) (by omega) (by omega)) k
  have k4 := trivial
  have k6 : KSl 6 I I2 := f6
  exact ⟨⟨_, p2⟩, ⟨RT_n a1 (fun o k hn => i o k (by omega)), RBy_n a2 (fun o k hn => i o k (by omega)), RF_n a3 (fun o k hn => i o k (by omega)), RSz_n a4 (fun o k hn => i o k (by omega)), RCl_n a5 (fun o k hn => i o k (by omega)) k6, RPw_n a6 (fun o k hn => i o k (by omega)), w2, RRow_n a8 (fun o k hn => i o k (by omega)), RRow_n a9 (fun o k hn => i o k (by omega)), RRow_n a10 (fun o k hn => i o k (by omega)), RGt_n a11 (fun o k hn => i o k (by omega)), (i 69 48 (by omega)).trans a12, (i 4 19 (by omega)).trans a13, by rw [i 0 12 (by omega), i 69 72 (by omega)]; exact a14, by rw [i 0 15 (by omega), i 69 73 (by omega)]; exact a15⟩⟩
theorem pr_program (h : Rel I L D) : PairQ X y_AW_program [.ref 0, .int v] y_M_program [.ref 69, .int v] I L D := fun Q hQ => by
  obtain ⟨⟨pg, p⟩, h⟩ := h
  have hb := p.d4
  have hc := h
  obtain ⟨a1, a2, a3, a4, a5, a6, a7, a8, a9, a10, a11, a12, a13, a14, a15⟩ := h
  refine q_program (d := 1845) (d2 := 2036) p a1 a3 (fun r I1 L1 D1 e4 hM => hQ r I1 L1 D1 (fun Q2 hQ2 => hM Q2 (fun I2 L2 pg2 p2 t2 b2 _ f => hQ2 _ _ _ ?_)))
  obtain ⟨f1, f2, -, f3, f4, f5, f6, f7⟩ := f
  have i : ∀ o k, ((o < 30 ∨ (66 ≤ o ∧ o ≤ 69) ∨ 84 ≤ o) ∨ (D 4 ≤ o ∧ o ≤ D 4 + 4)) ∧ ¬ (o = 0 ∧ k = 9) ∧ ¬ (o = 2 ∧ k = 1) ∧ (o = 69 → 33 ≤ k ∨ k = 1) → I2 o k = I o k := fun o k hn => by
    by_cases h9 : o = 69
    · subst h9; exact f3 k (by omega)
    · by_cases h8 : 84 ≤ o
      · exact congrFun (f4 o h8) k
      · by_cases h7 : D 4 ≤ o ∧ o ≤ D 4 + 4
        · exact congrFun (f2 o h7.1 h7.2) k
        · exact f1 o k (by omega) (by omega) (by omega)
  have c5 : RCl I2 D1 := by
    have c := RCl_n a5 (fun o k hn => i o k (by omega)) f6
    unfold RCl at c ⊢
    rw [e4]; exact c
  have g : ∀ o k, (o < 30 ∨ 70 ≤ o) → L2 o k = L o k := fun o k p => f7 o k (by omega) (by omega)
  have k4 : KSl 4 I I2 := f5
  have k6 : KSl 6 I I2 := f6
  exact ⟨⟨_, p2⟩, ⟨t2, RBy_n a2 (fun o k hn => i o k (by omega)), b2, RSz_n a4 (fun o k hn => i o k (by omega)), c5, RPw_n a6 (fun o k hn => i o k (by omega)), RWk_n a7 (fun o k hn => i o k (by omega)) (fun o k hn => g o k (by omega)) k4, RRow_n a8 (fun o k hn => i o k (by omega)), RRow_n a9 (fun o k hn => i o k (by omega)), RRow_n a10 (fun o k hn => i o k (by omega)), RGt_n a11 (fun o k hn => i o k (by omega)), (i 69 48 (by omega)).trans a12, (i 4 19 (by omega)).trans a13, by rw [i 0 12 (by omega), i 69 72 (by omega)]; exact a14, by rw [i 0 15 (by omega), i 69 73 (by omega)]; exact a15⟩⟩
theorem pr_claim (h : Rel I L D) : PairQ X y_AW_claim [.ref 0] y_M_claim [.ref 69] I L D := fun Q hQ => by
  obtain ⟨⟨pg, p⟩, h⟩ := h
  have hb := p.d4
  have hc := h
  obtain ⟨a1, a2, a3, a4, a5, a6, a7, a8, a9, a10, a11, a12, a13, a14, a15⟩ := h
  refine q_claim (d := 1844) (d2 := 2040) p a1 a5 (fun r I1 L1 D1 hM => hQ r I1 L1 D1 (fun Q2 hQ2 => hM Q2 (fun I2 L2 p2 t2 b2 c2 _ f => hQ2 _ _ _ ?_)))
  obtain ⟨f1, f3, f4, f5, f7⟩ := f
  have i : ∀ o k, (o < 30 ∨ (66 ≤ o ∧ o ≤ 69) ∨ (84 ≤ o ∧ o ≠ 106 ∧ o ≠ 107)) ∧ ¬ (o = 0 ∧ k = 9) ∧ ¬ (o = 2 ∧ k = 1) ∧ (o = 69 → (33 ≤ k ∨ k = 1) ∧ k ≠ 75) → I2 o k = I o k := fun o k hn => by
    by_cases h9 : o = 69
    · subst h9; exact f3 k (by omega) (by omega)
    · by_cases h8 : 84 ≤ o
      · exact congrFun (f4 o h8 (by omega) (by omega)) k
      · exact f1 o k (by omega) (by omega) (by omega)
  have g : ∀ o k, (o < 30 ∨ 70 ≤ o) → L2 o k = L o k := fun o k p => f7 o k (by omega) (by omega)
  have k4 : KSl 4 I I2 := f5
  have k6 := trivial
  exact ⟨⟨_, p2⟩, ⟨t2, RBy_n a2 (fun o k hn => i o k (by omega)), b2, RSz_n a4 (fun o k hn => i o k (by omega)), c2, RPw_n a6 (fun o k hn => i o k (by omega)), RWk_n a7 (fun o k hn => i o k (by omega)) (fun o k hn => g o k (by omega)) k4, RRow_n a8 (fun o k hn => i o k (by omega)), RRow_n a9 (fun o k hn => i o k (by omega)), RRow_n a10 (fun o k hn => i o k (by omega)), RGt_n a11 (fun o k hn => i o k (by omega)), (i 69 48 (by omega)).trans a12, (i 4 19 (by omega)).trans a13, by rw [i 0 12 (by omega), i 69 72 (by omega)]; exact a14, by rw [i 0 15 (by omega), i 69 73 (by omega)]; exact a15⟩⟩
theorem pr_proof (h : Rel I L D) : PairQ X y_AW_proof [.ref 0] y_M_proof [.ref 69] I L D := fun Q hQ => by
  obtain ⟨⟨pg, p⟩, h⟩ := h
  have hb := p.d4
  have hc := h
  obtain ⟨a1, a2, a3, a4, a5, a6, a7, a8, a9, a10, a11, a12, a13, a14, a15⟩ := h
  refine q_proof (d := 2040) (d2 := 2041) p.1 a5 a4 a6 a1 a10 (fun r I1 L1 hM => hQ r I1 L1 D (fun Q2 hQ2 => hM Q2 (fun I2 L2 r2 t2 _ f => hQ2 _ _ _ ?_)))
  obtain ⟨f1, f3, f4, f7, -⟩ := f
  have i : ∀ o k, ¬ (o = 5 ∨ o = 6 ∨ o = 7 ∨ o = 8 ∨ o = 10 ∨ (23 ≤ o ∧ o ≤ 28) ∨ (84 ≤ o ∧ o ≤ 88) ∨ (108 ≤ o ∧ o ≤ 110) ∨ o = 112 ∨ o = 113 ∨ (o = 2 ∧ k = 1)) ∧ (o = 4 → k = 19) ∧ (o = 69 → ¬ (k = 0 ∨ k = 2 ∨ k = 25 ∨ (42 ≤ k ∧ k ≤ 45) ∨ k = 83)) → I2 o k = I o k := fun o k hn => by
    by_cases h4 : o = 4
    · subst h4; rw [hn.2.1 rfl]; exact f4
    · by_cases h9 : o = 69
      · subst h9; exact f3 k (by omega) (by omega) (by omega) (by omega) (by omega) (by omega) (by omega) (by omega)
      · exact f1 o k (by omega) (by omega) (by omega) (by omega) (by omega) (by omega) (by omega) (by omega) (by omega) (by omega) (by omega) (by omega) (by omega) (by omega) (by omega)
  have g : ∀ o k, o ≠ 4 ∧ o ≠ 9 ∧ o ≠ 69 → L2 o k = L o k := fun o k p => congrFun (f7 o p.1 p.2.1 p.2.2) k
  have k4 : KSl 4 I I2 := KSl_n (fun o k q => i o k (by omega))
  have k6 : KSl 6 I I2 := KSl_n (fun o k q => i o k (by omega))
  exact ⟨⟨_, RP_n p (fun o k q => i o k (by omega)) (fun o k q => g o k (by omega))⟩, ⟨t2, RBy_n a2 (fun o k hn => i o k (by omega)), RF_n a3 (fun o k hn => i o k (by omega)), RSz_n a4 (fun o k hn => i o k (by omega)), RCl_n a5 (fun o k hn => i o k (by omega)) k6, RPw_n a6 (fun o k hn => i o k (by omega)), RWk_n a7 (fun o k hn => i o k (by omega)) (fun o k hn => g o k (by omega)) k4, RRow_n a8 (fun o k hn => i o k (by omega)), RRow_n a9 (fun o k hn => i o k (by omega)), r2, RGt_n a11 (fun o k hn => i o k (by omega)), (i 69 48 (by omega)).trans a12, (i 4 19 (by omega)).trans a13, by rw [i 0 12 (by omega), i 69 72 (by omega)]; exact a14, by rw [i 0 15 (by omega), i 69 73 (by omega)]; exact a15⟩⟩
theorem pr_check (h : Rel I L D) : PairQ X y_AW_check [.ref 0] y_M_check [.ref 69] I L D := fun Q hQ => by
  obtain ⟨⟨pg, p⟩, h⟩ := h
  have hb := p.d4
  have hc := h
  obtain ⟨a1, a2, a3, a4, a5, a6, a7, a8, a9, a10, a11, a12, a13, a14, a15⟩ := h
  refine q_check (d := 2040) (d2 := 2041) p.1 a5 a4 a6 a1 a2 (fun r I1 L1 hM => hQ r I1 L1 D (fun Q2 hQ2 => hM Q2 (fun I2 L2 t2 b1 b2 b3 b4 _ f => hQ2 _ _ _ ?_)))
  obtain ⟨f1, f3, f4, f7, -⟩ := f
  have i : ∀ o k, ¬ (o = 5 ∨ o = 6 ∨ o = 7 ∨ o = 8 ∨ o = 10 ∨ (23 ≤ o ∧ o ≤ 28) ∨ (84 ≤ o ∧ o ≤ 88) ∨ (108 ≤ o ∧ o ≤ 110) ∨ o = 112 ∨ o = 113 ∨ (o = 2 ∧ k = 1)) ∧ (o = 4 → k = 19) ∧ (o = 69 → ¬ (k = 0 ∨ k = 2 ∨ k = 25 ∨ (42 ≤ k ∧ k ≤ 45) ∨ k = 83)) → I2 o k = I o k := fun o k hn => by
    by_cases h4 : o = 4
    · subst h4; rw [hn.2.1 rfl]; exact f4
    · by_cases h9 : o = 69
      · subst h9; exact f3 k (by omega) (by omega) (by omega) (by omega) (by omega) (by omega) (by omega) (by omega)
      · exact f1 o k (by omega) (by omega) (by omega) (by omega) (by omega) (by omega) (by omega) (by omega) (by omega) (by omega) (by omega) (by omega) (by omega) (by omega) (by omega)
  have c3 : RRow I2 511 23 8 28 69 83 112 := RRow_n a10 (fun x j hn => by
    rcases hn with ⟨rfl, rfl⟩ | ⟨rfl, rfl⟩ | rfl | rfl
    · exact b1
    · exact b3
    · exact congrFun b2 j
    · exact congrFun b4 j)
  have g : ∀ o k, o ≠ 4 ∧ o ≠ 9 ∧ o ≠ 69 → L2 o k = L o k := fun o k p => congrFun (f7 o p.1 p.2.1 p.2.2) k
  have k4 : KSl 4 I I2 := KSl_n (fun o k q => i o k (by omega))
  have k6 : KSl 6 I I2 := KSl_n (fun o k q => i o k (by omega))
  exact ⟨⟨_, RP_n p (fun o k q => i o k (by omega)) (fun o k q => g o k (by omega))⟩, ⟨t2, RBy_n a2 (fun o k hn => i o k (by omega)), RF_n a3 (fun o k hn => i o k (by omega)), RSz_n a4 (fun o k hn => i o k (by omega)), RCl_n a5 (fun o k hn => i o k (by omega)) k6, RPw_n a6 (fun o k hn => i o k (by omega)), RWk_n a7 (fun o k hn => i o k (by omega)) (fun o k hn => g o k (by omega)) k4, RRow_n a8 (fun o k hn => i o k (by omega)), RRow_n a9 (fun o k hn => i o k (by omega)), c3, RGt_n a11 (fun o k hn => i o k (by omega)), (i 69 48 (by omega)).trans a12, (i 4 19 (by omega)).trans a13, by rw [i 0 12 (by omega), i 69 72 (by omega)]; exact a14, by rw [i 0 15 (by omega), i 69 73 (by omega)]; exact a15⟩⟩
theorem pr_laws (h : Rel I L D) : PairQ X y_AW_laws [.ref 0, .int v1] y_M_laws [.ref 69, .int v1] I L D := fun Q hQ => by
  obtain ⟨⟨pg, p⟩, h⟩ := h
  have hb := p.d4
  have hc := h
  obtain ⟨a1, a2, a3, a4, a5, a6, a7, a8, a9, a10, a11, a12, a13, a14, a15⟩ := h
  refine q_laws (d := 2044) (d2 := 2041) a7 a12 a9 (fun r I1 hM => hQ r I1 L D (fun Q2 hQ2 => hM Q2 (fun I2 L2 w2 r2 _ f => hQ2 _ _ _ ?_)))
  obtain ⟨f1, f3, f7, -⟩ := f
  have i : ∀ o k, ¬ (o = 67 ∨ o = 104 ∨ (84 ≤ o ∧ o ≤ 88) ∨ o = 90 ∨ (o = 0 ∧ k = 14)) ∧ (o = 69 → ¬ (k = 0 ∨ k = 25 ∨ (42 ≤ k ∧ k ≤ 45) ∨ k = 66 ∨ k = 69)) → I2 o k = I o k := fun o k hn => by
    by_cases h9 : o = 69
    · subst h9; exact f3 k (by omega) (by omega) (by omega) (by omega) (by omega) (by omega) (by omega) (by omega)
    · exact f1 o k (by omega) (by omega) (by omega) (by omega) (by omega) (by omega)
  have g : ∀ o k, o ≠ 69 → L2 o k = L o k := fun o k p => congrFun (f7 o p) k
  have k4 : KSl 4 I I2 := KSl_n (fun o k q => i o k (by omega))
  have k6 : KSl 6 I I2 := KSl_n (fun o k q => i o k (by omega))
  exact ⟨⟨_, RP_n p (fun o k q => i o k (by omega)) (fun o k q => g o k (by omega))⟩, ⟨RT_n a1 (fun o k hn => i o k (by omega)), RBy_n a2 (fun o k hn => i o k (by omega)), RF_n a3 (fun o k hn => i o k (by omega)), RSz_n a4 (fun o k hn => i o k (by omega)), RCl_n a5 (fun o k hn => i o k (by omega)) k6, RPw_n a6 (fun o k hn => i o k (by omega)), w2, RRow_n a8 (fun o k hn => i o k (by omega)), r2, RRow_n a10 (fun o k hn => i o k (by omega)), RGt_n a11 (fun o k hn => i o k (by omega)), (i 69 48 (by omega)).trans a12, (i 4 19 (by omega)).trans a13, by rw [i 0 12 (by omega), i 69 72 (by omega)]; exact a14, by rw [i 0 15 (by omega), i 69 73 (by omega)]; exact a15⟩⟩
theorem pr_cover (h : Rel I L D) : PairQ X y_AW_cover [.ref 0] y_M_cover [.ref 69] I L D := fun Q hQ => by
  obtain ⟨⟨pg, p⟩, h⟩ := h
  have hb := p.d4
  have hc := h
  obtain ⟨a1, a2, a3, a4, a5, a6, a7, a8, a9, a10, a11, a12, a13, a14, a15⟩ := h
  refine q_cover (d := 2043) (d2 := 2046) a7 a8 (fun r I1 hM => hQ r I1 L D (fun Q2 hQ2 => hM Q2 (fun I2 w2 r2 _ f => hQ2 _ _ _ ?_)))
  have i : ∀ o k, ¬ (o = 22 ∨ o = 66 ∨ o = 105 ∨ (o = 0 ∧ k = 11) ∨ (o = 69 ∧ (k = 0 ∨ k = 71))) → I2 o k = I o k := fun o k hn => f o k (by omega) (by omega) (by omega) (by omega) (by omega)
  have g : ∀ o k, o = o ∧ k = k → L o k = L o k := fun _ _ _ => rfl
  have k4 : KSl 4 I I2 := KSl_n (fun o k q => i o k (by omega))
  have k6 : KSl 6 I I2 := KSl_n (fun o k q => i o k (by omega))
  exact ⟨⟨_, RP_n p (fun o k q => i o k (by omega)) (fun o k q => g o k (by omega))⟩, ⟨RT_n a1 (fun o k hn => i o k (by omega)), RBy_n a2 (fun o k hn => i o k (by omega)), RF_n a3 (fun o k hn => i o k (by omega)), RSz_n a4 (fun o k hn => i o k (by omega)), RCl_n a5 (fun o k hn => i o k (by omega)) k6, RPw_n a6 (fun o k hn => i o k (by omega)), w2, r2, RRow_n a9 (fun o k hn => i o k (by omega)), RRow_n a10 (fun o k hn => i o k (by omega)), RGt_n a11 (fun o k hn => i o k (by omega)), (i 69 48 (by omega)).trans a12, (i 4 19 (by omega)).trans a13, by rw [i 0 12 (by omega), i 69 72 (by omega)]; exact a14, by rw [i 0 15 (by omega), i 69 73 (by omega)]; exact a15⟩⟩
theorem pr_law (h : Rel I L D) : PairQ X y_AW_law [.ref 0, .int v1, .int v2, .int v3, .int v4] y_M_law [.ref 69, .int v1, .int v2, .int v3, .int v4] I L D := fun Q hQ => by
  obtain ⟨⟨pg, p⟩, h⟩ := h
  have hb := p.d4
  have hc := h
  obtain ⟨a1, a2, a3, a4, a5, a6, a7, a8, a9, a10, a11, a12, a13, a14, a15⟩ := h
  obtain ⟨r, g1, g2⟩ := q_law (X := X) (D := D) (v1 := v1) (v2 := v2) (v3 := v3) (v4 := v4) a7 a12
  refine g1 2044 Q (hQ r I L D (fun Q2 hQ2 => g2 2041 Q2 (fun I2 L2 w2 _ f => hQ2 _ _ _ ?_)))
  obtain ⟨f1, f3, f7, -⟩ := f
  have i : ∀ o k, ¬ ((84 ≤ o ∧ o ≤ 88) ∨ o = 90) ∧ (o = 69 → ¬ (k = 0 ∨ k = 25 ∨ (42 ≤ k ∧ k ≤ 45) ∨ k = 66)) → I2 o k = I o k := fun o k hn => by
    by_cases h9 : o = 69
    · subst h9; exact f3 k (by omega) (by omega) (by omega) (by omega) (by omega) (by omega) (by omega)
    · exact congrFun (f1 o (by omega) (by omega) (by omega)) k
  have g : ∀ o k, o ≠ 69 → L2 o k = L o k := fun o k p => congrFun (f7 o p) k
  have k4 : KSl 4 I I2 := KSl_n (fun o k q => i o k (by omega))
  have k6 : KSl 6 I I2 := KSl_n (fun o k q => i o k (by omega))
  exact ⟨⟨_, RP_n p (fun o k q => i o k (by omega)) (fun o k q => g o k (by omega))⟩, ⟨RT_n a1 (fun o k hn => i o k (by omega)), RBy_n a2 (fun o k hn => i o k (by omega)), RF_n a3 (fun o k hn => i o k (by omega)), RSz_n a4 (fun o k hn => i o k (by omega)), RCl_n a5 (fun o k hn => i o k (by omega)) k6, RPw_n a6 (fun o k hn => i o k (by omega)), w2, RRow_n a8 (fun o k hn => i o k (by omega)), RRow_n a9 (fun o k hn => i o k (by omega)), RRow_n a10 (fun o k hn => i o k (by omega)), RGt_n a11 (fun o k hn => i o k (by omega)), (i 69 48 (by omega)).trans a12, (i 4 19 (by omega)).trans a13, by rw [i 0 12 (by omega), i 69 72 (by omega)]; exact a14, by rw [i 0 15 (by omega), i 69 73 (by omega)]; exact a15⟩⟩
theorem pr_end (h : Rel I L D) : PairQ X y_AW_end [.ref 0, .int v1] y_M_end [.ref 69, .int v1] I L D := fun Q hQ => by
  obtain ⟨⟨pg, p⟩, h⟩ := h
  have hb := p.d4
  have hc := h
  obtain ⟨a1, a2, a3, a4, a5, a6, a7, a8, a9, a10, a11, a12, a13, a14, a15⟩ := h
  refine q_end (d := 2046) (d2 := 2047) a1 (fun r I1 f1 hM => hQ r I1 L D (fun Q2 hQ2 => hM Q2 (fun I2 t2 _ f2 => hQ2 _ _ _ ?_)))
  have i : ∀ o k, ¬ (o = 2 ∧ k = 1) ∧ ¬ (o = 69 ∧ (k = 0 ∨ k = 2)) → I2 o k = I o k := fun o k hn => (f2 o k (by omega)).trans (f1 o k (by omega))
  have g : ∀ o k, o = o ∧ k = k → L o k = L o k := fun _ _ _ => rfl
  have k4 : KSl 4 I I2 := KSl_n (fun o k q => i o k (by omega))
  have k6 : KSl 6 I I2 := KSl_n (fun o k q => i o k (by omega))
  exact ⟨⟨_, RP_n p (fun o k q => i o k (by omega)) (fun o k q => g o k (by omega))⟩, ⟨t2, RBy_n a2 (fun o k hn => i o k (by omega)), RF_n a3 (fun o k hn => i o k (by omega)), RSz_n a4 (fun o k hn => i o k (by omega)), RCl_n a5 (fun o k hn => i o k (by omega)) k6, RPw_n a6 (fun o k hn => i o k (by omega)), RWk_n a7 (fun o k hn => i o k (by omega)) (fun o k hn => g o k (by omega)) k4, RRow_n a8 (fun o k hn => i o k (by omega)), RRow_n a9 (fun o k hn => i o k (by omega)), RRow_n a10 (fun o k hn => i o k (by omega)), RGt_n a11 (fun o k hn => i o k (by omega)), (i 69 48 (by omega)).trans a12, (i 4 19 (by omega)).trans a13, by rw [i 0 12 (by omega), i 69 72 (by omega)]; exact a14, by rw [i 0 15 (by omega), i 69 73 (by omega)]; exact a15⟩⟩
theorem by_and (x : Int32) : ∃ b, b < 256 ∧ x &&& 255 = nI b := by
  obtain ⟨j, hj, e2⟩ := pk_andE x (m := 255) 8 (by decide)
  exact ⟨j, by omega, e2⟩
theorem tp4_by {f : Nat → Int32} (h : ∀ j, j < 540 → ∃ b, b < 256 ∧ f j = nI b) {n : Nat} {w : Int32} : ∀ j, j < 540 → ∃ b, b < 256 ∧ tp4 f n w j = nI b := by
  intro j hj
  unfold tp4 va_up
  repeat' split
  all_goals first | exact by_and _ | exact h j hj
theorem pr_feed (h : Rel I L D) : PairQ X y_AW_feed [.ref 0, .int v1, .int v2, .int v3, .int v4, .int v5] y_M_feed [.ref 69, .int v1, .int v2, .int v3, .int v4, .int v5] I L D := fun Q hQ => by
  obtain ⟨⟨pg, p⟩, h⟩ := h
  have hb := p.d4
  have hc := h
  obtain ⟨a1, a2, a3, a4, a5, a6, a7, a8, a9, a10, a11, a12, a13, a14, a15⟩ := h
  obtain ⟨z, hz, t1, t2, t3⟩ := a1
  have go : ∀ r I1, RBy I1 → (∀ o k, ¬ (o = 3 ∨ (o = 2 ∧ k = 1)) → I1 o k = I o k) → ∀ Q2 : Option Value → aw_H → Prop, (∀ I2 L2 D2, Rel I2 L2 D2 → Q2 (some (.int r)) (aw_s I2 L2 D2)) → ∀ I2, RT I2 → (∀ o k, o ≠ 70 → ¬ (o = 69 ∧ (k = 0 ∨ k = 2)) → I2 o k = I1 o k) → Q2 (some (.int r)) (aw_s I2 L D) := fun r I1 y1 f1 Q2 hQ2 I2 t2 f2 => by
    refine hQ2 _ _ _ ?_
    have i : ∀ o k, ¬ (o = 3 ∨ o = 70 ∨ (o = 2 ∧ k = 1) ∨ (o = 69 ∧ (k = 0 ∨ k = 2))) → I2 o k = I o k := fun o k hn => (f2 o k (by omega) (by omega)).trans (f1 o k (by omega))
    have g : ∀ o k, o = o ∧ k = k → L o k = L o k := fun _ _ _ => rfl
    have k4 : KSl 4 I I2 := KSl_n (fun o k q => i o k (by omega))
    have k6 : KSl 6 I I2 := KSl_n (fun o k q => i o k (by omega))
    exact ⟨⟨_, RP_n p (fun o k q => i o k (by omega)) (fun o k q => g o k (by omega))⟩, ⟨t2, RBy_n y1 (fun o k hn => f2 o k (by omega) (by omega)), RF_n a3 (fun o k hn => i o k (by omega)), RSz_n a4 (fun o k hn => i o k (by omega)), RCl_n a5 (fun o k hn => i o k (by omega)) k6, RPw_n a6 (fun o k hn => i o k (by omega)), RWk_n a7 (fun o k hn => i o k (by omega)) (fun o k hn => g o k (by omega)) k4, RRow_n a8 (fun o k hn => i o k (by omega)), RRow_n a9 (fun o k hn => i o k (by omega)), RRow_n a10 (fun o k hn => i o k (by omega)), RGt_n a11 (fun o k hn => i o k (by omega)), (i 69 48 (by omega)).trans a12, (i 4 19 (by omega)).trans a13, by rw [i 0 12 (by omega), i 69 72 (by omega)]; exact a14, by rw [i 0 15 (by omega), i 69 73 (by omega)]; exact a15⟩⟩
  refine c_AW_feed (d := 2046) hz t1 (fun hl I1 b1 b2 f1 => hQ _ I1 L D (fun Q2 hQ2 => ?_)) (fun hl => hQ _ I L D (fun Q2 hQ2 => ?_))
  · have y1 : RBy I1 := fun j hj => by
      rw [b1]
      exact tp4_by (tp4_by (tp4_by (tp4_by (tp4_by a2)))) j hj
    have e69 : I1 69 2 = nI z := (f1 69 2 (by decide) (by omega)).trans t2
    refine c_M_feed (d := 2046) hz e69 (fun _ I2 c1 c2 c3 f2 => go _ I1 y1 (fun o k hn => f1 o k (by omega) (by omega)) Q2 hQ2 I2 ⟨z + 20, hl, ?_, c2, fun j hj => ?_⟩ f2) (fun x => absurd hl x)
    · rw [f2 2 1 (by decide) (by omega)]; exact b2
    · rw [f2 3 j (by decide) (by omega), b1, c1]
      exact tp20_eq (fun j hj => by rw [f1 70 j (by decide) (by omega)]; exact t3 j hj) j hj
  · exact c_M_feed (d := 2046) hz t2 (fun x => absurd x hl) (fun _ => go _ I a2 (fun _ _ _ => rfl) Q2 hQ2 _ ⟨z, hz, by rw [au_o (by decide)]; exact t1, by rw [au_k (by decide)]; exact t2, fun j hj => by rw [au_o (by decide), au_o (by decide)]; exact t3 j hj⟩ (fun o k q1 q2 => au_ok (by omega)))
theorem pr_sizes (h : Rel I L D) : PairQ X y_AW_sizes [.ref 0, .int v1, .int v2, .int v3] y_M_sizes [.ref 69, .int v1, .int v2, .int v3] I L D := fun Q hQ => by
  obtain ⟨⟨pg, p⟩, h⟩ := h
  have hb := p.d4
  have hc := h
  obtain ⟨a1, a2, a3, a4, a5, a6, a7, a8, a9, a10, a11, a12, a13, a14, a15⟩ := h
  refine aw_go rfl rfl (b_AW_sizes_0 (c_Sz_change (fun p1 => b_AW_sizes_10 (fun _ => aw_go rfl rfl (b_Wk_forget_0 (b_AW_sizes_22 (hQ 1 _ L D (fun Q2 hQ2 => c_M_sizes (d := 2046) (fun _ => hQ2 _ _ _ ?_) (fun x => absurd p1 x)))))) (fun x => absurd x (by decide))) (fun p1 => b_AW_sizes_10 (fun x => absurd rfl x) (fun _ => hQ 0 _ L D (fun Q2 hQ2 => c_M_sizes (d := 2046) (fun x => absurd x p1) (fun _ => hQ2 _ _ _ (Rel_z ⟨⟨pg, p⟩, hc⟩)))))))
  obtain ⟨B, T, O, s, e1, e2, e3⟩ := szP_nat p1
  generalize eI : aw_u (aw_u (aw_u (aw_u (aw_u (aw_u (aw_u (aw_u (aw_u I 1 0 v1) 1 1 v2) 1 2 v3) 11 0 0) 69 0 0) 69 33 v1) 69 34 v2) 69 35 v3) 69 36 0 = I2
  have i : ∀ o k, ¬ (o = 1 ∨ (o = 11 ∧ k = 0) ∨ (o = 69 ∧ (k = 0 ∨ (33 ≤ k ∧ k ≤ 36)))) → I2 o k = I o k := fun o k hn => by
    rw [← eI, au_ok (by omega), au_ok (by omega), au_ok (by omega), au_ok (by omega), au_ok (by omega), au_ok (by omega), au_ok (by omega), au_ok (by omega), au_ok (by omega)]
  have z1 : RSz I2 := by
    refine ⟨B, T, O, s, ?_, ?_, ?_, ?_, ?_, ?_⟩
    · rw [← eI, au_o (by decide), au_o (by decide), au_o (by decide), au_o (by decide), au_o (by decide), au_o (by decide), au_k (by decide), au_k (by decide), au_s]; exact e1
    · rw [← eI, au_o (by decide), au_o (by decide), au_o (by decide), au_o (by decide), au_o (by decide), au_o (by decide), au_k (by decide), au_s]; exact e2
    · rw [← eI, au_o (by decide), au_o (by decide), au_o (by decide), au_o (by decide), au_o (by decide), au_o (by decide), au_s]; exact e3
    · rw [← eI, au_k (by decide), au_k (by decide), au_k (by decide), au_s]; exact e1
    · rw [← eI, au_k (by decide), au_k (by decide), au_s]; exact e2
    · rw [← eI, au_k (by decide), au_s]; exact e3
  have w1 : RWk I2 L := Or.inl ⟨by rw [← eI, au_o (by decide), au_o (by decide), au_o (by decide), au_o (by decide), au_o (by decide), au_s], by rw [← eI, au_s]⟩
  have g : ∀ o k, o = o ∧ k = k → L o k = L o k := fun _ _ _ => rfl
  have k4 : KSl 4 I I2 := KSl_n (fun o k q => i o k (by omega))
  have k6 : KSl 6 I I2 := KSl_n (fun o k q => i o k (by omega))
  exact ⟨⟨_, RP_n p (fun o k q => i o k (by omega)) (fun o k q => g o k (by omega))⟩, ⟨RT_n a1 (fun o k hn => i o k (by omega)), RBy_n a2 (fun o k hn => i o k (by omega)), RF_n a3 (fun o k hn => i o k (by omega)), z1, RCl_n a5 (fun o k hn => i o k (by omega)) k6, RPw_n a6 (fun o k hn => i o k (by omega)), w1, RRow_n a8 (fun o k hn => i o k (by omega)), RRow_n a9 (fun o k hn => i o k (by omega)), RRow_n a10 (fun o k hn => i o k (by omega)), RGt_n a11 (fun o k hn => i o k (by omega)), (i 69 48 (by omega)).trans a12, (i 4 19 (by omega)).trans a13, by rw [i 0 12 (by omega), i 69 72 (by omega)]; exact a14, by rw [i 0 15 (by omega), i 69 73 (by omega)]; exact a15⟩⟩
end PAIRS
