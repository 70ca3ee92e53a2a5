/-! PART aq: bitCount, and the first and last bit -/
theorem cc85 : (6148914691236517205 : Int64) = lN 6148914691236517205 := rfl
theorem cc51 : (3689348814741910323 : Int64) = lN 3689348814741910323 := rfl
theorem cc15 : (1085102592571150095 : Int64) = lN 1085102592571150095 := rfl
theorem rk85 (b0 b1 b2 b3 b4 b5 b6 b7 : Nat) : rp8 85 [b0, b1, b2, b3, b4, b5, b6, b7] = 6148914691236517205 := by simp only [rp8]
theorem rk51 (b0 b1 b2 b3 b4 b5 b6 b7 : Nat) : rp8 51 [b0, b1, b2, b3, b4, b5, b6, b7] = 3689348814741910323 := by simp only [rp8]
theorem rk15 (b0 b1 b2 b3 b4 b5 b6 b7 : Nat) : rp8 15 [b0, b1, b2, b3, b4, b5, b6, b7] = 1085102592571150095 := by simp only [rp8]
section BITC
variable {X : aw_X} {d : Nat} {Q : Option Value → aw_H → Prop} {I : Nat → Nat → Int32} {L : Nat → Nat → Int64} {D : Nat → Nat}
theorem c_bitCount {x : Nat} (h : x < 2 ^ 64) (hQ : Q (some (.int (nI (ctB x 64)))) (aw_s I L D)) : aw_m X d y_JL_bitCount [.long (lN x)] (aw_s I L D) Q := by
  obtain ⟨b0, b1, b2, b3, b4, b5, b6, b7, ex, hb⟩ := by8 x h
  generalize hl : [b0, b1, b2, b3, b4, b5, b6, b7] = l at ex hb
  obtain ⟨s0, s1⟩ := st1 l hb
  have s2 := st2 (l.map bf1) (fun b m => by
    obtain ⟨c, hc, e⟩ := List.mem_map.mp m
    rw [← e]; exact (bf_all c (hb c hc)).2.1)
  have s3 := st3 ((l.map bf1).map bf2) (fun b m => by
    obtain ⟨c, hc, e⟩ := List.mem_map.mp m
    obtain ⟨c', hc', e'⟩ := List.mem_map.mp hc
    rw [← e, ← e']; exact ⟨(bf_all c' (hb c' hc')).2.2.1, (bf_all c' (hb c' hc')).2.2.2.1⟩)
  have pb : ∀ b, b ∈ l → bf3 (bf2 (bf1 b)) = ctB b 8 ∧ ctB b 8 ≤ 8 := fun b m => by
    have := (bf_all b (hb b m)).2.2.2.2
    exact ⟨this.1, this.1 ▸ this.2⟩
  have k85 : rp8 85 l = 6148914691236517205 := by rw [← hl]; exact rk85 _ _ _ _ _ _ _ _
  have k51 : rp8 51 (l.map bf1) = 3689348814741910323 := by rw [← hl]; exact rk51 _ _ _ _ _ _ _ _
  have k15 : rp8 15 ((l.map bf1).map bf2) = 1085102592571150095 := by rw [← hl]; exact rk15 _ _ _ _ _ _ _ _
  have b1lt : ∀ b, b ∈ l.map bf1 → b < 256 := fun b m => by
    obtain ⟨c, hc, e⟩ := List.mem_map.mp m
    rw [← e]; exact (bf_all c (hb c hc)).2.1
  have b2lt : ∀ b, b ∈ (l.map bf1).map bf2 → b < 256 := fun b m => by
    obtain ⟨c, hc, e⟩ := List.mem_map.mp m
    obtain ⟨c', hc', e'⟩ := List.mem_map.mp hc
    have := bf_all c' (hb c' hc')
    rw [← e, ← e']; omega
  have lt8 : ∀ m : List Nat, m.length = 8 → (∀ b, b ∈ m → b < 256) → vl m < 2 ^ 64 := fun m e hm => by
    have bd : ∀ (m : List Nat), (∀ b, b ∈ m → b < 256) → vl m < 256 ^ m.length := fun m => by
      induction m with
      | nil => intro _; decide
      | cons b m ih =>
        intro hm
        have := ih (fun x hx => hm x (List.mem_cons_of_mem _ hx))
        have := hm b (List.mem_cons_self)
        show b + 256 * vl m < 256 ^ (m.length + 1)
        rw [Nat.pow_succ]; omega
    have := bd m hm
    rw [e] at this; exact this
  have n1 : (l.map bf1).length = 8 := by rw [← hl]; rfl
  have n2 : ((l.map bf1).map bf2).length = 8 := by rw [← hl]; rfl
  have v1 := lt8 _ n1 b1lt
  have v2 := lt8 _ n2 b2lt
  rw [k85] at s0 s1
  rw [k51] at s2
  rw [k15] at s3
  rw [← ex] at s0 s1
  generalize vl (l.map bf1) = a1 at *
  generalize vl ((l.map bf1).map bf2) = a2 at *
  -- the sums of bytes
  have e3 : vl (((l.map bf1).map bf2).map bf3) = ctB b0 8 + 256 * (ctB b1 8 + 256 * (ctB b2 8 + 256 * (ctB b3 8 + 256 * (ctB b4 8 + 256 * (ctB b5 8 + 256 * (ctB b6 8 + 256 * ctB b7 8)))))) := by
    subst hl
    show bf3 (bf2 (bf1 b0)) + 256 * (bf3 (bf2 (bf1 b1)) + 256 * (bf3 (bf2 (bf1 b2)) + 256 * (bf3 (bf2 (bf1 b3)) + 256 * (bf3 (bf2 (bf1 b4)) + 256 * (bf3 (bf2 (bf1 b5)) + 256 * (bf3 (bf2 (bf1 b6)) + 256 * (bf3 (bf2 (bf1 b7)) + 256 * 0))))))) = _
    rw [(pb b0 (by simp)).1, (pb b1 (by simp)).1, (pb b2 (by simp)).1, (pb b3 (by simp)).1, (pb b4 (by simp)).1, (pb b5 (by simp)).1, (pb b6 (by simp)).1, (pb b7 (by simp)).1]; omega
  have ec : ctB x 64 = ctB b0 8 + (ctB b1 8 + (ctB b2 8 + (ctB b3 8 + (ctB b4 8 + (ctB b5 8 + (ctB b6 8 + ctB b7 8)))))) := by
    subst hl
    rw [ex]
    have m0 := hb b0 (by simp)
    have m1 := hb b1 (by simp)
    have m2 := hb b2 (by simp)
    have m3 := hb b3 (by simp)
    have m4 := hb b4 (by simp)
    have m5 := hb b5 (by simp)
    have m6 := hb b6 (by simp)
    have m7 := hb b7 (by simp)
    show ctB (b0 + 256 * (b1 + 256 * (b2 + 256 * (b3 + 256 * (b4 + 256 * (b5 + 256 * (b6 + 256 * (b7 + 256 * 0)))))))) (8 + (8 + (8 + (8 + (8 + (8 + (8 + (8 + 0)))))))) = _
    rw [ctB_sp m0, ctB_sp m1, ctB_sp m2, ctB_sp m3, ctB_sp m4, ctB_sp m5, ctB_sp m6, ctB_sp m7]; rfl
  have q0 := (pb b0 (by subst hl; simp)).2
  have q1 := (pb b1 (by subst hl; simp)).2
  have q2 := (pb b2 (by subst hl; simp)).2
  have q3 := (pb b3 (by subst hl; simp)).2
  have q4 := (pb b4 (by subst hl; simp)).2
  have q5 := (pb b5 (by subst hl; simp)).2
  have q6 := (pb b6 (by subst hl; simp)).2
  have q7 := (pb b7 (by subst hl; simp)).2
  rw [e3] at s3
  clear e3 pb k85 k51 k15 b1lt b2lt lt8 n1 n2 hb ex hl
  rw [ec] at hQ
  clear ec
  generalize ctB b0 8 = p0 at *
  generalize ctB b1 8 = p1 at *
  generalize ctB b2 8 = p2 at *
  generalize ctB b3 8 = p3 at *
  generalize ctB b4 8 = p4 at *
  generalize ctB b5 8 = p5 at *
  generalize ctB b6 8 = p6 at *
  generalize ctB b7 8 = p7 at *
  generalize e3 : p0 + 256 * (p1 + 256 * (p2 + 256 * (p3 + 256 * (p4 + 256 * (p5 + 256 * (p6 + 256 * p7)))))) = a3 at s3
  have v3 : a3 < 2 ^ 60 := by omega
  generalize e4 : a3 + a3 / 2 ^ 8 = a4
  have v4 : a4 < 2 ^ 61 := by omega
  generalize e5 : a4 + a4 / 2 ^ 16 = a5
  have v5 : a5 < 2 ^ 62 := by omega
  generalize e6 : a5 + a5 / 2 ^ 32 = a6
  have fin := sum8 q0 q1 q2 q3 q4 q5 q6 q7 e3 e4 e5 e6
  have sh : ∀ (y : Nat) (s : Nat) (c : Int32), s < 64 → y < 2 ^ 64 → c = nI s → ((lN y).toUInt64 >>> (c.toInt64.toUInt64 &&& Int64.toUInt64 63)).toInt64 = lN (y / 2 ^ s) := fun y s c hs hy hc => by rw [hc]; exact ln_shr hs hy
  have c85 := cc85
  have c51 := cc51
  have c15 := cc15
  have B0 := @b_JL_bitCount_0 X d Q I L D (lN x)
  rw [sh x 1 1 (by decide) h rfl, c85, ln_and, Nat.pow_one, ln_sub s0, s1, sh a1 2 2 (by decide) v1 rfl, c51, ln_and, ln_and, ln_add, show (2 : Nat) ^ 2 = 4 from rfl, s2, sh a2 4 4 (by decide) v2 rfl, ln_add, c15, ln_and, show (2 : Nat) ^ 4 = 16 from rfl, s3, sh a3 8 8 (by decide) (by omega) rfl, ln_add, e4, sh a4 16 16 (by decide) (by omega) rfl, ln_add, e5, sh a5 32 32 (by decide) (by omega) rfl, ln_add, e6, i32_l, show (127 : Int32) = nI 127 from rfl, i32_mod (k := 7) (by decide) rfl, fin] at B0
  exact aw_go rfl rfl (B0 hQ)
end BITC
