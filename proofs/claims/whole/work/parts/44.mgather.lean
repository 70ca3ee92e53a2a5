/-! PART 44: what the reference gathers at a step -/
def mayL (f : Nat → Int64) (s : Nat) (nm : Nat → Int32) : Nat → Nat → Int64
  | 0 => f
  | a + 1 => va_up (mayL f s nm a) (8 * s + a) (mayL f s nm a (8 * s + a) ||| ((1 : Int64) <<< ((nm a).toInt64 &&& 63)))
def relI (x y : Int32) : Int32 := if x < y then 1 else if x = y then 2 else 4
def stJ (f : Nat → Int32) (s : Nat) (nm : Nat → Int32) (a : Nat) : Nat → Nat → Int32
  | 0 => f
  | k + 1 => va_up (stJ f s nm a k) (64 * s + 8 * a + (a + 1 + k)) (stJ f s nm a k (64 * s + 8 * a + (a + 1 + k)) ||| relI (nm a) (nm (a + 1 + k)))
def stO (f : Nat → Int32) (s : Nat) (nm : Nat → Int32) : Nat → Nat → Int32
  | 0 => f
  | a + 1 => stJ (stO f s nm a) s nm a (7 - a)
section MG
variable {X : aw_X} {d : Nat} {Q : Option Value → aw_H → Prop} {I : Nat → Nat → Int32} {L : Nat → Nat → Int64} {D : Nat → Nat}
theorem aw_u_eq {α : Type} (f : Nat → Nat → α) (o k : Nat) (v : α) : aw_u f o k v o = va_up (f o) k v := aw_u_same f o k v
theorem l_M_gather1 {s : Nat} {nm : Nat → Int32} {L0 : Nat → Nat → Int64} (hs : s < 60) (hg : I 69 48 = 1) (hn : ∀ k, k < 8 → I 84 k = nm k)
    (hQ : ∀ L', (∀ o, o ≠ 89 → L' o = L0 o) → L' 89 = mayL (L0 89) s nm 8 → Q none (aw_s I L' D)) :
    ∀ (m a : Nat) (L : Nat → Nat → Int64), a + m = 8 → (∀ o, o ≠ 89 → L o = L0 o) → L 89 = mayL (L0 89) s nm a →
      aw_z X d y_M_gather Q 2 [some (.ref 69), some (.int (nI s)), some (.int (nI a)), none] [] (aw_s I L D) := by
  intro m
  induction m with
  | zero =>
    intro a L e hf h1
    have : a = 8 := by omega
    subst this
    refine b_M_gather_2 (fun _ => b_M_gather_44 (fun q => ?_) (fun _ => hQ L hf h1)) (fun q => absurd (by decide) q) (fun q => absurd (by decide) q) (fun q => absurd (by decide) q) (fun q => absurd (by decide) q) (fun q => absurd (by decide) q)
    rw [hg] at q; exact absurd q (by decide)
  | succ m ih =>
    intro a L e hf h1
    have h8 : ¬ (8 : Int32) ≤ nI a := by rw [show (8 : Int32) = nI 8 from rfl, nI_leI (by omega) (by omega)]; omega
    have i1 : (8 : Int32) * nI s + nI a = nI (8 * s + a) := by rw [show (8 : Int32) = nI 8 from rfl, pk_mul, nI_add]
    refine b_M_gather_2 (fun q => absurd q h8) (fun _ q => absurd hg q) (fun _ _ => by rw [i1]; exact aw_in_nI (by omega) (by decide)) (fun _ _ => aw_in_nI (by omega) (by decide)) (fun _ _ => by rw [i1]; exact aw_in_nI (by omega) (by decide)) (fun _ _ => ?_)
    rw [i1, nI_clamp (by omega), nI_clamp (by omega), nI_1, hn a (by omega)]
    refine ih (a + 1) _ (by omega) (fun o h => by rw [au_o h]; exact hf o h) ?_
    rw [aw_u_eq, h1]
    rfl
theorem l_M_gather2i {s a : Nat} {nm : Nat → Int32} {I0 : Nat → Nat → Int32} {g0 : Nat → Int32} (hs : s < 60) (ha : a < 8) (hn : ∀ k, k < 8 → I0 84 k = nm k)
    (hk : ∀ I', (∀ o, o ≠ 90 → I' o = I0 o) → I' 90 = stJ g0 s nm a (7 - a) → aw_z X d y_M_gather Q 55 [some (.ref 69), some (.int (nI s)), some (.int (nI (a + 1))), none] [] (aw_s I' L D)) :
    ∀ (m k : Nat) (I : Nat → Nat → Int32), k + m = 7 - a → (∀ o, o ≠ 90 → I o = I0 o) → I 90 = stJ g0 s nm a k →
      aw_z X d y_M_gather Q 65 [some (.ref 69), some (.int (nI s)), some (.int (nI a)), some (.int (nI (a + 1 + k)))] [] (aw_s I L D) := by
  intro m
  induction m with
  | zero =>
    intro k I e hf h1
    have : k = 7 - a := by omega
    subst this
    have e8 : a + 1 + (7 - a) = 8 := by omega
    rw [e8]
    refine b_M_gather_65 (fun _ => by rw [nI_1]; exact hk I hf h1) (fun q => absurd (by decide) q) (fun q => absurd (by decide) q) (fun q => absurd (by decide) q) (fun q => absurd (by decide) q) (fun q => absurd (by decide) q) (fun q => absurd (by decide) q) (fun q => absurd (by decide) q) (fun q => absurd (by decide) q)
  | succ m ih =>
    intro k I e hf h1
    have hb8 : a + 1 + k < 8 := by omega
    have h8 : ¬ (8 : Int32) ≤ nI (a + 1 + k) := by rw [show (8 : Int32) = nI 8 from rfl, nI_leI (by omega) (by omega)]; omega
    have i1 : (64 : Int32) * nI s + (8 : Int32) * nI a + nI (a + 1 + k) = nI (64 * s + 8 * a + (a + 1 + k)) := by rw [show (8 : Int32) = nI 8 from rfl, show (64 : Int32) = nI 64 from rfl, pk_mul, pk_mul, nI_add, nI_add]
    have f84 : I 84 = I0 84 := hf 84 (by decide)
    have j1 : I 84 (nI a).toNatClampNeg = nm a := by rw [nI_clamp (by omega), f84, hn a ha]
    have j2 : I 84 (nI (a + 1 + k)).toNatClampNeg = nm (a + 1 + k) := by rw [nI_clamp (by omega), f84, hn _ hb8]
    have fin : ∀ r, relI (nm a) (nm (a + 1 + k)) = r → aw_z X d y_M_gather Q 127 [some (.ref 69), some (.int (nI s)), some (.int (nI a)), some (.int (nI (a + 1 + k)))] [.int r, .int (I 90 (64 * s + 8 * a + (a + 1 + k))), .int (nI (64 * s + 8 * a + (a + 1 + k))), .ref 90] (aw_s I L D) := by
      intro r hr
      refine b_M_gather_127 (aw_in_nI (by omega) (by decide)) ?_
      rw [nI_clamp (by omega), nI_1]
      refine ih (k + 1) _ (by omega) (fun o h => by rw [au_o h]; exact hf o h) ?_
      rw [aw_u_eq, h1, ← hr]
      rfl
    have B0 := @b_M_gather_65 X d Q I L D (nI s) (nI a) (nI (a + 1 + k))
    rw [i1, nI_clamp (show 64 * s + 8 * a + (a + 1 + k) < 2 ^ 31 by omega), j1, j2] at B0
    refine B0 (fun q => absurd q h8) (fun _ => aw_in_nI (by omega) (by decide)) (fun _ => aw_in_nI ha (by decide)) (fun _ => aw_in_nI hb8 (by decide)) (fun _ _ => aw_in_nI ha (by decide)) (fun _ _ => aw_in_nI hb8 (by decide)) (fun _ q1 q2 => fin _ ?_) (fun _ q1 q2 => fin _ ?_) (fun _ q1 => fin _ ?_)
    · simp [relI, Int32.not_lt.mpr q1, q2]
    · simp [relI, q2]
    · simp [relI, Int32.not_le.mp q1]
theorem l_M_gather2 {s : Nat} {nm : Nat → Int32} {I0 : Nat → Nat → Int32} (hs : s < 60) (hn : ∀ k, k < 8 → I0 84 k = nm k)
    (hQ : ∀ I', (∀ o, o ≠ 90 → I' o = I0 o) → I' 90 = stO (I0 90) s nm 8 → Q none (aw_s I' L D)) :
    ∀ (m a : Nat) (I : Nat → Nat → Int32), a + m = 8 → (∀ o, o ≠ 90 → I o = I0 o) → I 90 = stO (I0 90) s nm a →
      aw_z X d y_M_gather Q 55 [some (.ref 69), some (.int (nI s)), some (.int (nI a)), none] [] (aw_s I L D) := by
  intro m
  induction m with
  | zero =>
    intro a I e hf h1
    have : a = 8 := by omega
    subst this
    exact b_M_gather_55 (fun _ => hQ I hf h1) (fun q => absurd (by decide) q)
  | succ m ih =>
    intro a I e hf h1
    have h8 : ¬ (8 : Int32) ≤ nI a := by rw [show (8 : Int32) = nI 8 from rfl, nI_leI (by omega) (by omega)]; omega
    refine b_M_gather_55 (fun q => absurd q h8) (fun _ => ?_)
    rw [nI_1]
    refine l_M_gather2i (g0 := stO (I0 90) s nm a) hs (by omega) (fun k hk => by rw [hf 84 (by decide)]; exact hn k hk) (fun I' f1 f2 => ih (a + 1) I' (by omega) (fun o h => by rw [f1 o h]; exact hf o h) f2) (7 - a) 0 I (by omega) (fun _ _ => rfl) h1
theorem c_M_gather {s : Nat} {nm : Nat → Int32} (hs : s < 60) (hn : ∀ k, k < 8 → I 84 k = nm k) (h0 : I 69 48 = 1 ∨ I 69 48 = 2)
    (h1 : I 69 48 = 1 → ∀ L', (∀ o, o ≠ 89 → L' o = L o) → L' 89 = mayL (L 89) s nm 8 → Q none (aw_s I L' D))
    (h2 : I 69 48 = 2 → ∀ I', (∀ o, o ≠ 90 → I' o = I o) → I' 90 = stO (I 90) s nm 8 → Q none (aw_s I' L D)) :
    aw_m X d y_M_gather [.ref 69, .int (nI s)] (aw_s I L D) Q := by
  refine aw_go rfl rfl (b_M_gather_0 ?_)
  rcases h0 with h | h
  · exact l_M_gather1 hs h hn (h1 h) 8 0 L rfl (fun _ _ => rfl) rfl
  · refine b_M_gather_2 (fun q => absurd q (by decide)) (fun _ _ => b_M_gather_44 (fun _ => ?_) (fun q => absurd h q)) (fun _ q => ?_) (fun _ q => ?_) (fun _ q => ?_) (fun _ q => ?_)
    · exact l_M_gather2 hs hn (h2 h) 8 0 I rfl (fun _ _ => rfl) rfl
    all_goals (rw [h] at q; exact absurd q (by decide))
end MG
