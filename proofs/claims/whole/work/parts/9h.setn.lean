/-! PART 9h: a program in which one number is another -/
def setN (p : Nat) (v : Int32) (S : PT) : PT := (ti S, cn S, va_up (cP S) p ((cP S p).1, v), S.2.2.2)
theorem setN_op (p : Nat) (v : Int32) (S : PT) (i : Nat) : (cP (setN p v S) i).1 = (cP S i).1 := up_op i
theorem p_ok_set {P P' : Nat → Nat × Int32} {n : Nat} {ty : Nat → List Bool} {sg : Nat → Nat} {pc : Nat} (h : p_ok P n ty sg pc) (hP : ∀ i, (P' i).1 = (P i).1) (hpc : P' pc = P pc ∨ (P pc).1 = 2) : p_ok P' n ty sg pc := by
  have dc : ∀ t, p_dc P' t = p_dc P t := fun t => p_dc_c t (fun i _ => hP i)
  obtain ⟨h1, h2, h3, h4⟩ := h
  refine ⟨h1, h2, fun hx => ?_, ?_⟩
  · rw [hP] at hx
    rw [hP, hP]; exact h3 hx
  · rcases hpc with hpc | h2op
    · rw [hpc]
      generalize P pc = r at h4 ⊢
      obtain ⟨o, a⟩ := r
      dsimp only at h4 ⊢
      split at h4
      all_goals (try dsimp only)
      all_goals first | exact h4 | exact False.elim h4 | skip
      · obtain ⟨b1, b2, b3, t, b4, b5, b6, b7, b8, b9, b10⟩ := h4
        exact ⟨b1, b2, by rw [dc]; exact b3, t, b4, b5, b6, b7, b8, by rw [hP]; exact b9, by rw [dc]; exact b10⟩
      · obtain ⟨b1, t, b4, b6, b7, b8, b9, b10, b11⟩ := h4
        exact ⟨b1, t, b4, b6, b7, b8, by rw [hP]; exact b9, by rw [dc]; exact b10, by rw [hP]; exact b11⟩
      · obtain ⟨b1, b2, t, b4, b6, b7, b8, b9, b10⟩ := h4
        exact ⟨b1, b2, t, b4, b6, b7, b8, by rw [hP]; exact b9, by rw [dc]; exact b10⟩
    · have e : (P' pc).1 = 2 := (hP pc).trans h2op
      rw [e]
      rw [h2op] at h4
      exact h4
theorem PG_set {S : PT} {p : Nat} {v : Int32} (h : PG S) (hp : p < cn S) (h2 : (cP S p).1 = 2) : PG (setN p v S) := by
  obtain ⟨⟨w1, w2, w3, w4, w5, w6, w7, w8⟩, hs, hn, hc6, hba⟩ := h
  have op := setN_op p v S
  refine ⟨⟨w1, w2, w3, w4, ?_, ?_, ?_, fun pc hpc => p_ok_set (w8 pc hpc) op ?_⟩, hs, fun j hj => ⟨(hn j hj).1, (op _).trans (hn j hj).2⟩, hc6, fun pc hpc hx => ?_⟩
  · show p_dc (cP (setN p v S)) (cB S) = false
    rw [p_dc_c (P := cP S) (cB S) (fun i _ => op i)]; exact w5
  · show (cP (setN p v S) (cB S)).1 = 0 ∨ (cP (setN p v S) (cB S)).1 = 1 ∨ (cP (setN p v S) (cB S)).1 = 25
    rw [op]; exact w6
  · show p_ac (cP (setN p v S)) (cn S) 0 ≤ 125
    rw [p_ac_c (P := cP S) (cn S) 0 (fun i _ => op i)]; exact w7
  · by_cases g : pc = p
    · subst g; exact Or.inr h2
    · exact Or.inl (up_n _ _ g)
  · rw [op] at hx
    by_cases g : pc = p
    · subst g; exact absurd hx (fun q => by rw [h2] at q; omega)
    · rw [show cP (setN p v S) pc = cP S pc from up_n _ _ g]
      exact hba pc hpc hx
theorem setN_id {S : PT} {p : Nat} {v : Int32} : setN p (cP S p).2 (setN p v S) = S := by
  have e : va_up (va_up (cP S) p ((cP S p).1, v)) p ((cP (setN p v S) p).1, (cP S p).2) = cP S := by
    funext i
    by_cases g : i = p
    · subst g; rw [up_s, setN_op]
    · rw [up_n _ _ g, up_n _ _ g]
  show (ti S, cn S, va_up (va_up (cP S) p ((cP S p).1, v)) p ((cP (setN p v S) p).1, (cP S p).2), S.2.2.2) = S
  rw [e]
theorem setN_set {S : PT} {p : Nat} {v w : Int32} : setN p w (setN p v S) = setN p w S := by
  have e : va_up (va_up (cP S) p ((cP S p).1, v)) p ((cP (setN p v S) p).1, w) = va_up (cP S) p ((cP S p).1, w) := by
    funext i
    by_cases g : i = p
    · subst g; rw [up_s, up_s, setN_op]
    · rw [up_n _ _ g, up_n _ _ g, up_n _ _ g]
  show (ti S, cn S, va_up (va_up (cP S) p ((cP S p).1, v)) p ((cP (setN p v S) p).1, w), S.2.2.2) = (ti S, cn S, va_up (cP S) p ((cP S p).1, w), S.2.2.2)
  rw [e]
section SETN
variable {X : aw_X} {d d2 : Nat} {Q : Option Value → aw_H → Prop} {I : Nat → Nat → Int32} {L : Nat → Nat → Int64} {D : Nat → Nat} {S : PT} {c s p : Nat} {v : Int32}
theorem KCd.set (h : KCd S c I L) (hp : p < cn S) (h2 : (cP S p).1 = 2) : KCd (setN p v S) c (aw_u I (c + 2) p v) L := by
  obtain ⟨⟨m, m1, m2, m3⟩, a2, a3, a4, a5, a6⟩ := h
  have hpm : p < m := by
    rcases m2 with q | ⟨q, q2⟩
    · omega
    · rcases Nat.lt_or_ge p m with z | z
      · exact z
      · have : p = m := by omega
        subst this
        rw [q2] at h2; exact absurd h2 (by decide)
  have e0 : aw_u I (c + 2) p v c = I c := au_o (by omega)
  have e1 : aw_u I (c + 2) p v (c + 1) = I (c + 1) := au_o (by omega)
  have e3 : aw_u I (c + 2) p v (c + 3) = I (c + 3) := au_o (by omega)
  refine ⟨⟨m, by rw [e0]; exact m1, ?_, fun j hj => ⟨by rw [e1, setN_op]; exact (m3 j hj).1, ?_⟩⟩, by rw [e0]; exact a2, by rw [e0]; exact a3, by rw [e0]; exact a4, a5, fun j hj => by rw [e3]; exact a6 j hj⟩
  · rcases m2 with q | ⟨q, q2⟩
    · exact Or.inl q
    · exact Or.inr ⟨q, (up_n _ _ (show m ≠ p by omega)).trans q2⟩
  · by_cases g : j = p
    · subst g
      rw [au_s]
      exact (congrArg Prod.snd (show cP (setN j v S) j = ((cP S j).1, v) from up_s _ _ _)).symm
    · rw [au_k g, (m3 j hj).2]
      exact (congrArg Prod.snd (show cP (setN p v S) j = cP S j from up_n _ _ g)).symm
theorem MCd.set (h : MCd S s I) (hp : p < cn S) (hs : s < 7) : MCd (setN p v S) s (aw_u I 72 (800 * s + p) v) := by
  obtain ⟨h1, h2, h3, h4, h5, h6, h7⟩ := h
  refine ⟨by rw [au_o (by decide)]; exact h1, by rw [au_o (by decide)]; exact h2, by rw [au_o (by decide)]; exact h3, by rw [au_o (by decide)]; exact h4, fun j hj => ⟨by rw [au_o (by decide), setN_op]; exact (h5 j hj).1, ?_⟩, fun t ht => by rw [au_o (by decide)]; exact h6 t ht, fun j hj => by rw [au_o (by decide)]; exact h7 j hj⟩
  by_cases g : j = p
  · subst g
    rw [au_s]
    exact (congrArg Prod.snd (show cP (setN j v S) j = ((cP S j).1, v) from up_s _ _ _)).symm
  · rw [au_k (by omega), (h5 j hj).2]
    exact (congrArg Prod.snd (show cP (setN p v S) j = cP S j from up_n _ _ g)).symm
/-- the class's code is changed at a number -/
theorem k_change (hc : c ∈ aw_codes) (hS : PG S) (h : KCd S c I L) (hp : p < cn S) (h2 : (cP S p).1 = 2) (hQ : KCd (setN p v S) c (aw_u I (c + 2) p v) L → Q none (aw_s (aw_u I (c + 2) p v) L D)) : aw_m X d y_Cd_change [.ref c, .int (nI p), .int v] (aw_s I L D) Q := by
  obtain ⟨m, m1, m2, m3, -⟩ := h.1.lt hp (by rw [h2]; decide)
  exact c_Cd_change hc m1 (by have := hS.1.1; omega) m3 (hQ (h.set hp h2))
end SETN
