/-! PART b0: a walked program stays under the other calls -/
section WFR
variable {I I' : Nat → Nat → Int32} {L L' : Nat → Nat → Int64}
theorem RWk.run (h : RWk I L) (f : FRun I I' L L') : RWk I' L' := by
  obtain ⟨a, b, c, e, k4, k6, g, g2⟩ := f
  exact h.fr (fun k _ => by rw [a 1 (by decide) (by decide) (by decide) (by decide) (by decide) (by decide) (by decide) (by decide) (by decide) (by decide) (by decide) (by decide) (by decide) (by decide) (by decide) (by decide) (by decide)]) (fun o p q => a o (by omega) (by omega) (by omega) (by omega) (by omega) (by omega) (by omega) (by omega) (by omega) (by omega) (by omega) (by omega) (by omega) (by omega) (by omega) (by omega) (by omega)) (fun o p q => g o (by omega) (by omega) (by omega)) (fun k p => c k (by omega) (by omega) (by omega) (by omega) (by omega) (by omega) (by omega) (by omega)) k4 (fun o p q => a o (by omega) (by omega) (by omega) (by omega) (by omega) (by omega) (by omega) (by omega) (by omega) (by omega) (by omega) (by omega) (by omega) (by omega) (by omega) (by omega) (by omega)) (fun o p => g o (by omega) (by omega) (by omega))
theorem RWk.fpr {D : Nat → Nat} (h : RWk I L) (f : FPr D I I' L L') : RWk I' L' := by
  obtain ⟨a, -, -, c, e, k4, -, g⟩ := f
  exact h.fr (fun k _ => a 1 k (by omega) (by omega) (by omega)) (fun o p q => funext fun k => a o k (by omega) (by omega) (by omega)) (fun o p q => funext fun k => g o k (by omega) (by omega)) (fun k p => c k (by omega)) k4 (fun o p q => e o (by omega)) (fun o p => funext fun k => g o k (by omega) (by omega))
theorem RWk.frg (h : RWk I L) (f : FRg I I' L L') : RWk I' L' := by
  obtain ⟨a, b, c, g, g2⟩ := f
  have i : ∀ o, (11 ≤ o ∧ o ≤ 68) ∨ (70 ≤ o ∧ o ≤ 83) ∨ 89 ≤ o ∨ o = 1 → I' o = I o := fun o p => a o (by omega) (by omega) (by omega) (by omega) (by omega) (by omega) (by omega) (by omega) (by omega) (by omega) (by omega) (by omega)
  exact h.fr (fun k _ => by rw [i 1 (by omega)]) (fun o p q => i o (by omega)) (fun o p q => g o (by omega) (by omega) (by omega)) (fun k p => b k (by omega) (by omega) (by omega) (by omega) (by omega) (by omega)) (KSl.same (fun o p q => i o (by omega))) (fun o p q => i o (by omega)) (fun o p => g o (by omega) (by omega) (by omega))
theorem RWk.frx {u : Option Int32} (h : RWk I L) (f : FRx u I I' L L') : RWk I' L' := by
  obtain ⟨a, -, -, -, c, -, k4, -, g, -⟩ := f
  have i : ∀ o, (11 ≤ o ∧ o ≤ 68) ∨ 89 ≤ o ∨ o = 1 → I' o = I o := fun o p => a o (by omega) (by omega) (by omega) (by omega) (by omega) (by omega) (by omega) (by omega) (by omega) (by omega) (by omega) (by omega) (by omega) (by omega)
  exact h.fr (fun k _ => by rw [i 1 (by omega)]) (fun o p q => i o (by omega)) (fun o p q => g o (by omega) (by omega) (by omega)) (fun k p => c k (by omega) (by omega) (by omega) (by omega) (by omega) (by omega) (by omega) (by omega)) k4 (fun o p q => i o (by omega)) (fun o p => g o (by omega) (by omega) (by omega))
theorem RWk.fcl (h : RWk I L) (f : FCl I I' L L') : RWk I' L' := by
  obtain ⟨a, b, c, k4, g⟩ := f
  exact h.fr (fun k _ => a 1 k (by omega) (by omega) (by omega)) (fun o p q => funext fun k => a o k (by omega) (by omega) (by omega)) (fun o p q => funext fun k => g o k (by omega) (by omega)) (fun k p => b k (by omega) (by omega)) k4 (fun o p q => c o (by omega) (by omega) (by omega)) (fun o p => funext fun k => g o k (by omega) (by omega))
theorem RWk.frp (h : RWk I L) (f : FRp I I' L L') : RWk I' L' := by
  obtain ⟨a, b, c, g, g2⟩ := f
  have i : ∀ o, (11 ≤ o ∧ o ≤ 22) ∨ (70 ≤ o ∧ o ≤ 83) ∨ (89 ≤ o ∧ o ≤ 107) ∨ o = 1 → I' o = I o := fun o p => funext fun k => a o k (by omega) (by omega) (by omega) (by omega) (by omega) (by omega) (by omega) (by omega) (by omega) (by omega) (by omega) (by omega) (by omega) (by omega) (by omega)
  exact h.fr (fun k _ => by rw [i 1 (by omega)]) (fun o p q => i o (by omega)) (fun o p q => g o (by omega) (by omega) (by omega)) (fun k p => b k (by omega) (by omega) (by omega) (by omega) (by omega) (by omega) (by omega) (by omega)) (KSl.same (fun o p q => i o (by omega))) (fun o p q => i o (by omega)) (fun o p => g o (by omega) (by omega) (by omega))
theorem RWk.frh (h : RWk I L) (f : FRh 103 I I' L L') : RWk I' L' := by
  have h1 : RWk (aw_o I 103 (I' 103)) L := h.fr (fun k _ => by rw [aw_o_n _ _ (by decide)]) (fun o p q => aw_o_n _ _ (by omega)) (fun _ _ _ => rfl) (fun k p => by rw [aw_o_n _ _ (by decide)]) (KSl.same (fun o p q => aw_o_n _ _ (by omega))) (fun o p q => aw_o_n _ _ (by omega)) (fun _ _ => rfl)
  exact h1.run (FRn.run f)
end WFR
