/-! PART 79: the reference's reading: a step of each kind -/
theorem bst_0 (S : PT) : bst 0 S = em 0 (nI (cS S)) (stU false S) := by
  unfold bst; rw [if_neg (by decide), decide_eq_false (by decide)]; rfl
theorem bst_8 (S : PT) : bst 8 S = em 1 (nI (cS S)) (stU false S) := by
  unfold bst; rw [if_pos (by decide), decide_eq_false (by decide)]; rfl
theorem bst_10 (S : PT) : bst 10 S = em 1 (nI (cS S)) (stU true S) := by
  unfold bst; rw [if_pos (by decide), decide_eq_true (by decide)]; rfl
section MS3
variable {S : PT} {k : Nat}
theorem stF_neg {T : TD} {b : PT → PR} (h : ¬ isSt (tK T (ti S))) : stF T k b S = .error (1, ti S) := by
  unfold stF; exact if_neg h
theorem stF_60 {T : TD} {b : PT → PR} (h : isSt (tK T (ti S))) (h2 : 60 ≤ cS S) : stF T k b S = .error (3, ti S) := by
  unfold stF; exact (if_pos h).trans (if_pos h2)
theorem stF_pos {T : TD} {b : PT → PR} (h : isSt (tK T (ti S))) (h2 : ¬ 60 ≤ cS S) : stF T k b S = (if tK T (ti S) = 8 then pb (cnd T k (adv (bst 8 S))) (brs T b)
    else if tK T (ti S) = 10 then pb (cnd T k (adv (bst 10 S))) (lop b (cn S))
    else if tK T (ti S) = 11 then pb (cnd T k (adv (bst 0 S))) (cls T 17 0)
    else if tK T (ti S) = 12 then pb (cnd T k (adv (bst 0 S))) (cls T 18 0)
    else if tK T (ti S) = 2 then pb (sgn T 61 (adv (bst 0 S))) (fun S' => pb (rdI T (k + 1) S') (cls T 15 (tV T (ti S))))
    else if tK T (ti S) = 7 then pb (plc T k (rdI T k) (adv (bst 0 S))) (fun S' => pb (sgn T 61 S') (fun S' => pb (rdI T (k + 1) S') (cls T 16 0)))
    else if tK T (ti S) = 6 then cld T (adv (bst 0 S))
    else if tK T (ti S) = 13 then ask T (adv (bst 0 S))
    else cls T 20 0 (adv (bst 0 S))) := by
  unfold stF; exact (if_pos h).trans (if_neg h2)
end MS3
