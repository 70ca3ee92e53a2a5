/-! PART b1: covers: the pair that is found first consists of least rows of their ways -/
theorem or_cm (x y : Int64) : x ||| y = y ||| x := lb_ext (fun v _ => by rw [lb_or, lb_or, Bool.or_comm])
theorem or_id (x : Int64) : x ||| x = x := lb_ext (fun v _ => by rw [lb_or, Bool.or_self])
theorem or_z (x : Int64) : x ||| 0 = x := lb_ext (fun v _ => by rw [lb_or, lb_0, Bool.or_false])
/-- rows like each other in what they begin -/
theorem set_map : ∀ (x y : List (Nat × (Nat → Int32))) (z : Int64), x.map Prod.fst = y.map Prod.fst → x.foldl (fun acc e => acc ||| bit64 e.1) z = y.foldl (fun acc e => acc ||| bit64 e.1) z
  | [], [], _, _ => rfl
  | [], _ :: _, _, h => by cases h
  | _ :: _, [], _, h => by cases h
  | a :: x, b :: y, z, h => by
    rw [List.map_cons, List.map_cons] at h
    obtain ⟨h1, h2⟩ := List.cons.inj h
    rw [List.foldl_cons, List.foldl_cons, h1]
    exact set_map x y _ h2
theorem WE.set {B F cs : Nat} {E : Nat → PE} (hF : F ≤ 40) (h : WE B F cs E) {a b : Nat} (hk : keyN (E a) = keyN (E b)) : setL (eT (E a)) = setL (eT (E b)) := set_map _ _ 0 (h.same hF hk).1
def CPr (E : Nat → PE) (R v w : Nat) : Prop := v < w ∧ w < R ∧ eE (E v) ≠ 4 ∧ eE (E w) ≠ 4 ∧ setL (eT (E v)) ||| setL (eT (E w)) = allB E R
theorem cover_least {B F cs R v w : Nat} {E : Nat → PE} (hF : F ≤ 40) (hE : WE B F cs E) (one : ∀ r, r < R → eE (E r) ≠ 4 → setL (eT (E r)) ≠ allB E R) (h : CPr E R v w) (first : ∀ v' w', CPr E R v' w' → v < v' ∨ (v = v' ∧ w ≤ w')) :
    (∀ r, r < v → keyN (E r) ≠ keyN (E v)) ∧ (∀ r, r < w → keyN (E r) ≠ keyN (E w)) ∧ setL (eT (E v)) ≠ 0 ∧ setL (eT (E w)) ≠ 0 := by
  obtain ⟨h1, h2, h3, h4, h5⟩ := h
  refine ⟨fun r hr e => ?_, fun r hr e => ?_, fun z => ?_, fun z => ?_⟩
  · have s := hE.set hF e
    have k := (hE.same hF e).2
    have := first r w ⟨by omega, h2, by rw [k]; exact h3, h4, by rw [s]; exact h5⟩
    omega
  · have s := hE.set hF e
    have k := (hE.same hF e).2
    rcases Nat.lt_trichotomy r v with g | g | g
    · have := first r v ⟨g, by omega, by rw [k]; exact h4, h3, by rw [s, or_cm]; exact h5⟩
      omega
    · subst g
      rw [s, or_id] at h5
      exact one w h2 h4 h5
    · have := first v r ⟨g, by omega, h3, by rw [k]; exact h4, by rw [s]; exact h5⟩
      omega
  · rw [z, or_cm, or_z] at h5
    exact one w h2 h4 h5
  · rw [z, or_z] at h5
    exact one v (by omega) h3 h5
