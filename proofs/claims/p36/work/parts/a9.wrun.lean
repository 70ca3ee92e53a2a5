/-! PART a9: runs whose decisions are alike go alike -/
abbrev eE (E : PE) : Int32 := E.1
abbrev eS (E : PE) : Int32 := E.2.1
def eB (E : PE) : Nat := (psC E.2.2).2.1
def eD (E : PE) : List Bool := (psC E.2.2).2.2
def eY (E : PE) : Nat → Nat := psY E.2.2
def eT (E : PE) : List (Nat × (Nat → Int32)) := psT E.2.2
theorem run_kind {P : Nat → Nat × Int32} {g : Int32} {F : Nat} {an : Nat → Int32} {N : Nat} {pc : Nat} {stk : List Int32} {cs : List Nat} {nm cl : Nat → Int32} {sp : Int32} {bg : Nat} {ds : List Bool} {ak : Nat} {ys : Nat → Nat} {tr : List (Nat × (Nat → Int32))} {E : PE} (h : p_run P g F an (N + 1) (pc, stk, cs, nm, cl, sp, bg, ds, ak, ys, tr) = some E) :
    (∃ S', p_step P g F an (pc, stk, cs, nm, cl, sp, bg, ds, ak, ys, tr) = .inl S' ∧ kdI P F pc cs nm bg ds ys sp tr S' ∧ p_run P g F an N S' = some E) ∨ (p_step P g F an (pc, stk, cs, nm, cl, sp, bg, ds, ak, ys, tr) = .inr E ∧ kdE P F pc cs nm bg ds ys sp tr E) := by
  unfold p_run at h
  rcases p_kind P g F an pc stk cs nm cl sp bg ds ak ys tr with ⟨S', e, k⟩ | ⟨E', e, k⟩
  · rw [e] at h
    exact Or.inl ⟨S', e, k, h⟩
  · rw [e] at h
    have : E' = E := Option.some.inj h
    subst this
    exact Or.inr ⟨e, k⟩
/-- what was decided and begun stays -/
theorem run_ext {P : Nat → Nat × Int32} {g : Int32} {F : Nat} {an : Nat → Int32} : ∀ (N : Nat) (S : PS) (E : PE), p_run P g F an N S = some E → ∃ t u, eD E = (psC S).2.2 ++ t ∧ eT E = psT S ++ u ∧ eB E = (psC S).2.1 + u.length
  | 0, S, E, h => by cases h
  | N + 1, S, E, h => by
    obtain ⟨pc, stk, cs, nm, cl, sp, bg, ds, ak, ys, tr⟩ := S
    rcases run_kind h with ⟨S', -, k, h'⟩ | ⟨-, k⟩
    · obtain ⟨t, u, a, b, c⟩ := run_ext N S' E h'
      rcases k with ⟨-, -, -, k1, -, k3⟩ | ⟨-, v, k1, -, k3⟩ | ⟨-, -, -, -, -, k1, -, k3⟩
      · rw [k1] at a c
        rw [k3] at b
        refine ⟨t, _ :: u, a, by rw [b, List.append_assoc]; rfl, ?_⟩
        rw [c]
        show bg + 1 + u.length = bg + (u.length + 1)
        omega
      · rw [k1] at a c
        rw [k3] at b
        exact ⟨v :: t, u, by rw [a]; show (ds ++ [v]) ++ t = ds ++ (v :: t); rw [List.append_assoc]; rfl, b, c⟩
      · rw [k1] at a c
        rw [k3] at b
        exact ⟨t, u, a, b, c⟩
    · rcases k with ⟨-, -, -, -, k1, -, k3⟩ | ⟨-, -, -, k1, -, k3⟩
      · refine ⟨[], [_], ?_, k3, ?_⟩
        · unfold eD; rw [k1]; exact (List.append_nil _).symm
        · unfold eB; rw [k1]; rfl
      · refine ⟨[], [], ?_, ?_, ?_⟩
        · unfold eD; rw [k1]; exact (List.append_nil _).symm
        · unfold eT; rw [k3]; exact (List.append_nil _).symm
        · unfold eB; rw [k1]; rfl
/-- what holds of all that is begun -/
theorem run_all {P : Nat → Nat × Int32} {n st0 : Nat} {ty : Nat → List Bool} {sg : Nat → Nat} {B F : Nat} {g : Int32} {an : Nat → Int32} (hW : p_WF P n st0 ty sg) (hB : B ≤ 6) (hg : g = nI (2 ^ B - 1)) (han : ∀ k, rg B (an k)) {A : Nat → Prop} (hA : ∀ pc, pc < n → (P pc).1 = 0 ∨ (P pc).1 = 1 → A (P pc).2.toNatClampNeg) :
    ∀ (N : Nat) (S : PS) (E : PE), p_run P g F an N S = some E → p_good P n ty sg B F S → (∀ x, x ∈ psT S → A x.1 ∧ ∀ k, k < 8 → rg B (x.2 k)) → (∀ s, psY S s ≤ (psC S).2.2.length) → (∀ x, x ∈ eT E → A x.1 ∧ ∀ k, k < 8 → rg B (x.2 k)) ∧ ∀ s, eY E s ≤ (eD E).length
  | 0, S, E, h => by cases h
  | N + 1, S, E, h => by
    intro hG h1 h2
    have hs := p_step_good hW hB hg han hG
    obtain ⟨pc, stk, cs, nm, cl, sp, bg, ds, ak, ys, tr⟩ := S
    have hG' := hG
    obtain ⟨g1, -, -, g4, -⟩ := hG'
    have h1 : ∀ x, x ∈ tr → A x.1 ∧ ∀ k, k < 8 → rg B (x.2 k) := h1
    have h2 : ∀ s, ys s ≤ ds.length := h2
    have more : (P pc).1 = 0 ∨ (P pc).1 = 1 → ∀ x, x ∈ tr ++ [((P pc).2.toNatClampNeg, nm)] → A x.1 ∧ ∀ k, k < 8 → rg B (x.2 k) := fun ho x hx => by
      rcases List.mem_append.mp hx with q | q
      · exact h1 x q
      · rw [List.mem_singleton.mp q]; exact ⟨hA pc g1 ho, g4⟩
    rcases run_kind h with ⟨S', e, k, h'⟩ | ⟨e, k⟩
    · rcases hs with ⟨S2, e2, g2, -⟩ | ⟨E', e2, -⟩
      · rw [e] at e2
        cases e2
        refine run_all hW hB hg han hA N S' E h' g2 ?_ ?_
        · rcases k with ⟨ho, -, -, -, -, k3⟩ | ⟨-, v, -, -, k3⟩ | ⟨-, -, -, -, -, -, -, k3⟩
          · rw [k3]; exact more ho
          · rw [k3]; exact h1
          · rw [k3]; exact h1
        · rcases k with ⟨-, -, -, k1, k2, -⟩ | ⟨-, v, k1, k2, -⟩ | ⟨-, -, -, -, -, k1, k2, -⟩
          · rw [k1, k2]; exact h2
          · rw [k1, k2]
            intro s
            show _ ≤ (ds ++ [v]).length
            rw [List.length_append]
            have := h2 s
            split
            · unfold va_up
              split
              · next q => rw [← q]; show _ ≤ _ + 1; omega
              · show _ ≤ _ + 1; omega
            · show _ ≤ _ + 1; omega
          · rw [k1, k2]; exact h2
      · rw [e] at e2; cases e2
    · rcases k with ⟨ho, -, -, -, k1, k2, k3⟩ | ⟨-, -, -, k1, k2, k3⟩
      · unfold eT eY eD
        rw [k1, k2, k3]
        exact ⟨more ho, h2⟩
      · unfold eT eY eD
        rw [k1, k2, k3]
        exact ⟨h1, h2⟩
/-- two ends of runs with one list of decisions -/
def Cc (E1 E2 : PE) : Prop := (eS E1 = -1 → eB E2 ≤ eB E1) ∧ (eS E2 = -1 → eB E1 ≤ eB E2) ∧ (eB E1 = eB E2 → (eT E1).map Prod.fst = (eT E2).map Prod.fst)
theorem Cc.sw {E1 E2 : PE} (h : Cc E1 E2) : Cc E2 E1 := ⟨h.2.1, h.1, fun e => (h.2.2 e.symm).symm⟩
/-- one has ended, the other one goes on -/
theorem lock_1 {P : Nat → Nat × Int32} {n : Nat} {ty : Nat → List Bool} {sg : Nat → Nat} {B F : Nat} {g : Int32} {an2 : Nat → Int32} {N2 : Nat} {pc bg : Nat} {stk1 : List Int32} {cs : List Nat} {nm1 nm2 cl1 : Nat → Int32} {sp1 sp2 : Int32} {ds : List Bool} {ak1 : Nat} {ys1 ys2 : Nat → Nat} {tr1 tr2 : List (Nat × (Nat → Int32))} {E1 E2 : PE} {S2 : PS}
    (G1 : p_good P n ty sg B F (pc, stk1, cs, nm1, cl1, sp1, bg, ds, ak1, ys1, tr1)) (hE1 : p_end B F E1) (k1 : kdE P F pc cs nm1 bg ds ys1 sp1 tr1 E1) (k2 : kdI P F pc cs nm2 bg ds ys2 sp2 tr2 S2) (h2 : p_run P g F an2 N2 S2 = some E2) (htr : tr1.map Prod.fst = tr2.map Prod.fst) : Cc E1 E2 := by
  obtain ⟨t, u, -, b, c⟩ := run_ext N2 S2 E2 h2
  have c2 : (psC S2).2.1 = bg ∨ ((psC S2).2.1 = bg + 1 ∧ ((P pc).1 = 0 ∨ (P pc).1 = 1)) := by
    rcases k2 with ⟨x, -, -, y, -⟩ | ⟨-, v, y, -⟩ | ⟨-, -, -, -, -, y, -⟩
    · exact Or.inr ⟨by rw [y], x⟩
    · exact Or.inl (by rw [y])
    · exact Or.inl (by rw [y])
  obtain ⟨-, -, -, -, -, -, -, g8, g9, g10, g11, -⟩ := G1
  rcases k1 with ⟨o1, o2, -⟩ | ⟨n0, n1, x1, x2, -, x3⟩
  · exfalso
    rcases k2 with ⟨-, y1, y2, -⟩ | ⟨y, -⟩ | ⟨y0, y1, -⟩
    · rcases o2 with z | ⟨z1, z2⟩
      · omega
      · exact y2 z1 z2
    · rcases o1 with z | z <;> rw [z] at y <;> exact absurd y (by decide)
    · exact o1.elim y0 y1
  · have n25 : (P pc).1 ≠ 25 := by
      rcases k2 with ⟨z, -⟩ | ⟨z, -⟩ | ⟨-, -, -, -, z, -⟩
      · exact absurd z (fun q => q.elim n0 n1)
      · rw [z]; decide
      · exact z
    have n99 : E1.1 ≠ 99 := by
      obtain ⟨e, sp, pc', stk', cs', nm', cl', sp', bg', ds', ak', ys', tr'⟩ := E1
      obtain ⟨⟨j, hj, he⟩, -⟩ := hE1
      show e ≠ 99
      rw [he, show (99 : Int32) = nI 99 from rfl]
      intro z
      rw [nI_eq (by omega) (by decide)] at z; omega
    have es : E1.2.1 = sp1 := by
      rcases x1 with z | z | z
      · exact z
      · exact absurd z n25
      · exact absurd z n99
    have eb : eB E1 = bg := by unfold eB; rw [x2]
    have et : eT E1 = tr1 := x3
    have bg0 : 0 < bg := by
      rcases Nat.eq_zero_or_pos bg with z | z
      · rcases g8 z with q | q | q
        · exact absurd q n0
        · exact absurd q n1
        · exact absurd q n25
      · exact z
    have c3 : (psC S2).2.1 = bg := by
      rcases c2 with z | ⟨-, z⟩
      · exact z
      · exact absurd z (fun q => q.elim n0 n1)
    refine ⟨fun z => ?_, fun _ => by rw [eb, c, c3]; omega, fun z => ?_⟩
    · have z : E1.2.1 = -1 := z
      obtain ⟨j, hj, hsp⟩ := g9 bg0
      rw [es, hsp] at z
      exact absurd z (nI_ne1 (by omega))
    · rw [eb, c, c3] at z
      have : u = [] := List.length_eq_zero_iff.mp (by omega)
      rw [this, List.append_nil] at b
      have kt : psT S2 = tr2 := by
        rcases k2 with ⟨q, -⟩ | ⟨-, v, -, -, y⟩ | ⟨-, -, -, -, -, -, -, y⟩
        · exact absurd q (fun q => q.elim n0 n1)
        · exact y
        · exact y
      rw [et, b, kt]; exact htr
theorem app_inj {α : Type} {x : List α} {a b : α} {s t : List α} (h : x ++ [a] ++ s = x ++ [b] ++ t) : a = b := by
  rw [List.append_assoc, List.append_assoc] at h
  have h := List.append_cancel_left h
  exact (List.cons.inj h).1
theorem lock {P : Nat → Nat × Int32} {n st0 : Nat} {ty : Nat → List Bool} {sg : Nat → Nat} {B F : Nat} {g : Int32} {an1 an2 : Nat → Int32} (hW : p_WF P n st0 ty sg) (hB : B ≤ 6) (hg : g = nI (2 ^ B - 1)) (ha1 : ∀ k, rg B (an1 k)) (ha2 : ∀ k, rg B (an2 k)) :
    ∀ (N1 N2 : Nat) (S1 S2 : PS) (E1 E2 : PE), p_run P g F an1 N1 S1 = some E1 → p_run P g F an2 N2 S2 = some E2 → p_good P n ty sg B F S1 → p_good P n ty sg B F S2 → psC S1 = psC S2 → (psT S1).map Prod.fst = (psT S2).map Prod.fst → eD E1 = eD E2 → Cc E1 E2 := by
  intro N1
  induction N1 with
  | zero => intro N2 S1 S2 E1 E2 h; cases h
  | succ N1 ih =>
    intro N2 S1 S2 E1 E2 h1 h2 G1 G2 hC hT hD
    cases N2 with
    | zero => cases h2
    | succ N2 =>
      have s1 := p_step_good hW hB hg ha1 G1
      have s2 := p_step_good hW hB hg ha2 G2
      obtain ⟨pc, stk1, cs, nm1, cl1, sp1, bg, ds, ak1, ys1, tr1⟩ := S1
      obtain ⟨pc', stk2, cs', nm2, cl2, sp2, bg', ds', ak2, ys2, tr2⟩ := S2
      have hC : ((pc, cs), bg, ds) = ((pc', cs'), bg', ds') := hC
      cases hC
      have hT : tr1.map Prod.fst = tr2.map Prod.fst := hT
      rcases run_kind h1 with ⟨S1', e1, k1, r1⟩ | ⟨e1, k1⟩ <;> rcases run_kind h2 with ⟨S2', e2, k2, r2⟩ | ⟨e2, k2⟩
      · have g1' : p_good P n ty sg B F S1' := by
          rcases s1 with ⟨z, q, w, -⟩ | ⟨z, q, -⟩
          · rw [e1] at q; cases q; exact w
          · rw [e1] at q; cases q
        have g2' : p_good P n ty sg B F S2' := by
          rcases s2 with ⟨z, q, w, -⟩ | ⟨z, q, -⟩
          · rw [e2] at q; cases q; exact w
          · rw [e2] at q; cases q
        obtain ⟨t1, u1, d1, -, -⟩ := run_ext N1 S1' E1 r1
        obtain ⟨t2, u2, d2, -, -⟩ := run_ext N2 S2' E2 r2
        have cc2 : psC S1' = psC S2' ∧ (psT S1').map Prod.fst = (psT S2').map Prod.fst := by
          rcases k1 with ⟨a, a1, a2, a3, -, a4⟩ | ⟨a, v, a1, -, a2⟩ | ⟨a0, a1, a20, a21, a25, a3, -, a4⟩ <;> rcases k2 with ⟨b, b1, b2, b3, -, b4⟩ | ⟨b, w, b1, -, b2⟩ | ⟨b0, b1, b20, b21, b25, b3, -, b4⟩
          · rw [a3, b3, a4, b4]
            exact ⟨rfl, by rw [List.map_append, List.map_append, hT]; rfl⟩
          · exfalso; rcases a with q | q <;> rw [q] at b <;> exact absurd b (by decide)
          · exact absurd a (fun q => q.elim b0 b1)
          · exfalso; rcases b with q | q <;> rw [q] at a <;> exact absurd a (by decide)
          · rw [a1] at d1
            rw [b1] at d2
            have hv : v = w := by
              have d1 : eD E1 = ds ++ [v] ++ t1 := d1
              have d2 : eD E2 = ds ++ [w] ++ t2 := d2
              rw [hD, d2] at d1
              exact (app_inj d1).symm
            subst hv
            rw [a1, b1, a2, b2]
            exact ⟨rfl, hT⟩
          · exact absurd a b21
          · exact absurd b (fun q => q.elim a0 a1)
          · exact absurd b a21
          · rw [a3, b3, a4, b4]; exact ⟨rfl, hT⟩
        exact ih N2 S1' S2' E1 E2 r1 r2 g1' g2' cc2.1 cc2.2 hD
      · have he : p_end B F E2 := by
          rcases s2 with ⟨z, q, -⟩ | ⟨z, q, w⟩
          · rw [e2] at q; cases q
          · rw [e2] at q; cases q; exact w
        exact (lock_1 G2 he k2 k1 r1 hT.symm).sw
      · have he : p_end B F E1 := by
          rcases s1 with ⟨z, q, -⟩ | ⟨z, q, w⟩
          · rw [e1] at q; cases q
          · rw [e1] at q; cases q; exact w
        exact lock_1 G1 he k1 k2 r2 hT
      · have key : eB E1 = eB E2 ∧ (eT E1).map Prod.fst = (eT E2).map Prod.fst := by
          unfold eB eT
          rcases k1 with ⟨a, -, -, -, a3, -, a4⟩ | ⟨a0, a1, -, a3, -, a4⟩ <;> rcases k2 with ⟨b, -, -, -, b3, -, b4⟩ | ⟨b0, b1, -, b3, -, b4⟩
          · rw [a3, b3, a4, b4]
            exact ⟨rfl, by rw [List.map_append, List.map_append, hT]; rfl⟩
          · exact absurd a (fun q => q.elim b0 b1)
          · exact absurd b (fun q => q.elim a0 a1)
          · rw [a3, b3, a4, b4]; exact ⟨rfl, hT⟩
        exact ⟨fun _ => Nat.le_of_eq key.1.symm, fun _ => Nat.le_of_eq key.1, fun _ => key.2⟩
