/-! PART j6: the law tells its text, has it walked, makes its arrays -/
/-- the next cell is the next object, where as many cells were taken as there are objects -/
theorem z_tight {X : aw_X} {d mc ms : Nat} {Q : Option Value → aw_H → Prop} {kc ks pc : Nat} {ls : aw_L} {st : List Value} {I : Nat → Nat → Int32} {L : Nat → Nat → Int64} {R : Nat → Nat → Option Nat} {n : Nat} (h0 : 0 < n) (hk : kc = n) (h : aw_Z X d mc ms y_Law_law Q kc ks pc ls st (I, L, R, n, true)) : aw_Z X d mc ms y_Law_law Q kc ks pc ls st (I, L, R, n, false) := by
  intro p e s m args below meth c F H locs r hR hS hL h1 h2 T hT XS
  have hb : X.2.2.2.1 = s.heap.size := F.2.2.2.2.2.2.2.2.2.2 ⟨rfl, rfl⟩
  have up := XS.heapSize
  rw [hT] at up
  have lo : X.2.2.2.1 + (n - 1) < H.size := (hR.1 (n - 1) _ (aw_w_at (X := X) (A := (I, L, R, n, false)) (o := n - 1) (show n - 1 < n by omega))).lt
  exact h p e s m args below meth c F H locs r ⟨hR.1, hR.2.1, fun _ => by show H.size = X.2.2.2.1 + n; omega, fun q => Bool.noConfusion q⟩ hS hL h1 h2 T hT XS
theorem aw_Z.flag {X : aw_X} {d mc ms : Nat} {y : aw_Y} {Q : Option Value → aw_H → Prop} {kc ks pc : Nat} {ls : aw_L} {st : List Value} {I : Nat → Nat → Int32} {L : Nat → Nat → Int64} {R : Nat → Nat → Option Nat} {n : Nat} (hn : 72 ≤ n) (h : aw_Z X d mc ms y Q kc ks pc ls st (I, L, R, n, false)) : aw_Z X d mc ms y Q kc ks pc ls st (I, L, R, n, true) := by
  intro p e s m args below meth c F H locs r hR hS hL h1 h2
  exact h p e s m args below meth c F H locs r ⟨hR.1, hR.2.1, fun q => Bool.noConfusion q, fun _ => hn⟩ hS hL h1 h2
/-- what isn't made doesn't matter -/
theorem aw_Z.cut {X : aw_X} {d mc ms : Nat} {y : aw_Y} {Q : Option Value → aw_H → Prop} {kc ks pc : Nat} {ls : aw_L} {st : List Value} {I I' : Nat → Nat → Int32} {L L' : Nat → Nat → Int64} {R : Nat → Nat → Option Nat} {n : Nat} {b : Bool} (hI : ∀ o, o < n → I' o = I o) (hJ : ∀ o, o < n → L' o = L o) (h : aw_Z X d mc ms y Q kc ks pc ls st (I', L', R, n, b)) : aw_Z X d mc ms y Q kc ks pc ls st (I, L, R, n, b) := by
  intro p e s m args below meth c F H locs r hR hS hL h1 h2
  have ew : aw_w X (I', L', R, n, b) = aw_w X (I, L, R, n, b) := by
    apply List.map_congr_left
    intro o ho
    have ho : o < n := List.mem_range.mp ho
    rw [aw_ent_congr (A := (I, L, R, n, b)) (A' := (I', L', R, n, b)) (hI o ho) (hJ o ho) rfl]
  exact h p e s m args below meth c F H locs r ⟨by rw [ew]; exact hR.1, hR.2⟩ hS hL h1 h2
theorem aw_R7 {D : Nat → Nat} {v : Nat} : aw_R (va_up D 7 v) = aw_R D := by
  funext o k
  unfold aw_R
  rw [ap_n (k := 7) (k' := 4) (by decide), ap_n (k := 7) (k' := 5) (by decide), ap_n (k := 7) (k' := 6) (by decide)]
  by_cases q : k < 4
  · rw [ap_n (f := D) (k := 7) (k' := k) (by omega)]
  · rw [if_neg q, if_neg q]
theorem aw_R_out {D : Nat → Nat} {o k : Nat} (h : 72 ≤ o) : aw_R D o k = none := by
  have hs : aw_rs o k = none := by
    unfold aw_rs
    have hl : aw_rl.length ≤ 74 := by decide +kernel
    have : aw_rl.getD o [] = [] := by
      rw [List.getD_eq_getElem?_getD]
      by_cases q : 74 ≤ o
      · rw [List.getElem?_eq_none (Nat.le_trans hl q)]; rfl
      · have : o = 72 ∨ o = 73 := by omega
        rcases this with e | e <;> subst e <;> rfl
    rw [this]; rfl
  unfold aw_R
  rw [if_neg (by omega), if_neg (by omega), if_neg (by omega)]
  exact hs
def cutF {α : Type} (z : α) (f : Nat → Nat → α) : Nat → Nat → α := fun o => if o < 72 then f o else fun _ => z
theorem cutF_in {α : Type} {z : α} {f : Nat → Nat → α} {o : Nat} (h : o < 72) : cutF z f o = f o := if_pos h
section LAWK
variable {X : aw_X} {d mc ms ks : Nat} {Q : Option Value → aw_H → Prop} {D : Nat → Nat} {I : Nat → Nat → Int32} {L : Nat → Nat → Int64} {S : PT} {B F n : Nat} {l : List (Nat × Nat)} {E : Nat → PE} {wl wc : Nat → Nat}
theorem l_make (hm : 76 ≤ mc) (hs : ks + 60 ≤ ms) (hl : X.1.stackTraces = false) (hP : LWp S B F l E) (h7 : D 7 = 0) (hW : WD S B 2 0 F E n wl wc I L) (hV : KV I 0 l) (kin : KIn S (D 1) B 2 0 I L) (hQ : ∀ A, Q (some (.int 1)) A) :
    aw_Z X (d + 8) mc ms y_Law_law Q 72 ks 222 [none, some (.ref 0), none, none, some (.int (nI B)), some (.int (nI F)), some (.ref 70), some (.ref 71), some (.int (nI l.length)), none, none, some (.int (nI n)), some (.int (nI (2 ^ (B * (2 + 0))))), none, none, none, none, none, none, none] [.int 24] (aw_s I L D) := by
  have e0 : aw_s I L D = (I, L, aw_R D, 72, false) := by
    show (I, L, aw_R D, 72 + D 7, false) = _
    rw [h7]
  have hH : LH S B F l E n wl wc (va_up D 7 2) I L := ⟨ap_s _ _ _, hW, hV, by rw [ap_n (by decide)]; exact kin⟩
  have hH2 : LH S B F l E n wl wc (va_up D 7 2) (cutF 0 I) (cutF 0 L) := hH.fr (fun o _ _ => cutF_in (by omega)) (fun o _ _ => cutF_in (by omega)) (fun o _ _ => cutF_in (by omega)) (fun o _ _ => cutF_in (by omega)) (fun o _ _ => cutF_in (by omega)) (cutF_in (by decide))
  have f : aw_F (cutF 0 I) (cutF 0 L) (aw_R D) 72 := fun o ho => ⟨fun k => by unfold cutF; rw [if_neg (by omega)], fun k => by unfold cutF; rw [if_neg (by omega)], fun k => aw_R_out ho⟩
  have fin := l_checks (kc := 74) (ks := ks + 24 + 24) (mc := mc) (ms := ms) (X := X) (d := d) (Q := Q) hm (by omega) hl hP hH2 (fun I' L' => hQ (aw_s I' L' (va_up D 7 2)))
  have e1 : aw_s (cutF 0 I) (cutF 0 L) (va_up D 7 2) = (cutF 0 I, cutF 0 L, aw_R D, 74, false) := by
    show (_, _, aw_R (va_up D 7 2), 72 + va_up D 7 2 7, false) = _
    rw [aw_R7, ap_s]
  rw [e1] at fin
  rw [e0]
  refine aw_Z.cut (I' := cutF 0 I) (L' := cutF 0 L) (fun o ho => cutF_in ho) (fun o ho => cutF_in ho) (z_tight (by decide) rfl ?_)
  refine z_newI (N := 24) w_ac_int d_Law_law_222 rfl (Nat.le_of_ble_eq_true rfl) (by decide +kernel) (by decide +kernel) rfl f (by omega) (by omega) (fun f1 => ?_)
  refine s_Law_law_224.go [none, some (.ref 0), none, none, some (.int (nI B)), some (.int (nI F)), some (.ref 70), some (.ref 71), some (.int (nI l.length)), none, none, some (.int (nI n)), some (.int (nI (2 ^ (B * (2 + 0))))), some (.ref 72), none, none, none, none, none, none] [.int 24] _ rfl ?_
  refine z_newI (N := 24) w_ac_int d_Law_law_228 rfl (Nat.le_of_ble_eq_true rfl) (by decide +kernel) (by decide +kernel) rfl f1 (by omega) (by omega) (fun f2 => ?_)
  refine s_Law_law_230.go [none, some (.ref 0), none, none, some (.int (nI B)), some (.int (nI F)), some (.ref 70), some (.ref 71), some (.int (nI l.length)), none, none, some (.int (nI n)), some (.int (nI (2 ^ (B * (2 + 0))))), some (.ref 72), some (.ref 73), none, none, none, none, none] [] _ rfl ?_
  exact aw_Z.flag (by decide) fin
theorem rows_v {B : Nat} (hB : 2 ≤ B ∧ B ≤ 4) : (1 : Int32) <<< (((2 : Int32) * nI B) &&& 31) = nI (2 ^ (B * (2 + 0))) := by
  rcases (show B = 2 ∨ B = 3 ∨ B = 4 by omega) with rfl | rfl | rfl <;> decide +kernel
theorem szP_B {B : Nat} (hB : 2 ≤ B ∧ B ≤ 4) : szP (nI B) 2 0 := by
  rcases (show B = 2 ∨ B = 3 ∨ B = 4 by omega) with rfl | rfl | rfl <;> exact ⟨by decide, by decide, by decide, by decide, by decide, by decide, by decide⟩
theorem l_load {z0 : Nat} (hm : 76 ≤ mc) (hs : ks + 60 ≤ ms) (hl : X.1.stackTraces = false) (hB : 2 ≤ B ∧ B ≤ 4) (hF : 1 ≤ F ∧ F ≤ 16) (h5 : l.length ≤ 5) (h8 : ∀ q, q ∈ l → q.1 < 8 ∧ q.2 ≤ 15) (hT : Tx I (plB l)) (hV : KV I 0 l) (h21 : I 2 1 = nI z0) (hz : z0 ≤ 540) (hD5 : D 5 ∈ aw_codes) (h419 : I 4 19 = 0) (h7 : D 7 = 0) (hQ : ∀ A, Q (some (.int 1)) A) {a10 : Int32} (h10 : a10 = nI (plB l).length) :
    aw_Z X (d + 300) mc ms y_Law_law Q 72 ks 163 [none, some (.ref 0), some (.ref 69), none, some (.int (nI B)), some (.int (nI F)), some (.ref 70), some (.ref 71), some (.int (nI l.length)), some (.int (nI (plN l))), some (.int a10), none, none, none, none, none, none, none, none, none] [] (aw_s I L D) := by
  have hm0 : 72 ≤ mc := by omega
  have hs0 : ks ≤ ms := by omega
  subst h10
  have pl := plB_len l
  refine b_Law_law_163 (m2 := 0) (s2 := 0) hm0 hs0 (c_AW_sizes1 (szP_B hB) ?_)
  have hT1 : Tx (aw_u (aw_u (aw_u (aw_u I 1 0 (nI B)) 1 1 2) 1 2 0) 11 0 0) (plB l) := ⟨hT.1, fun j hj => by rw [au_o (by decide), au_o (by decide), au_o (by decide), au_o (by decide)]; exact hT.2 j hj⟩
  refine b_Law_law_171 (m2 := 0) (s2 := 0) hm0 hs0 (fun x => absurd x (by decide)) (fun _ => c_Law_lies hT1 hz (by rw [au_o (by decide), au_o (by decide), au_o (by decide), au_o (by decide)]; exact h21) (fun I2 f2 t2 b2 => ?_))
  have g2 : ∀ o, o ≠ 1 → o ≠ 2 → o ≠ 3 → o ≠ 11 → I2 o = I o := fun o a b c e => funext fun k => by
    rw [f2 o k c (fun q => b q.1), au_o e, au_o a, au_o a, au_o a]
  have s10 : I2 1 0 = nI B := by rw [f2 1 0 (by decide) (by decide), au_o (by decide), au_k (by decide), au_k (by decide), au_s]
  have s11 : I2 1 1 = nI 2 := by rw [f2 1 1 (by decide) (by decide), au_o (by decide), au_k (by decide), au_s]; rfl
  have s12 : I2 1 2 = nI 0 := by rw [f2 1 2 (by decide) (by decide), au_o (by decide), au_s]; rfl
  have hK : KTp I2 (fun j => nI ((plB l).getD j 0)) (plB l).length := ⟨t2, by omega, b2⟩
  have hb : bsL (fun j => nI ((plB l).getD j 0)) 0 (plB l) := fun j _ => by
    show nI ((plB l).getD (0 + j) 0) = _
    rw [Nat.zero_add]
  refine b_Law_law_181 (m2 := 0) (s2 := 0) hm0 hs0 (fun x => absurd x (by decide)) (fun _ => c_AW_program (k := 1) (by decide) hK hD5 (fun T ps S I3 L3 it _ hr hPG hC hFr h9 => ?_) (fun T ps e I3 L3 it _ hr _ _ _ => ?_))
  · obtain ⟨S', eS, eN, eC⟩ := text_prog it h8 h5 hb
    have es : S' = S := by rw [hr] at eS; injection eS with eS; exact eS.symm
    subst es
    obtain ⟨c1, c2⟩ := codes_bd hD5
    obtain ⟨fr1, fr2, fr3, fr4⟩ := hFr
    have g3 : ∀ o, o ≠ 0 → o ≠ 2 → ¬ (30 ≤ o ∧ o ≤ 59) → ¬ (60 ≤ o ∧ o ≤ 65) → I3 o = I2 o := fun o a b c e => fr1 o (by omega) e a b
    have h8' : ∀ q, q ∈ l → q.1 < 8 := fun q hq => (h8 q hq).1
    have kin : KIn S' ((va_up (va_up (va_up D 6 (D 5)) 1 (D 5)) 5 (D 1)) 1) B 2 0 I3 L3 := by
      rw [ap_n (by decide), ap_s]
      refine ⟨hPG, hD5, hC, ⟨hB.1, by omega, by decide, by decide, by decide, by omega⟩, ?_, ?_, ?_⟩
      · rw [g3 1 (by decide) (by decide) (by decide) (by decide)]; exact s10
      · rw [g3 1 (by decide) (by decide) (by decide) (by decide)]; exact s11
      · rw [g3 1 (by decide) (by decide) (by decide) (by decide)]; exact s12
    have h19 : I3 4 19 = 0 := by rw [g3 4 (by decide) (by decide) (by decide) (by decide), g2 4 (by decide) (by decide) (by decide) (by decide)]; exact h419
    refine b_Law_law_189 (m2 := 0) (s2 := 0) hm0 hs0 (fun x => absurd (congrArg nI eN) x) (fun _ => c_AW_fault ?_)
    refine b_Law_law_198 (m2 := 0) (s2 := 0) hm0 hs0 (fun _ => c_AW_walk1 (k := 1) (by decide) kin (by omega) (by omega) h19 (fun I4 L4 E n wl wc hE hW fk => ?_)) (fun x => absurd h9 x)
    refine b_Law_law_210 (m2 := 0) (s2 := 0) hm0 hs0 ?_
    rw [rows_v hB]
    have hV4 : KV I4 0 l := fun j hj => by
      rw [fk.1 70 (by decide), fk.1 71 (by decide), g3 70 (by decide) (by decide) (by decide) (by decide), g3 71 (by decide) (by decide) (by decide) (by decide), g2 70 (by decide) (by decide) (by decide) (by decide), g2 71 (by decide) (by decide) (by decide) (by decide)]
      exact hV j hj
    exact l_make hm hs hl ⟨hB, hF, h5, h8', fun r => (hE r).1, fun r => run_is eC h8' h5 hB.1 (by omega) (by omega) (hE r).1⟩ (by rw [ap_n (by decide), ap_n (by decide), ap_n (by decide)]; exact h7) hW hV4 (kin.fw fk) hQ
  · obtain ⟨S', eS, -, -⟩ := text_prog it h8 h5 hb
    rw [hr] at eS
    exact absurd eS (by intro q; cases q)
end LAWK
