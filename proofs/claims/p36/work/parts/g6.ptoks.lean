/-! PART g6 (by gen_tok.py): each piece's bytes are its tokens -/
/-- a piece's bytes: ahead of its number, behind it -/
def pcA (k : Nat) : List Nat := match k with
  | 0 => [98, 61, 97, 43]
  | 1 => [105, 102, 32, 97, 60]
  | 2 => [119, 104, 105, 108, 101, 32, 99, 60]
  | 3 => [109, 117, 115, 116, 32, 98, 35]
  | 4 => [108, 101, 116, 32, 97, 62]
  | 5 => [100, 61, 97, 47, 98, 59]
  | 6 => [99, 101, 108, 108, 91, 98, 43]
  | _ => [104, 61, 99, 101, 108, 108, 91]
def pcC (k : Nat) : List Nat := match k with
  | 0 => [59]
  | 1 => [123, 99, 61, 99, 43, 49, 59, 125, 101, 108, 115, 101, 123, 99, 61, 99, 42, 50, 59, 125]
  | 2 => [123, 99, 61, 99, 43, 49, 59, 100, 61, 100, 43, 97, 59, 125]
  | 3 => [59]
  | 4 => [59]
  | 5 => []
  | 6 => [93, 61, 97, 59]
  | _ => [93, 43, 100, 59]
def pcB (k n : Nat) : List Nat := if k = 5 then pcA 5 else pcA k ++ (dgs n ++ pcC k)
section PTK
variable {bt : Nat → Int32} {z cnt i p n : Nat} {ps : Nat → Nat} {TK TV : Nat → Int32} {TP : Nat → Nat}
set_option maxHeartbeats 8000000 in
theorem tk_0 (h : isToks bt z cnt ps TK TV TP) (hz : z ≤ 500) (hi : i ≤ cnt) (hc : ps i = p) (hA : bsL bt p [98, 61, 97, 43]) (hn : n ≤ 15) (hD : bsL bt (p + 4) (dgs n)) (hC : bsL bt (p + 4 + (dgs n).length) [59]) (hp : p + 4 + (dgs n).length + 1 ≤ z) : (∀ j, j < 6 → TK (i + j) = (([tN 1, tC 61, tN 0, tC 43, tM n, tC 59] : List (Int32 × Option Int32)).getD j (0, none)).1 ∧ ∀ v, (([tN 1, tC 61, tN 0, tC 43, tM n, tC 59] : List (Int32 × Option Int32)).getD j (0, none)).2 = some v → TV (i + j) = v) ∧ i + 6 ≤ cnt ∧ ps (i + 6) = p + 4 + (dgs n).length + 1 := by
  obtain ⟨l1, l2⟩ := dgs_len n
  have bA : ∀ o, o ≤ 4 → p + o < z := fun o ho => by omega
  have bC : ∀ o, o < 1 → p + 4 + (dgs n).length + o < z := fun o ho => by omega
  obtain ⟨t0a, t0v, t0h, t0p⟩ := tkNm h hz (j := i) (p := p) (x := 1) hi hc (bA 1 (by decide)) (hA.b 0 rfl) rfl (hA.b 1 rfl) rfl
  obtain ⟨t1a, t1h, t1p⟩ := tkMk h hz (j := i + 1) (p := p + 1) t0h t0p (bA 1 (by decide)) (hA.b 1 rfl) rfl
  obtain ⟨t2a, t2v, t2h, t2p⟩ := tkNm h hz (j := i + 2) (p := p + 2) (x := 0) t1h t1p (bA 3 (by decide)) (hA.b 2 rfl) rfl (hA.b 3 rfl) rfl
  obtain ⟨t3a, t3h, t3p⟩ := tkMk h hz (j := i + 3) (p := p + 3) t2h t2p (bA 3 (by decide)) (hA.b 3 rfl) rfl
  obtain ⟨t4a, t4v, t4h, t4p⟩ := tkNu h hz (j := i + 4) (p := p + 4) t3h t3p hn hD (bC 0 (by decide)) (hC.b 0 rfl) rfl
  obtain ⟨t5a, t5h, t5p⟩ := tkMk h hz (j := i + 5) (p := p + 4 + (dgs n).length) t4h t4p (bC 0 (by decide)) (hC.b 0 rfl) rfl
  refine ⟨fun j hj => ?_, t5h, t5p⟩
  match j, hj with
  | 0, _ => exact ⟨t0a, fun v hv => by cases hv; exact t0v⟩
  | 1, _ => exact ⟨t1a, fun v hv => by cases hv⟩
  | 2, _ => exact ⟨t2a, fun v hv => by cases hv; exact t2v⟩
  | 3, _ => exact ⟨t3a, fun v hv => by cases hv⟩
  | 4, _ => exact ⟨t4a, fun v hv => by cases hv; exact t4v⟩
  | 5, _ => exact ⟨t5a, fun v hv => by cases hv⟩
  | j + 6, hj => exact absurd hj (Nat.not_lt.mpr (Nat.le_add_left _ _))
set_option maxHeartbeats 8000000 in
theorem tk_1 (h : isToks bt z cnt ps TK TV TP) (hz : z ≤ 500) (hi : i ≤ cnt) (hc : ps i = p) (hA : bsL bt p [105, 102, 32, 97, 60]) (hn : n ≤ 15) (hD : bsL bt (p + 5) (dgs n)) (hC : bsL bt (p + 5 + (dgs n).length) [123, 99, 61, 99, 43, 49, 59, 125, 101, 108, 115, 101, 123, 99, 61, 99, 42, 50, 59, 125]) (hp : p + 5 + (dgs n).length + 20 ≤ z) : (∀ j, j < 21 → TK (i + j) = (([tC 8, tN 0, tC 60, tM n, tC 123, tN 2, tC 61, tN 2, tC 43, tM 1, tC 59, tC 125, tC 9, tC 123, tN 2, tC 61, tN 2, tC 42, tM 2, tC 59, tC 125] : List (Int32 × Option Int32)).getD j (0, none)).1 ∧ ∀ v, (([tC 8, tN 0, tC 60, tM n, tC 123, tN 2, tC 61, tN 2, tC 43, tM 1, tC 59, tC 125, tC 9, tC 123, tN 2, tC 61, tN 2, tC 42, tM 2, tC 59, tC 125] : List (Int32 × Option Int32)).getD j (0, none)).2 = some v → TV (i + j) = v) ∧ i + 21 ≤ cnt ∧ ps (i + 21) = p + 5 + (dgs n).length + 20 := by
  obtain ⟨l1, l2⟩ := dgs_len n
  have bA : ∀ o, o ≤ 5 → p + o < z := fun o ho => by omega
  have bC : ∀ o, o < 20 → p + 5 + (dgs n).length + o < z := fun o ho => by omega
  obtain ⟨t0a, t0h, t0p⟩ := tkWd h hz (j := i) (p := p) (w := 3) (len := 2) hi hc (bA 2 (by decide)) (hA.w 0 (by decide +kernel)) (by decide +kernel) (hA.b 2 rfl) rfl
  obtain ⟨t1a, t1v, t1h, t1p⟩ := tkNb h hz (j := i + 1) (p := p + 2) (x := 0) t0h t0p (bA 4 (by decide)) (hA.b 2 rfl) (hA.b 3 rfl) rfl (hA.b 4 rfl) rfl
  obtain ⟨t2a, t2h, t2p⟩ := tkMk h hz (j := i + 2) (p := p + 4) t1h t1p (bA 4 (by decide)) (hA.b 4 rfl) rfl
  obtain ⟨t3a, t3v, t3h, t3p⟩ := tkNu h hz (j := i + 3) (p := p + 5) t2h t2p hn hD (bC 0 (by decide)) (hC.b 0 rfl) rfl
  obtain ⟨t4a, t4h, t4p⟩ := tkMk h hz (j := i + 4) (p := p + 5 + (dgs n).length) t3h t3p (bC 0 (by decide)) (hC.b 0 rfl) rfl
  obtain ⟨t5a, t5v, t5h, t5p⟩ := tkNm h hz (j := i + 5) (p := p + 5 + (dgs n).length + 1) (x := 2) t4h t4p (bC 2 (by decide)) (hC.b 1 rfl) rfl (hC.b 2 rfl) rfl
  obtain ⟨t6a, t6h, t6p⟩ := tkMk h hz (j := i + 6) (p := p + 5 + (dgs n).length + 2) t5h t5p (bC 2 (by decide)) (hC.b 2 rfl) rfl
  obtain ⟨t7a, t7v, t7h, t7p⟩ := tkNm h hz (j := i + 7) (p := p + 5 + (dgs n).length + 3) (x := 2) t6h t6p (bC 4 (by decide)) (hC.b 3 rfl) rfl (hC.b 4 rfl) rfl
  obtain ⟨t8a, t8h, t8p⟩ := tkMk h hz (j := i + 8) (p := p + 5 + (dgs n).length + 4) t7h t7p (bC 4 (by decide)) (hC.b 4 rfl) rfl
  obtain ⟨t9a, t9v, t9h, t9p⟩ := tkDg h hz (x := 1) (j := i + 9) (p := p + 5 + (dgs n).length + 5) t8h t8p (bC 6 (by decide)) (hC.b 5 rfl) rfl (hC.b 6 rfl) rfl
  obtain ⟨t10a, t10h, t10p⟩ := tkMk h hz (j := i + 10) (p := p + 5 + (dgs n).length + 6) t9h t9p (bC 6 (by decide)) (hC.b 6 rfl) rfl
  obtain ⟨t11a, t11h, t11p⟩ := tkMk h hz (j := i + 11) (p := p + 5 + (dgs n).length + 7) t10h t10p (bC 7 (by decide)) (hC.b 7 rfl) rfl
  obtain ⟨t12a, t12h, t12p⟩ := tkWd h hz (j := i + 12) (p := p + 5 + (dgs n).length + 8) (w := 4) (len := 4) t11h t11p (bC 12 (by decide)) (hC.w 8 (by decide +kernel)) (by decide +kernel) (hC.b 12 rfl) rfl
  obtain ⟨t13a, t13h, t13p⟩ := tkMk h hz (j := i + 13) (p := p + 5 + (dgs n).length + 12) t12h t12p (bC 12 (by decide)) (hC.b 12 rfl) rfl
  obtain ⟨t14a, t14v, t14h, t14p⟩ := tkNm h hz (j := i + 14) (p := p + 5 + (dgs n).length + 13) (x := 2) t13h t13p (bC 14 (by decide)) (hC.b 13 rfl) rfl (hC.b 14 rfl) rfl
  obtain ⟨t15a, t15h, t15p⟩ := tkMk h hz (j := i + 15) (p := p + 5 + (dgs n).length + 14) t14h t14p (bC 14 (by decide)) (hC.b 14 rfl) rfl
  obtain ⟨t16a, t16v, t16h, t16p⟩ := tkNm h hz (j := i + 16) (p := p + 5 + (dgs n).length + 15) (x := 2) t15h t15p (bC 16 (by decide)) (hC.b 15 rfl) rfl (hC.b 16 rfl) rfl
  obtain ⟨t17a, t17h, t17p⟩ := tkMk h hz (j := i + 17) (p := p + 5 + (dgs n).length + 16) t16h t16p (bC 16 (by decide)) (hC.b 16 rfl) rfl
  obtain ⟨t18a, t18v, t18h, t18p⟩ := tkDg h hz (x := 2) (j := i + 18) (p := p + 5 + (dgs n).length + 17) t17h t17p (bC 18 (by decide)) (hC.b 17 rfl) rfl (hC.b 18 rfl) rfl
  obtain ⟨t19a, t19h, t19p⟩ := tkMk h hz (j := i + 19) (p := p + 5 + (dgs n).length + 18) t18h t18p (bC 18 (by decide)) (hC.b 18 rfl) rfl
  obtain ⟨t20a, t20h, t20p⟩ := tkMk h hz (j := i + 20) (p := p + 5 + (dgs n).length + 19) t19h t19p (bC 19 (by decide)) (hC.b 19 rfl) rfl
  refine ⟨fun j hj => ?_, t20h, t20p⟩
  match j, hj with
  | 0, _ => exact ⟨t0a, fun v hv => by cases hv⟩
  | 1, _ => exact ⟨t1a, fun v hv => by cases hv; exact t1v⟩
  | 2, _ => exact ⟨t2a, fun v hv => by cases hv⟩
  | 3, _ => exact ⟨t3a, fun v hv => by cases hv; exact t3v⟩
  | 4, _ => exact ⟨t4a, fun v hv => by cases hv⟩
  | 5, _ => exact ⟨t5a, fun v hv => by cases hv; exact t5v⟩
  | 6, _ => exact ⟨t6a, fun v hv => by cases hv⟩
  | 7, _ => exact ⟨t7a, fun v hv => by cases hv; exact t7v⟩
  | 8, _ => exact ⟨t8a, fun v hv => by cases hv⟩
  | 9, _ => exact ⟨t9a, fun v hv => by cases hv; exact t9v⟩
  | 10, _ => exact ⟨t10a, fun v hv => by cases hv⟩
  | 11, _ => exact ⟨t11a, fun v hv => by cases hv⟩
  | 12, _ => exact ⟨t12a, fun v hv => by cases hv⟩
  | 13, _ => exact ⟨t13a, fun v hv => by cases hv⟩
  | 14, _ => exact ⟨t14a, fun v hv => by cases hv; exact t14v⟩
  | 15, _ => exact ⟨t15a, fun v hv => by cases hv⟩
  | 16, _ => exact ⟨t16a, fun v hv => by cases hv; exact t16v⟩
  | 17, _ => exact ⟨t17a, fun v hv => by cases hv⟩
  | 18, _ => exact ⟨t18a, fun v hv => by cases hv; exact t18v⟩
  | 19, _ => exact ⟨t19a, fun v hv => by cases hv⟩
  | 20, _ => exact ⟨t20a, fun v hv => by cases hv⟩
  | j + 21, hj => exact absurd hj (Nat.not_lt.mpr (Nat.le_add_left _ _))
set_option maxHeartbeats 8000000 in
theorem tk_2 (h : isToks bt z cnt ps TK TV TP) (hz : z ≤ 500) (hi : i ≤ cnt) (hc : ps i = p) (hA : bsL bt p [119, 104, 105, 108, 101, 32, 99, 60]) (hn : n ≤ 15) (hD : bsL bt (p + 8) (dgs n)) (hC : bsL bt (p + 8 + (dgs n).length) [123, 99, 61, 99, 43, 49, 59, 100, 61, 100, 43, 97, 59, 125]) (hp : p + 8 + (dgs n).length + 14 ≤ z) : (∀ j, j < 18 → TK (i + j) = (([tC 10, tN 2, tC 60, tM n, tC 123, tN 2, tC 61, tN 2, tC 43, tM 1, tC 59, tN 3, tC 61, tN 3, tC 43, tN 0, tC 59, tC 125] : List (Int32 × Option Int32)).getD j (0, none)).1 ∧ ∀ v, (([tC 10, tN 2, tC 60, tM n, tC 123, tN 2, tC 61, tN 2, tC 43, tM 1, tC 59, tN 3, tC 61, tN 3, tC 43, tN 0, tC 59, tC 125] : List (Int32 × Option Int32)).getD j (0, none)).2 = some v → TV (i + j) = v) ∧ i + 18 ≤ cnt ∧ ps (i + 18) = p + 8 + (dgs n).length + 14 := by
  obtain ⟨l1, l2⟩ := dgs_len n
  have bA : ∀ o, o ≤ 8 → p + o < z := fun o ho => by omega
  have bC : ∀ o, o < 14 → p + 8 + (dgs n).length + o < z := fun o ho => by omega
  obtain ⟨t0a, t0h, t0p⟩ := tkWd h hz (j := i) (p := p) (w := 5) (len := 5) hi hc (bA 5 (by decide)) (hA.w 0 (by decide +kernel)) (by decide +kernel) (hA.b 5 rfl) rfl
  obtain ⟨t1a, t1v, t1h, t1p⟩ := tkNb h hz (j := i + 1) (p := p + 5) (x := 2) t0h t0p (bA 7 (by decide)) (hA.b 5 rfl) (hA.b 6 rfl) rfl (hA.b 7 rfl) rfl
  obtain ⟨t2a, t2h, t2p⟩ := tkMk h hz (j := i + 2) (p := p + 7) t1h t1p (bA 7 (by decide)) (hA.b 7 rfl) rfl
  obtain ⟨t3a, t3v, t3h, t3p⟩ := tkNu h hz (j := i + 3) (p := p + 8) t2h t2p hn hD (bC 0 (by decide)) (hC.b 0 rfl) rfl
  obtain ⟨t4a, t4h, t4p⟩ := tkMk h hz (j := i + 4) (p := p + 8 + (dgs n).length) t3h t3p (bC 0 (by decide)) (hC.b 0 rfl) rfl
  obtain ⟨t5a, t5v, t5h, t5p⟩ := tkNm h hz (j := i + 5) (p := p + 8 + (dgs n).length + 1) (x := 2) t4h t4p (bC 2 (by decide)) (hC.b 1 rfl) rfl (hC.b 2 rfl) rfl
  obtain ⟨t6a, t6h, t6p⟩ := tkMk h hz (j := i + 6) (p := p + 8 + (dgs n).length + 2) t5h t5p (bC 2 (by decide)) (hC.b 2 rfl) rfl
  obtain ⟨t7a, t7v, t7h, t7p⟩ := tkNm h hz (j := i + 7) (p := p + 8 + (dgs n).length + 3) (x := 2) t6h t6p (bC 4 (by decide)) (hC.b 3 rfl) rfl (hC.b 4 rfl) rfl
  obtain ⟨t8a, t8h, t8p⟩ := tkMk h hz (j := i + 8) (p := p + 8 + (dgs n).length + 4) t7h t7p (bC 4 (by decide)) (hC.b 4 rfl) rfl
  obtain ⟨t9a, t9v, t9h, t9p⟩ := tkDg h hz (x := 1) (j := i + 9) (p := p + 8 + (dgs n).length + 5) t8h t8p (bC 6 (by decide)) (hC.b 5 rfl) rfl (hC.b 6 rfl) rfl
  obtain ⟨t10a, t10h, t10p⟩ := tkMk h hz (j := i + 10) (p := p + 8 + (dgs n).length + 6) t9h t9p (bC 6 (by decide)) (hC.b 6 rfl) rfl
  obtain ⟨t11a, t11v, t11h, t11p⟩ := tkNm h hz (j := i + 11) (p := p + 8 + (dgs n).length + 7) (x := 3) t10h t10p (bC 8 (by decide)) (hC.b 7 rfl) rfl (hC.b 8 rfl) rfl
  obtain ⟨t12a, t12h, t12p⟩ := tkMk h hz (j := i + 12) (p := p + 8 + (dgs n).length + 8) t11h t11p (bC 8 (by decide)) (hC.b 8 rfl) rfl
  obtain ⟨t13a, t13v, t13h, t13p⟩ := tkNm h hz (j := i + 13) (p := p + 8 + (dgs n).length + 9) (x := 3) t12h t12p (bC 10 (by decide)) (hC.b 9 rfl) rfl (hC.b 10 rfl) rfl
  obtain ⟨t14a, t14h, t14p⟩ := tkMk h hz (j := i + 14) (p := p + 8 + (dgs n).length + 10) t13h t13p (bC 10 (by decide)) (hC.b 10 rfl) rfl
  obtain ⟨t15a, t15v, t15h, t15p⟩ := tkNm h hz (j := i + 15) (p := p + 8 + (dgs n).length + 11) (x := 0) t14h t14p (bC 12 (by decide)) (hC.b 11 rfl) rfl (hC.b 12 rfl) rfl
  obtain ⟨t16a, t16h, t16p⟩ := tkMk h hz (j := i + 16) (p := p + 8 + (dgs n).length + 12) t15h t15p (bC 12 (by decide)) (hC.b 12 rfl) rfl
  obtain ⟨t17a, t17h, t17p⟩ := tkMk h hz (j := i + 17) (p := p + 8 + (dgs n).length + 13) t16h t16p (bC 13 (by decide)) (hC.b 13 rfl) rfl
  refine ⟨fun j hj => ?_, t17h, t17p⟩
  match j, hj with
  | 0, _ => exact ⟨t0a, fun v hv => by cases hv⟩
  | 1, _ => exact ⟨t1a, fun v hv => by cases hv; exact t1v⟩
  | 2, _ => exact ⟨t2a, fun v hv => by cases hv⟩
  | 3, _ => exact ⟨t3a, fun v hv => by cases hv; exact t3v⟩
  | 4, _ => exact ⟨t4a, fun v hv => by cases hv⟩
  | 5, _ => exact ⟨t5a, fun v hv => by cases hv; exact t5v⟩
  | 6, _ => exact ⟨t6a, fun v hv => by cases hv⟩
  | 7, _ => exact ⟨t7a, fun v hv => by cases hv; exact t7v⟩
  | 8, _ => exact ⟨t8a, fun v hv => by cases hv⟩
  | 9, _ => exact ⟨t9a, fun v hv => by cases hv; exact t9v⟩
  | 10, _ => exact ⟨t10a, fun v hv => by cases hv⟩
  | 11, _ => exact ⟨t11a, fun v hv => by cases hv; exact t11v⟩
  | 12, _ => exact ⟨t12a, fun v hv => by cases hv⟩
  | 13, _ => exact ⟨t13a, fun v hv => by cases hv; exact t13v⟩
  | 14, _ => exact ⟨t14a, fun v hv => by cases hv⟩
  | 15, _ => exact ⟨t15a, fun v hv => by cases hv; exact t15v⟩
  | 16, _ => exact ⟨t16a, fun v hv => by cases hv⟩
  | 17, _ => exact ⟨t17a, fun v hv => by cases hv⟩
  | j + 18, hj => exact absurd hj (Nat.not_lt.mpr (Nat.le_add_left _ _))
set_option maxHeartbeats 8000000 in
theorem tk_3 (h : isToks bt z cnt ps TK TV TP) (hz : z ≤ 500) (hi : i ≤ cnt) (hc : ps i = p) (hA : bsL bt p [109, 117, 115, 116, 32, 98, 35]) (hn : n ≤ 15) (hD : bsL bt (p + 7) (dgs n)) (hC : bsL bt (p + 7 + (dgs n).length) [59]) (hp : p + 7 + (dgs n).length + 1 ≤ z) : (∀ j, j < 5 → TK (i + j) = (([tC 11, tN 1, tC 35, tM n, tC 59] : List (Int32 × Option Int32)).getD j (0, none)).1 ∧ ∀ v, (([tC 11, tN 1, tC 35, tM n, tC 59] : List (Int32 × Option Int32)).getD j (0, none)).2 = some v → TV (i + j) = v) ∧ i + 5 ≤ cnt ∧ ps (i + 5) = p + 7 + (dgs n).length + 1 := by
  obtain ⟨l1, l2⟩ := dgs_len n
  have bA : ∀ o, o ≤ 7 → p + o < z := fun o ho => by omega
  have bC : ∀ o, o < 1 → p + 7 + (dgs n).length + o < z := fun o ho => by omega
  obtain ⟨t0a, t0h, t0p⟩ := tkWd h hz (j := i) (p := p) (w := 6) (len := 4) hi hc (bA 4 (by decide)) (hA.w 0 (by decide +kernel)) (by decide +kernel) (hA.b 4 rfl) rfl
  obtain ⟨t1a, t1v, t1h, t1p⟩ := tkNb h hz (j := i + 1) (p := p + 4) (x := 1) t0h t0p (bA 6 (by decide)) (hA.b 4 rfl) (hA.b 5 rfl) rfl (hA.b 6 rfl) rfl
  obtain ⟨t2a, t2h, t2p⟩ := tkMk h hz (j := i + 2) (p := p + 6) t1h t1p (bA 6 (by decide)) (hA.b 6 rfl) rfl
  obtain ⟨t3a, t3v, t3h, t3p⟩ := tkNu h hz (j := i + 3) (p := p + 7) t2h t2p hn hD (bC 0 (by decide)) (hC.b 0 rfl) rfl
  obtain ⟨t4a, t4h, t4p⟩ := tkMk h hz (j := i + 4) (p := p + 7 + (dgs n).length) t3h t3p (bC 0 (by decide)) (hC.b 0 rfl) rfl
  refine ⟨fun j hj => ?_, t4h, t4p⟩
  match j, hj with
  | 0, _ => exact ⟨t0a, fun v hv => by cases hv⟩
  | 1, _ => exact ⟨t1a, fun v hv => by cases hv; exact t1v⟩
  | 2, _ => exact ⟨t2a, fun v hv => by cases hv⟩
  | 3, _ => exact ⟨t3a, fun v hv => by cases hv; exact t3v⟩
  | 4, _ => exact ⟨t4a, fun v hv => by cases hv⟩
  | j + 5, hj => exact absurd hj (Nat.not_lt.mpr (Nat.le_add_left _ _))
set_option maxHeartbeats 8000000 in
theorem tk_4 (h : isToks bt z cnt ps TK TV TP) (hz : z ≤ 500) (hi : i ≤ cnt) (hc : ps i = p) (hA : bsL bt p [108, 101, 116, 32, 97, 62]) (hn : n ≤ 15) (hD : bsL bt (p + 6) (dgs n)) (hC : bsL bt (p + 6 + (dgs n).length) [59]) (hp : p + 6 + (dgs n).length + 1 ≤ z) : (∀ j, j < 5 → TK (i + j) = (([tC 12, tN 0, tC 62, tM n, tC 59] : List (Int32 × Option Int32)).getD j (0, none)).1 ∧ ∀ v, (([tC 12, tN 0, tC 62, tM n, tC 59] : List (Int32 × Option Int32)).getD j (0, none)).2 = some v → TV (i + j) = v) ∧ i + 5 ≤ cnt ∧ ps (i + 5) = p + 6 + (dgs n).length + 1 := by
  obtain ⟨l1, l2⟩ := dgs_len n
  have bA : ∀ o, o ≤ 6 → p + o < z := fun o ho => by omega
  have bC : ∀ o, o < 1 → p + 6 + (dgs n).length + o < z := fun o ho => by omega
  obtain ⟨t0a, t0h, t0p⟩ := tkWd h hz (j := i) (p := p) (w := 7) (len := 3) hi hc (bA 3 (by decide)) (hA.w 0 (by decide +kernel)) (by decide +kernel) (hA.b 3 rfl) rfl
  obtain ⟨t1a, t1v, t1h, t1p⟩ := tkNb h hz (j := i + 1) (p := p + 3) (x := 0) t0h t0p (bA 5 (by decide)) (hA.b 3 rfl) (hA.b 4 rfl) rfl (hA.b 5 rfl) rfl
  obtain ⟨t2a, t2h, t2p⟩ := tkMk h hz (j := i + 2) (p := p + 5) t1h t1p (bA 5 (by decide)) (hA.b 5 rfl) rfl
  obtain ⟨t3a, t3v, t3h, t3p⟩ := tkNu h hz (j := i + 3) (p := p + 6) t2h t2p hn hD (bC 0 (by decide)) (hC.b 0 rfl) rfl
  obtain ⟨t4a, t4h, t4p⟩ := tkMk h hz (j := i + 4) (p := p + 6 + (dgs n).length) t3h t3p (bC 0 (by decide)) (hC.b 0 rfl) rfl
  refine ⟨fun j hj => ?_, t4h, t4p⟩
  match j, hj with
  | 0, _ => exact ⟨t0a, fun v hv => by cases hv⟩
  | 1, _ => exact ⟨t1a, fun v hv => by cases hv; exact t1v⟩
  | 2, _ => exact ⟨t2a, fun v hv => by cases hv⟩
  | 3, _ => exact ⟨t3a, fun v hv => by cases hv; exact t3v⟩
  | 4, _ => exact ⟨t4a, fun v hv => by cases hv⟩
  | j + 5, hj => exact absurd hj (Nat.not_lt.mpr (Nat.le_add_left _ _))
set_option maxHeartbeats 8000000 in
theorem tk_5 (h : isToks bt z cnt ps TK TV TP) (hz : z ≤ 500) (hi : i ≤ cnt) (hc : ps i = p) (hA : bsL bt p [100, 61, 97, 47, 98, 59]) (hp : p + 6 ≤ z) : (∀ j, j < 6 → TK (i + j) = (([tN 3, tC 61, tN 0, tC 47, tN 1, tC 59] : List (Int32 × Option Int32)).getD j (0, none)).1 ∧ ∀ v, (([tN 3, tC 61, tN 0, tC 47, tN 1, tC 59] : List (Int32 × Option Int32)).getD j (0, none)).2 = some v → TV (i + j) = v) ∧ i + 6 ≤ cnt ∧ ps (i + 6) = p + 6 := by
  have bA : ∀ o, o < 6 → p + o < z := fun o ho => by omega
  obtain ⟨t0a, t0v, t0h, t0p⟩ := tkNm h hz (j := i) (p := p) (x := 3) hi hc (bA 1 (by decide)) (hA.b 0 rfl) rfl (hA.b 1 rfl) rfl
  obtain ⟨t1a, t1h, t1p⟩ := tkMk h hz (j := i + 1) (p := p + 1) t0h t0p (bA 1 (by decide)) (hA.b 1 rfl) rfl
  obtain ⟨t2a, t2v, t2h, t2p⟩ := tkNm h hz (j := i + 2) (p := p + 2) (x := 0) t1h t1p (bA 3 (by decide)) (hA.b 2 rfl) rfl (hA.b 3 rfl) rfl
  obtain ⟨t3a, t3h, t3p⟩ := tkMk h hz (j := i + 3) (p := p + 3) t2h t2p (bA 3 (by decide)) (hA.b 3 rfl) rfl
  obtain ⟨t4a, t4v, t4h, t4p⟩ := tkNm h hz (j := i + 4) (p := p + 4) (x := 1) t3h t3p (bA 5 (by decide)) (hA.b 4 rfl) rfl (hA.b 5 rfl) rfl
  obtain ⟨t5a, t5h, t5p⟩ := tkMk h hz (j := i + 5) (p := p + 5) t4h t4p (bA 5 (by decide)) (hA.b 5 rfl) rfl
  refine ⟨fun j hj => ?_, t5h, t5p⟩
  match j, hj with
  | 0, _ => exact ⟨t0a, fun v hv => by cases hv; exact t0v⟩
  | 1, _ => exact ⟨t1a, fun v hv => by cases hv⟩
  | 2, _ => exact ⟨t2a, fun v hv => by cases hv; exact t2v⟩
  | 3, _ => exact ⟨t3a, fun v hv => by cases hv⟩
  | 4, _ => exact ⟨t4a, fun v hv => by cases hv; exact t4v⟩
  | 5, _ => exact ⟨t5a, fun v hv => by cases hv⟩
  | j + 6, hj => exact absurd hj (Nat.not_lt.mpr (Nat.le_add_left _ _))
set_option maxHeartbeats 8000000 in
theorem tk_6 (h : isToks bt z cnt ps TK TV TP) (hz : z ≤ 500) (hi : i ≤ cnt) (hc : ps i = p) (hA : bsL bt p [99, 101, 108, 108, 91, 98, 43]) (hn : n ≤ 15) (hD : bsL bt (p + 7) (dgs n)) (hC : bsL bt (p + 7 + (dgs n).length) [93, 61, 97, 59]) (hp : p + 7 + (dgs n).length + 4 ≤ z) : (∀ j, j < 9 → TK (i + j) = (([tC 7, tC 91, tN 1, tC 43, tM n, tC 93, tC 61, tN 0, tC 59] : List (Int32 × Option Int32)).getD j (0, none)).1 ∧ ∀ v, (([tC 7, tC 91, tN 1, tC 43, tM n, tC 93, tC 61, tN 0, tC 59] : List (Int32 × Option Int32)).getD j (0, none)).2 = some v → TV (i + j) = v) ∧ i + 9 ≤ cnt ∧ ps (i + 9) = p + 7 + (dgs n).length + 4 := by
  obtain ⟨l1, l2⟩ := dgs_len n
  have bA : ∀ o, o ≤ 7 → p + o < z := fun o ho => by omega
  have bC : ∀ o, o < 4 → p + 7 + (dgs n).length + o < z := fun o ho => by omega
  obtain ⟨t0a, t0h, t0p⟩ := tkWd h hz (j := i) (p := p) (w := 2) (len := 4) hi hc (bA 4 (by decide)) (hA.w 0 (by decide +kernel)) (by decide +kernel) (hA.b 4 rfl) rfl
  obtain ⟨t1a, t1h, t1p⟩ := tkMk h hz (j := i + 1) (p := p + 4) t0h t0p (bA 4 (by decide)) (hA.b 4 rfl) rfl
  obtain ⟨t2a, t2v, t2h, t2p⟩ := tkNm h hz (j := i + 2) (p := p + 5) (x := 1) t1h t1p (bA 6 (by decide)) (hA.b 5 rfl) rfl (hA.b 6 rfl) rfl
  obtain ⟨t3a, t3h, t3p⟩ := tkMk h hz (j := i + 3) (p := p + 6) t2h t2p (bA 6 (by decide)) (hA.b 6 rfl) rfl
  obtain ⟨t4a, t4v, t4h, t4p⟩ := tkNu h hz (j := i + 4) (p := p + 7) t3h t3p hn hD (bC 0 (by decide)) (hC.b 0 rfl) rfl
  obtain ⟨t5a, t5h, t5p⟩ := tkMk h hz (j := i + 5) (p := p + 7 + (dgs n).length) t4h t4p (bC 0 (by decide)) (hC.b 0 rfl) rfl
  obtain ⟨t6a, t6h, t6p⟩ := tkMk h hz (j := i + 6) (p := p + 7 + (dgs n).length + 1) t5h t5p (bC 1 (by decide)) (hC.b 1 rfl) rfl
  obtain ⟨t7a, t7v, t7h, t7p⟩ := tkNm h hz (j := i + 7) (p := p + 7 + (dgs n).length + 2) (x := 0) t6h t6p (bC 3 (by decide)) (hC.b 2 rfl) rfl (hC.b 3 rfl) rfl
  obtain ⟨t8a, t8h, t8p⟩ := tkMk h hz (j := i + 8) (p := p + 7 + (dgs n).length + 3) t7h t7p (bC 3 (by decide)) (hC.b 3 rfl) rfl
  refine ⟨fun j hj => ?_, t8h, t8p⟩
  match j, hj with
  | 0, _ => exact ⟨t0a, fun v hv => by cases hv⟩
  | 1, _ => exact ⟨t1a, fun v hv => by cases hv⟩
  | 2, _ => exact ⟨t2a, fun v hv => by cases hv; exact t2v⟩
  | 3, _ => exact ⟨t3a, fun v hv => by cases hv⟩
  | 4, _ => exact ⟨t4a, fun v hv => by cases hv; exact t4v⟩
  | 5, _ => exact ⟨t5a, fun v hv => by cases hv⟩
  | 6, _ => exact ⟨t6a, fun v hv => by cases hv⟩
  | 7, _ => exact ⟨t7a, fun v hv => by cases hv; exact t7v⟩
  | 8, _ => exact ⟨t8a, fun v hv => by cases hv⟩
  | j + 9, hj => exact absurd hj (Nat.not_lt.mpr (Nat.le_add_left _ _))
set_option maxHeartbeats 8000000 in
theorem tk_7 (h : isToks bt z cnt ps TK TV TP) (hz : z ≤ 500) (hi : i ≤ cnt) (hc : ps i = p) (hA : bsL bt p [104, 61, 99, 101, 108, 108, 91]) (hn : n ≤ 15) (hD : bsL bt (p + 7) (dgs n)) (hC : bsL bt (p + 7 + (dgs n).length) [93, 43, 100, 59]) (hp : p + 7 + (dgs n).length + 4 ≤ z) : (∀ j, j < 9 → TK (i + j) = (([tN 7, tC 61, tC 7, tC 91, tM n, tC 93, tC 43, tN 3, tC 59] : List (Int32 × Option Int32)).getD j (0, none)).1 ∧ ∀ v, (([tN 7, tC 61, tC 7, tC 91, tM n, tC 93, tC 43, tN 3, tC 59] : List (Int32 × Option Int32)).getD j (0, none)).2 = some v → TV (i + j) = v) ∧ i + 9 ≤ cnt ∧ ps (i + 9) = p + 7 + (dgs n).length + 4 := by
  obtain ⟨l1, l2⟩ := dgs_len n
  have bA : ∀ o, o ≤ 7 → p + o < z := fun o ho => by omega
  have bC : ∀ o, o < 4 → p + 7 + (dgs n).length + o < z := fun o ho => by omega
  obtain ⟨t0a, t0v, t0h, t0p⟩ := tkNm h hz (j := i) (p := p) (x := 7) hi hc (bA 1 (by decide)) (hA.b 0 rfl) rfl (hA.b 1 rfl) rfl
  obtain ⟨t1a, t1h, t1p⟩ := tkMk h hz (j := i + 1) (p := p + 1) t0h t0p (bA 1 (by decide)) (hA.b 1 rfl) rfl
  obtain ⟨t2a, t2h, t2p⟩ := tkWd h hz (j := i + 2) (p := p + 2) (w := 2) (len := 4) t1h t1p (bA 6 (by decide)) (hA.w 2 (by decide +kernel)) (by decide +kernel) (hA.b 6 rfl) rfl
  obtain ⟨t3a, t3h, t3p⟩ := tkMk h hz (j := i + 3) (p := p + 6) t2h t2p (bA 6 (by decide)) (hA.b 6 rfl) rfl
  obtain ⟨t4a, t4v, t4h, t4p⟩ := tkNu h hz (j := i + 4) (p := p + 7) t3h t3p hn hD (bC 0 (by decide)) (hC.b 0 rfl) rfl
  obtain ⟨t5a, t5h, t5p⟩ := tkMk h hz (j := i + 5) (p := p + 7 + (dgs n).length) t4h t4p (bC 0 (by decide)) (hC.b 0 rfl) rfl
  obtain ⟨t6a, t6h, t6p⟩ := tkMk h hz (j := i + 6) (p := p + 7 + (dgs n).length + 1) t5h t5p (bC 1 (by decide)) (hC.b 1 rfl) rfl
  obtain ⟨t7a, t7v, t7h, t7p⟩ := tkNm h hz (j := i + 7) (p := p + 7 + (dgs n).length + 2) (x := 3) t6h t6p (bC 3 (by decide)) (hC.b 2 rfl) rfl (hC.b 3 rfl) rfl
  obtain ⟨t8a, t8h, t8p⟩ := tkMk h hz (j := i + 8) (p := p + 7 + (dgs n).length + 3) t7h t7p (bC 3 (by decide)) (hC.b 3 rfl) rfl
  refine ⟨fun j hj => ?_, t8h, t8p⟩
  match j, hj with
  | 0, _ => exact ⟨t0a, fun v hv => by cases hv; exact t0v⟩
  | 1, _ => exact ⟨t1a, fun v hv => by cases hv⟩
  | 2, _ => exact ⟨t2a, fun v hv => by cases hv⟩
  | 3, _ => exact ⟨t3a, fun v hv => by cases hv⟩
  | 4, _ => exact ⟨t4a, fun v hv => by cases hv; exact t4v⟩
  | 5, _ => exact ⟨t5a, fun v hv => by cases hv⟩
  | 6, _ => exact ⟨t6a, fun v hv => by cases hv⟩
  | 7, _ => exact ⟨t7a, fun v hv => by cases hv; exact t7v⟩
  | 8, _ => exact ⟨t8a, fun v hv => by cases hv⟩
  | j + 9, hj => exact absurd hj (Nat.not_lt.mpr (Nat.le_add_left _ _))
end PTK
