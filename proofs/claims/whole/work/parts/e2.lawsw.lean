/-! PART e2 (by gen_law.py): the switch of the law -/
theorem law_sw {X : aw_X} {Q : Option Value → aw_H → Prop} {A : aw_H} {i kc ks : Nat} {v : Int32}
    (h0 : aw_Z X 2048 601024 7293034 y_Law_law Q kc ks 188 (lwL i) [] A)
    (h1 : aw_Z X 2048 601024 7293034 y_Law_law Q kc ks 261 (lwL i) [] A)
    (h2 : aw_Z X 2048 601024 7293034 y_Law_law Q kc ks 286 (lwL i) [] A)
    (h3 : aw_Z X 2048 601024 7293034 y_Law_law Q kc ks 311 (lwL i) [] A)
    (h4 : aw_Z X 2048 601024 7293034 y_Law_law Q kc ks 324 (lwL i) [] A)
    (h5 : aw_Z X 2048 601024 7293034 y_Law_law Q kc ks 373 (lwL i) [] A)
    (h6 : aw_Z X 2048 601024 7293034 y_Law_law Q kc ks 410 (lwL i) [] A)
    (h7 : aw_Z X 2048 601024 7293034 y_Law_law Q kc ks 478 (lwL i) [] A)
    (h8 : aw_Z X 2048 601024 7293034 y_Law_law Q kc ks 515 (lwL i) [] A)
    (h9 : aw_Z X 2048 601024 7293034 y_Law_law Q kc ks 540 (lwL i) [] A)
    (h10 : aw_Z X 2048 601024 7293034 y_Law_law Q kc ks 577 (lwL i) [] A)
    (h11 : aw_Z X 2048 601024 7293034 y_Law_law Q kc ks 626 (lwL i) [] A)
    (h12 : aw_Z X 2048 601024 7293034 y_Law_law Q kc ks 687 (lwL i) [] A)
    (h13 : aw_Z X 2048 601024 7293034 y_Law_law Q kc ks 700 (lwL i) [] A)
    (h14 : aw_Z X 2048 601024 7293034 y_Law_law Q kc ks 725 (lwL i) [] A)
    (h15 : aw_Z X 2048 601024 7293034 y_Law_law Q kc ks 774 (lwL i) [] A)
    (h16 : aw_Z X 2048 601024 7293034 y_Law_law Q kc ks 811 (lwL i) [] A)
    (h17 : aw_Z X 2048 601024 7293034 y_Law_law Q kc ks 824 (lwL i) [] A)
    (h18 : aw_Z X 2048 601024 7293034 y_Law_law Q kc ks 861 (lwL i) [] A)
    (h19 : aw_Z X 2048 601024 7293034 y_Law_law Q kc ks 898 (lwL i) [] A)
    (h20 : aw_Z X 2048 601024 7293034 y_Law_law Q kc ks 923 (lwL i) [] A)
    (h21 : aw_Z X 2048 601024 7293034 y_Law_law Q kc ks 948 (lwL i) [] A)
    (h22 : aw_Z X 2048 601024 7293034 y_Law_law Q kc ks 997 (lwL i) [] A)
    (h23 : aw_Z X 2048 601024 7293034 y_Law_law Q kc ks 1046 (lwL i) [] A)
    (h24 : aw_Z X 2048 601024 7293034 y_Law_law Q kc ks 1083 (lwL i) [] A)
    (h25 : aw_Z X 2048 601024 7293034 y_Law_law Q kc ks 1096 (lwL i) [] A)
    (h26 : aw_Z X 2048 601024 7293034 y_Law_law Q kc ks 1109 (lwL i) [] A)
    (h27 : aw_Z X 2048 601024 7293034 y_Law_law Q kc ks 1122 (lwL i) [] A)
    (h28 : aw_Z X 2048 601024 7293034 y_Law_law Q kc ks 1135 (lwL i) [] A)
    (h29 : aw_Z X 2048 601024 7293034 y_Law_law Q kc ks 1160 (lwL i) [] A)
    (h30 : aw_Z X 2048 601024 7293034 y_Law_law Q kc ks 1173 (lwL i) [] A)
    (h31 : aw_Z X 2048 601024 7293034 y_Law_law Q kc ks 1222 (lwL i) [] A)
    (h32 : aw_Z X 2048 601024 7293034 y_Law_law Q kc ks 1247 (lwL i) [] A)
    (hd : aw_Z X 2048 601024 7293034 y_Law_law Q kc ks 1272 (lwL i) [] A) : aw_Z X 2048 601024 7293034 y_Law_law Q kc ks 40 (lwL i) [.int v] A := by
  by_cases q0 : v = (0 : Int32)
  · exact z_tableIn (off := 148) (tgt := 188) d_Law_law_40 (by rw [q0]; decide +kernel) (by rw [q0]; decide +kernel) (by rw [q0]; decide +kernel) rfl h0
  by_cases q1 : v = (1 : Int32)
  · exact z_tableIn (off := 221) (tgt := 261) d_Law_law_40 (by rw [q1]; decide +kernel) (by rw [q1]; decide +kernel) (by rw [q1]; decide +kernel) rfl h1
  by_cases q2 : v = (2 : Int32)
  · exact z_tableIn (off := 246) (tgt := 286) d_Law_law_40 (by rw [q2]; decide +kernel) (by rw [q2]; decide +kernel) (by rw [q2]; decide +kernel) rfl h2
  by_cases q3 : v = (3 : Int32)
  · exact z_tableIn (off := 271) (tgt := 311) d_Law_law_40 (by rw [q3]; decide +kernel) (by rw [q3]; decide +kernel) (by rw [q3]; decide +kernel) rfl h3
  by_cases q4 : v = (4 : Int32)
  · exact z_tableIn (off := 284) (tgt := 324) d_Law_law_40 (by rw [q4]; decide +kernel) (by rw [q4]; decide +kernel) (by rw [q4]; decide +kernel) rfl h4
  by_cases q5 : v = (5 : Int32)
  · exact z_tableIn (off := 333) (tgt := 373) d_Law_law_40 (by rw [q5]; decide +kernel) (by rw [q5]; decide +kernel) (by rw [q5]; decide +kernel) rfl h5
  by_cases q6 : v = (6 : Int32)
  · exact z_tableIn (off := 370) (tgt := 410) d_Law_law_40 (by rw [q6]; decide +kernel) (by rw [q6]; decide +kernel) (by rw [q6]; decide +kernel) rfl h6
  by_cases q7 : v = (7 : Int32)
  · exact z_tableIn (off := 438) (tgt := 478) d_Law_law_40 (by rw [q7]; decide +kernel) (by rw [q7]; decide +kernel) (by rw [q7]; decide +kernel) rfl h7
  by_cases q8 : v = (8 : Int32)
  · exact z_tableIn (off := 475) (tgt := 515) d_Law_law_40 (by rw [q8]; decide +kernel) (by rw [q8]; decide +kernel) (by rw [q8]; decide +kernel) rfl h8
  by_cases q9 : v = (9 : Int32)
  · exact z_tableIn (off := 500) (tgt := 540) d_Law_law_40 (by rw [q9]; decide +kernel) (by rw [q9]; decide +kernel) (by rw [q9]; decide +kernel) rfl h9
  by_cases q10 : v = (10 : Int32)
  · exact z_tableIn (off := 537) (tgt := 577) d_Law_law_40 (by rw [q10]; decide +kernel) (by rw [q10]; decide +kernel) (by rw [q10]; decide +kernel) rfl h10
  by_cases q11 : v = (11 : Int32)
  · exact z_tableIn (off := 586) (tgt := 626) d_Law_law_40 (by rw [q11]; decide +kernel) (by rw [q11]; decide +kernel) (by rw [q11]; decide +kernel) rfl h11
  by_cases q12 : v = (12 : Int32)
  · exact z_tableIn (off := 647) (tgt := 687) d_Law_law_40 (by rw [q12]; decide +kernel) (by rw [q12]; decide +kernel) (by rw [q12]; decide +kernel) rfl h12
  by_cases q13 : v = (13 : Int32)
  · exact z_tableIn (off := 660) (tgt := 700) d_Law_law_40 (by rw [q13]; decide +kernel) (by rw [q13]; decide +kernel) (by rw [q13]; decide +kernel) rfl h13
  by_cases q14 : v = (14 : Int32)
  · exact z_tableIn (off := 685) (tgt := 725) d_Law_law_40 (by rw [q14]; decide +kernel) (by rw [q14]; decide +kernel) (by rw [q14]; decide +kernel) rfl h14
  by_cases q15 : v = (15 : Int32)
  · exact z_tableIn (off := 734) (tgt := 774) d_Law_law_40 (by rw [q15]; decide +kernel) (by rw [q15]; decide +kernel) (by rw [q15]; decide +kernel) rfl h15
  by_cases q16 : v = (16 : Int32)
  · exact z_tableIn (off := 771) (tgt := 811) d_Law_law_40 (by rw [q16]; decide +kernel) (by rw [q16]; decide +kernel) (by rw [q16]; decide +kernel) rfl h16
  by_cases q17 : v = (17 : Int32)
  · exact z_tableIn (off := 784) (tgt := 824) d_Law_law_40 (by rw [q17]; decide +kernel) (by rw [q17]; decide +kernel) (by rw [q17]; decide +kernel) rfl h17
  by_cases q18 : v = (18 : Int32)
  · exact z_tableIn (off := 821) (tgt := 861) d_Law_law_40 (by rw [q18]; decide +kernel) (by rw [q18]; decide +kernel) (by rw [q18]; decide +kernel) rfl h18
  by_cases q19 : v = (19 : Int32)
  · exact z_tableIn (off := 858) (tgt := 898) d_Law_law_40 (by rw [q19]; decide +kernel) (by rw [q19]; decide +kernel) (by rw [q19]; decide +kernel) rfl h19
  by_cases q20 : v = (20 : Int32)
  · exact z_tableIn (off := 883) (tgt := 923) d_Law_law_40 (by rw [q20]; decide +kernel) (by rw [q20]; decide +kernel) (by rw [q20]; decide +kernel) rfl h20
  by_cases q21 : v = (21 : Int32)
  · exact z_tableIn (off := 908) (tgt := 948) d_Law_law_40 (by rw [q21]; decide +kernel) (by rw [q21]; decide +kernel) (by rw [q21]; decide +kernel) rfl h21
  by_cases q22 : v = (22 : Int32)
  · exact z_tableIn (off := 957) (tgt := 997) d_Law_law_40 (by rw [q22]; decide +kernel) (by rw [q22]; decide +kernel) (by rw [q22]; decide +kernel) rfl h22
  by_cases q23 : v = (23 : Int32)
  · exact z_tableIn (off := 1006) (tgt := 1046) d_Law_law_40 (by rw [q23]; decide +kernel) (by rw [q23]; decide +kernel) (by rw [q23]; decide +kernel) rfl h23
  by_cases q24 : v = (24 : Int32)
  · exact z_tableIn (off := 1043) (tgt := 1083) d_Law_law_40 (by rw [q24]; decide +kernel) (by rw [q24]; decide +kernel) (by rw [q24]; decide +kernel) rfl h24
  by_cases q25 : v = (25 : Int32)
  · exact z_tableIn (off := 1056) (tgt := 1096) d_Law_law_40 (by rw [q25]; decide +kernel) (by rw [q25]; decide +kernel) (by rw [q25]; decide +kernel) rfl h25
  by_cases q26 : v = (26 : Int32)
  · exact z_tableIn (off := 1069) (tgt := 1109) d_Law_law_40 (by rw [q26]; decide +kernel) (by rw [q26]; decide +kernel) (by rw [q26]; decide +kernel) rfl h26
  by_cases q27 : v = (27 : Int32)
  · exact z_tableIn (off := 1082) (tgt := 1122) d_Law_law_40 (by rw [q27]; decide +kernel) (by rw [q27]; decide +kernel) (by rw [q27]; decide +kernel) rfl h27
  by_cases q28 : v = (28 : Int32)
  · exact z_tableIn (off := 1095) (tgt := 1135) d_Law_law_40 (by rw [q28]; decide +kernel) (by rw [q28]; decide +kernel) (by rw [q28]; decide +kernel) rfl h28
  by_cases q29 : v = (29 : Int32)
  · exact z_tableIn (off := 1120) (tgt := 1160) d_Law_law_40 (by rw [q29]; decide +kernel) (by rw [q29]; decide +kernel) (by rw [q29]; decide +kernel) rfl h29
  by_cases q30 : v = (30 : Int32)
  · exact z_tableIn (off := 1133) (tgt := 1173) d_Law_law_40 (by rw [q30]; decide +kernel) (by rw [q30]; decide +kernel) (by rw [q30]; decide +kernel) rfl h30
  by_cases q31 : v = (31 : Int32)
  · exact z_tableIn (off := 1182) (tgt := 1222) d_Law_law_40 (by rw [q31]; decide +kernel) (by rw [q31]; decide +kernel) (by rw [q31]; decide +kernel) rfl h31
  by_cases q32 : v = (32 : Int32)
  · exact z_tableIn (off := 1207) (tgt := 1247) d_Law_law_40 (by rw [q32]; decide +kernel) (by rw [q32]; decide +kernel) (by rw [q32]; decide +kernel) rfl h32
  exact z_tableOut (tgt := 1272) d_Law_law_40 (by have := aw_swout q0 (a := 0) rfl; have := aw_swout q1 (a := 1) rfl; have := aw_swout q2 (a := 2) rfl; have := aw_swout q3 (a := 3) rfl; have := aw_swout q4 (a := 4) rfl; have := aw_swout q5 (a := 5) rfl; have := aw_swout q6 (a := 6) rfl; have := aw_swout q7 (a := 7) rfl; have := aw_swout q8 (a := 8) rfl; have := aw_swout q9 (a := 9) rfl; have := aw_swout q10 (a := 10) rfl; have := aw_swout q11 (a := 11) rfl; have := aw_swout q12 (a := 12) rfl; have := aw_swout q13 (a := 13) rfl; have := aw_swout q14 (a := 14) rfl; have := aw_swout q15 (a := 15) rfl; have := aw_swout q16 (a := 16) rfl; have := aw_swout q17 (a := 17) rfl; have := aw_swout q18 (a := 18) rfl; have := aw_swout q19 (a := 19) rfl; have := aw_swout q20 (a := 20) rfl; have := aw_swout q21 (a := 21) rfl; have := aw_swout q22 (a := 22) rfl; have := aw_swout q23 (a := 23) rfl; have := aw_swout q24 (a := 24) rfl; have := aw_swout q25 (a := 25) rfl; have := aw_swout q26 (a := 26) rfl; have := aw_swout q27 (a := 27) rfl; have := aw_swout q28 (a := 28) rfl; have := aw_swout q29 (a := 29) rfl; have := aw_swout q30 (a := 30) rfl; have := aw_swout q31 (a := 31) rfl; have := aw_swout q32 (a := 32) rfl; omega) rfl hd
