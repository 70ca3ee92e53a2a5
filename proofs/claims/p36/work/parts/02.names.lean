/-! PART 02 (by gen02.py): the classes of the world, what object has which shape, which references stay -/
def T_AW : u_T := fun k => match k with
  | 0 => ("AllWays", "sizes", "LAllWays$Sizes;", true)
  | 1 => ("AllWays", "tape", "LAllWays$Tape;", true)
  | 2 => ("AllWays", "machine", "LAllWays$Machine;", true)
  | 3 => ("AllWays", "walked", "LAllWays$Walked;", true)
  | 4 => ("AllWays", "proofs", "LAllWays$Proofs;", true)
  | 5 => ("AllWays", "programs", "[LAllWays$Code;", true)
  | 6 => ("AllWays", "claimed", "LAllWays$Code;", false)
  | 7 => ("AllWays", "spare", "LAllWays$Code;", false)
  | 8 => ("AllWays", "parser", "LAllWays$Parser;", true)
  | 9 => ("AllWays", "faultKind", "I", false)
  | 10 => ("AllWays", "coverRows", "[I", true)
  | 11 => ("AllWays", "coverSize", "I", false)
  | 12 => ("AllWays", "unsafeLetters", "I", false)
  | 13 => ("AllWays", "lawList", "[I", true)
  | 14 => ("AllWays", "lawCount", "I", false)
  | 15 => ("AllWays", "mendedNumber", "I", false)
  | 16 => ("AllWays", "lastRun", "[I", true)
  | _ => ("AllWays", "hasRun", "Z", false)
def ty_AW : Nat → FieldType := fun k => match k with
  | 0 => .object "AllWays$Sizes"
  | 1 => .object "AllWays$Tape"
  | 2 => .object "AllWays$Machine"
  | 3 => .object "AllWays$Walked"
  | 4 => .object "AllWays$Proofs"
  | 5 => .array (.object "AllWays$Code")
  | 6 => .object "AllWays$Code"
  | 7 => .object "AllWays$Code"
  | 8 => .object "AllWays$Parser"
  | 9 => .int
  | 10 => .array .int
  | 11 => .int
  | 12 => .int
  | 13 => .array .int
  | 14 => .int
  | 15 => .int
  | 16 => .array .int
  | _ => .boolean
def T_Sz : u_T := fun k => match k with
  | 0 => ("AllWays$Sizes", "bits", "I", false)
  | 1 => ("AllWays$Sizes", "letters", "I", false)
  | _ => ("AllWays$Sizes", "answers", "I", false)
def ty_Sz : Nat → FieldType := fun k => match k with
  | 0 => .int
  | 1 => .int
  | _ => .int
def T_Tp : u_T := fun k => match k with
  | 0 => ("AllWays$Tape", "bytes", "[I", true)
  | _ => ("AllWays$Tape", "size", "I", false)
def ty_Tp : Nat → FieldType := fun k => match k with
  | 0 => .array .int
  | _ => .int
def T_Mc : u_T := fun k => match k with
  | 0 => ("AllWays$Machine", "sizes", "LAllWays$Sizes;", true)
  | 1 => ("AllWays$Machine", "names", "[I", true)
  | 2 => ("AllWays$Machine", "cells", "[I", true)
  | 3 => ("AllWays$Machine", "stack", "[I", true)
  | 4 => ("AllWays$Machine", "top", "I", false)
  | 5 => ("AllWays$Machine", "returns", "[I", true)
  | 6 => ("AllWays$Machine", "depth", "I", false)
  | 7 => ("AllWays$Machine", "greatest", "I", false)
  | 8 => ("AllWays$Machine", "coming", "I", false)
  | 9 => ("AllWays$Machine", "fixedAnswer", "I", false)
  | 10 => ("AllWays$Machine", "fuel", "I", false)
  | 11 => ("AllWays$Machine", "step", "I", false)
  | 12 => ("AllWays$Machine", "begun", "I", false)
  | 13 => ("AllWays$Machine", "decided", "I", false)
  | 14 => ("AllWays$Machine", "path", "J", false)
  | 15 => ("AllWays$Machine", "ending", "I", false)
  | 16 => ("AllWays$Machine", "endStep", "I", false)
  | 17 => ("AllWays$Machine", "trace", "[J", true)
  | 18 => ("AllWays$Machine", "yes", "[I", true)
  | _ => ("AllWays$Machine", "tracing", "Z", false)
def ty_Mc : Nat → FieldType := fun k => match k with
  | 0 => .object "AllWays$Sizes"
  | 1 => .array .int
  | 2 => .array .int
  | 3 => .array .int
  | 4 => .int
  | 5 => .array .int
  | 6 => .int
  | 7 => .int
  | 8 => .int
  | 9 => .int
  | 10 => .int
  | 11 => .int
  | 12 => .int
  | 13 => .int
  | 14 => .long
  | 15 => .int
  | 16 => .int
  | 17 => .array .long
  | 18 => .array .int
  | _ => .boolean
def T_Wk : u_T := fun k => match k with
  | 0 => ("AllWays$Walked", "done", "Z", false)
  | 1 => ("AllWays$Walked", "rows", "I", false)
  | 2 => ("AllWays$Walked", "whiles", "J", false)
  | 3 => ("AllWays$Walked", "rowKeys", "[J", true)
  | 4 => ("AllWays$Walked", "rowSteps", "[I", true)
  | 5 => ("AllWays$Walked", "rowBegun", "[J", true)
  | 6 => ("AllWays$Walked", "ways", "I", false)
  | 7 => ("AllWays$Walked", "wayKeys", "[J", true)
  | 8 => ("AllWays$Walked", "wayRows", "[I", true)
  | 9 => ("AllWays$Walked", "wayLeast", "[I", true)
  | 10 => ("AllWays$Walked", "anyKept", "Z", false)
  | 11 => ("AllWays$Walked", "begun", "J", false)
  | 12 => ("AllWays$Walked", "numbers", "[J", true)
  | 13 => ("AllWays$Walked", "relations", "[I", true)
  | 14 => ("AllWays$Walked", "leastRounds", "[I", true)
  | 15 => ("AllWays$Walked", "mostRounds", "[I", true)
  | _ => ("AllWays$Walked", "candidates", "[I", true)
def ty_Wk : Nat → FieldType := fun k => match k with
  | 0 => .boolean
  | 1 => .int
  | 2 => .long
  | 3 => .array .long
  | 4 => .array .int
  | 5 => .array .long
  | 6 => .int
  | 7 => .array .long
  | 8 => .array .int
  | 9 => .array .int
  | 10 => .boolean
  | 11 => .long
  | 12 => .array .long
  | 13 => .array .int
  | 14 => .array .int
  | 15 => .array .int
  | _ => .array .int
def T_Pf : u_T := fun k => match k with
  | 0 => ("AllWays$Proofs", "sizes", "LAllWays$Sizes;", true)
  | 1 => ("AllWays$Proofs", "machine", "LAllWays$Machine;", true)
  | 2 => ("AllWays$Proofs", "failing", "[I", true)
  | 3 => ("AllWays$Proofs", "leaves", "[I", true)
  | 4 => ("AllWays$Proofs", "first", "[I", true)
  | 5 => ("AllWays$Proofs", "pending", "[I", true)
  | 6 => ("AllWays$Proofs", "waiting", "I", false)
  | 7 => ("AllWays$Proofs", "bytes", "[I", true)
  | _ => ("AllWays$Proofs", "length", "I", false)
def ty_Pf : Nat → FieldType := fun k => match k with
  | 0 => .object "AllWays$Sizes"
  | 1 => .object "AllWays$Machine"
  | 2 => .array .int
  | 3 => .array .int
  | 4 => .array .int
  | 5 => .array .int
  | 6 => .int
  | 7 => .array .int
  | _ => .int
def T_Cd : u_T := fun k => match k with
  | 0 => ("AllWays$Code", "ops", "[I", true)
  | 1 => ("AllWays$Code", "args", "[I", true)
  | 2 => ("AllWays$Code", "numberAt", "[I", true)
  | 3 => ("AllWays$Code", "testAt", "[I", true)
  | 4 => ("AllWays$Code", "length", "I", false)
  | 5 => ("AllWays$Code", "start", "I", false)
  | 6 => ("AllWays$Code", "steps", "I", false)
  | 7 => ("AllWays$Code", "units", "I", false)
  | 8 => ("AllWays$Code", "numbers", "I", false)
  | 9 => ("AllWays$Code", "tests", "I", false)
  | _ => ("AllWays$Code", "whiles", "J", false)
def ty_Cd : Nat → FieldType := fun k => match k with
  | 0 => .array .int
  | 1 => .array .int
  | 2 => .array .int
  | 3 => .array .int
  | 4 => .int
  | 5 => .int
  | 6 => .int
  | 7 => .int
  | 8 => .int
  | 9 => .int
  | _ => .long
def T_Ps : u_T := fun k => match k with
  | 0 => ("AllWays$Parser", "tokens", "LAllWays$Tokens;", true)
  | 1 => ("AllWays$Parser", "procStarts", "[I", true)
  | 2 => ("AllWays$Parser", "code", "LAllWays$Code;", false)
  | 3 => ("AllWays$Parser", "faultKind", "I", false)
  | _ => ("AllWays$Parser", "faultPlace", "I", false)
def ty_Ps : Nat → FieldType := fun k => match k with
  | 0 => .object "AllWays$Tokens"
  | 1 => .array .int
  | 2 => .object "AllWays$Code"
  | 3 => .int
  | _ => .int
def T_Tk : u_T := fun k => match k with
  | 0 => ("AllWays$Tokens", "tape", "LAllWays$Tape;", true)
  | 1 => ("AllWays$Tokens", "kinds", "[I", true)
  | 2 => ("AllWays$Tokens", "places", "[I", true)
  | 3 => ("AllWays$Tokens", "values", "[I", true)
  | 4 => ("AllWays$Tokens", "next", "I", false)
  | 5 => ("AllWays$Tokens", "at", "I", false)
  | 6 => ("AllWays$Tokens", "kind", "I", false)
  | 7 => ("AllWays$Tokens", "place", "I", false)
  | _ => ("AllWays$Tokens", "value", "I", false)
def ty_Tk : Nat → FieldType := fun k => match k with
  | 0 => .object "AllWays$Tape"
  | 1 => .array .int
  | 2 => .array .int
  | 3 => .array .int
  | 4 => .int
  | 5 => .int
  | 6 => .int
  | 7 => .int
  | _ => .int
def aw_cl : List vw_C := [("AllWays", T_AW, 18), ("AllWays$Sizes", T_Sz, 3), ("AllWays$Tape", T_Tp, 2), ("AllWays$Machine", T_Mc, 20), ("AllWays$Walked", T_Wk, 17), ("AllWays$Proofs", T_Pf, 9), ("AllWays$Code", T_Cd, 11), ("AllWays$Parser", T_Ps, 5), ("AllWays$Tokens", T_Tk, 9)]
def aw_nfl : List Nat := [18, 3, 2, 20, 17, 9, 11, 5, 9]
def aw_nf (c : Nat) : Nat := aw_nfl.getD c 0
def aw_ty (c : Nat) : Nat → FieldType := match c with
  | 0 => ty_AW
  | 1 => ty_Sz
  | 2 => ty_Tp
  | 3 => ty_Mc
  | 4 => ty_Wk
  | 5 => ty_Pf
  | 6 => ty_Cd
  | 7 => ty_Ps
  | _ => ty_Tk
/-- kind (a class of the world; 20 ints, 21 longs, 22 booleans, 23 Codes) and size of each object, in the order in which they are made -/
def aw_shl : List (Nat × Nat) := [(0, 18), (1, 3), (2, 2), (20, 540), (3, 20), (20, 8), (20, 8), (20, 64), (20, 4), (21, 1001), (20, 60), (4, 17), (21, 4096), (20, 4096), (21, 4096), (21, 4096), (20, 4096), (20, 4096), (21, 480), (20, 3840), (20, 60), (20, 60), (20, 4096), (5, 9), (20, 6561), (20, 6561), (20, 6561), (20, 16), (20, 511), (23, 4), (6, 11), (20, 600), (20, 600), (20, 20), (20, 20), (6, 11), (20, 600), (20, 600), (20, 20), (20, 20), (6, 11), (20, 600), (20, 600), (20, 20), (20, 20), (6, 11), (20, 600), (20, 600), (20, 20), (20, 20), (6, 11), (20, 600), (20, 600), (20, 20), (20, 20), (6, 11), (20, 600), (20, 600), (20, 20), (20, 20), (7, 5), (20, 4), (8, 9), (20, 501), (20, 501), (20, 501), (20, 2), (20, 28), (20, 17), (20, 64), (20, 5), (20, 5), (20, 24), (20, 24)]
def aw_sh (o : Nat) : Nat × Nat := aw_shl.getD o (99, 0)
def aw_K : Nat := 74
/-- the references that stay -/
def aw_rl : List (List (Option Nat)) := [[some 1, some 2, some 4, some 11, some 23, some 29, none, none, some 60, none, some 66, none, none, some 67, none, none, some 68], [], [some 3], [], [some 1, some 5, some 6, some 7, none, some 8, none, none, none, none, none, none, none, none, none, none, none, some 9, some 10], [], [], [], [], [], [], [none, none, none, some 12, some 13, some 14, none, some 15, some 16, some 17, none, none, some 18, some 19, some 20, some 21, some 22], [], [], [], [], [], [], [], [], [], [], [], [some 1, some 4, some 24, some 25, some 26, some 27, none, some 28], [], [], [], [], [], [], [some 31, some 32, some 33, some 34], [], [], [], [], [some 36, some 37, some 38, some 39], [], [], [], [], [some 41, some 42, some 43, some 44], [], [], [], [], [some 46, some 47, some 48, some 49], [], [], [], [], [some 51, some 52, some 53, some 54], [], [], [], [], [some 56, some 57, some 58, some 59], [], [], [], [], [some 62, some 61], [], [some 2, some 63, some 64, some 65], [], [], [], [], [], [], [], [], [], [], []]
def aw_rs (o k : Nat) : Option Nat := (aw_rl.getD o []).getD k none
/-- the references: all stay but those to Codes: programs 0 to 3, claimed (4), spare (5), the parser's (6) -/
def aw_R (D : Nat → Nat) : Nat → Nat → Option Nat := fun o k => if o = 0 then (if k = 6 then some (D 4) else if k = 7 then some (D 5) else aw_rs 0 k) else if o = 29 then (if k < 4 then some (D k) else none) else if o = 60 then (if k = 2 then some (D 6) else aw_rs 60 k) else aw_rs o k
def aw_codes : List Nat := [30, 35, 40, 45, 50, 55]
theorem n_AW : ∀ a, a < 18 → ∀ b, b < 18 → a ≠ b → (T_AW a).2.1 ≠ (T_AW b).2.1 := by decide +kernel
theorem ty_AW_ok : ∀ k, k < 18 → parseFieldDescriptor (T_AW k).2.2.1 = some (ty_AW k) := by decide +kernel
theorem i_AW : ∀ w ∈ u_ws "AllWays" T_AW 18, w ∈ lw_tbl := by
  have h : u_ws "AllWays" T_AW 18 = ([411, 413, 415, 417, 419, 421, 423, 425, 427, 429, 431, 433, 435, 437, 439, 441, 443, 445] : List Nat).filterMap (fun i => lw_tbl[i]?) := by decide +kernel
  intro w hw
  rw [h] at hw
  obtain ⟨i, -, hi⟩ := List.mem_filterMap.mp hw
  exact List.mem_of_getElem? hi
theorem n_Sz : ∀ a, a < 3 → ∀ b, b < 3 → a ≠ b → (T_Sz a).2.1 ≠ (T_Sz b).2.1 := by decide +kernel
theorem ty_Sz_ok : ∀ k, k < 3 → parseFieldDescriptor (T_Sz k).2.2.1 = some (ty_Sz k) := by decide +kernel
theorem i_Sz : ∀ w ∈ u_ws "AllWays$Sizes" T_Sz 3, w ∈ lw_tbl := by
  have h : u_ws "AllWays$Sizes" T_Sz 3 = ([92, 94, 96] : List Nat).filterMap (fun i => lw_tbl[i]?) := by decide +kernel
  intro w hw
  rw [h] at hw
  obtain ⟨i, -, hi⟩ := List.mem_filterMap.mp hw
  exact List.mem_of_getElem? hi
theorem n_Tp : ∀ a, a < 2 → ∀ b, b < 2 → a ≠ b → (T_Tp a).2.1 ≠ (T_Tp b).2.1 := by decide +kernel
theorem ty_Tp_ok : ∀ k, k < 2 → parseFieldDescriptor (T_Tp k).2.2.1 = some (ty_Tp k) := by decide +kernel
theorem i_Tp : ∀ w ∈ u_ws "AllWays$Tape" T_Tp 2, w ∈ lw_tbl := by
  have h : u_ws "AllWays$Tape" T_Tp 2 = ([109, 111] : List Nat).filterMap (fun i => lw_tbl[i]?) := by decide +kernel
  intro w hw
  rw [h] at hw
  obtain ⟨i, -, hi⟩ := List.mem_filterMap.mp hw
  exact List.mem_of_getElem? hi
theorem n_Mc : ∀ a, a < 20 → ∀ b, b < 20 → a ≠ b → (T_Mc a).2.1 ≠ (T_Mc b).2.1 := by decide +kernel
theorem ty_Mc_ok : ∀ k, k < 20 → parseFieldDescriptor (T_Mc k).2.2.1 = some (ty_Mc k) := by decide +kernel
theorem i_Mc : ∀ w ∈ u_ws "AllWays$Machine" T_Mc 20, w ∈ lw_tbl := by
  have h : u_ws "AllWays$Machine" T_Mc 20 = ([152, 154, 156, 158, 160, 162, 164, 166, 168, 170, 172, 174, 176, 178, 180, 182, 184, 186, 188, 190] : List Nat).filterMap (fun i => lw_tbl[i]?) := by decide +kernel
  intro w hw
  rw [h] at hw
  obtain ⟨i, -, hi⟩ := List.mem_filterMap.mp hw
  exact List.mem_of_getElem? hi
theorem n_Wk : ∀ a, a < 17 → ∀ b, b < 17 → a ≠ b → (T_Wk a).2.1 ≠ (T_Wk b).2.1 := by decide +kernel
theorem ty_Wk_ok : ∀ k, k < 17 → parseFieldDescriptor (T_Wk k).2.2.1 = some (ty_Wk k) := by decide +kernel
theorem i_Wk : ∀ w ∈ u_ws "AllWays$Walked" T_Wk 17, w ∈ lw_tbl := by
  have h : u_ws "AllWays$Walked" T_Wk 17 = ([218, 220, 222, 224, 226, 228, 230, 232, 234, 236, 238, 240, 242, 244, 246, 248, 250] : List Nat).filterMap (fun i => lw_tbl[i]?) := by decide +kernel
  intro w hw
  rw [h] at hw
  obtain ⟨i, -, hi⟩ := List.mem_filterMap.mp hw
  exact List.mem_of_getElem? hi
theorem n_Pf : ∀ a, a < 9 → ∀ b, b < 9 → a ≠ b → (T_Pf a).2.1 ≠ (T_Pf b).2.1 := by decide +kernel
theorem ty_Pf_ok : ∀ k, k < 9 → parseFieldDescriptor (T_Pf k).2.2.1 = some (ty_Pf k) := by decide +kernel
theorem i_Pf : ∀ w ∈ u_ws "AllWays$Proofs" T_Pf 9, w ∈ lw_tbl := by
  have h : u_ws "AllWays$Proofs" T_Pf 9 = ([266, 268, 270, 272, 274, 276, 278, 280, 282] : List Nat).filterMap (fun i => lw_tbl[i]?) := by decide +kernel
  intro w hw
  rw [h] at hw
  obtain ⟨i, -, hi⟩ := List.mem_filterMap.mp hw
  exact List.mem_of_getElem? hi
theorem n_Cd : ∀ a, a < 11 → ∀ b, b < 11 → a ≠ b → (T_Cd a).2.1 ≠ (T_Cd b).2.1 := by decide +kernel
theorem ty_Cd_ok : ∀ k, k < 11 → parseFieldDescriptor (T_Cd k).2.2.1 = some (ty_Cd k) := by decide +kernel
theorem i_Cd : ∀ w ∈ u_ws "AllWays$Code" T_Cd 11, w ∈ lw_tbl := by
  have h : u_ws "AllWays$Code" T_Cd 11 = ([311, 313, 315, 317, 319, 321, 323, 325, 327, 329, 331] : List Nat).filterMap (fun i => lw_tbl[i]?) := by decide +kernel
  intro w hw
  rw [h] at hw
  obtain ⟨i, -, hi⟩ := List.mem_filterMap.mp hw
  exact List.mem_of_getElem? hi
theorem n_Ps : ∀ a, a < 5 → ∀ b, b < 5 → a ≠ b → (T_Ps a).2.1 ≠ (T_Ps b).2.1 := by decide +kernel
theorem ty_Ps_ok : ∀ k, k < 5 → parseFieldDescriptor (T_Ps k).2.2.1 = some (ty_Ps k) := by decide +kernel
theorem i_Ps : ∀ w ∈ u_ws "AllWays$Parser" T_Ps 5, w ∈ lw_tbl := by
  have h : u_ws "AllWays$Parser" T_Ps 5 = ([384, 386, 388, 390, 392] : List Nat).filterMap (fun i => lw_tbl[i]?) := by decide +kernel
  intro w hw
  rw [h] at hw
  obtain ⟨i, -, hi⟩ := List.mem_filterMap.mp hw
  exact List.mem_of_getElem? hi
theorem n_Tk : ∀ a, a < 9 → ∀ b, b < 9 → a ≠ b → (T_Tk a).2.1 ≠ (T_Tk b).2.1 := by decide +kernel
theorem ty_Tk_ok : ∀ k, k < 9 → parseFieldDescriptor (T_Tk k).2.2.1 = some (ty_Tk k) := by decide +kernel
theorem i_Tk : ∀ w ∈ u_ws "AllWays$Tokens" T_Tk 9, w ∈ lw_tbl := by
  have h : u_ws "AllWays$Tokens" T_Tk 9 = ([358, 360, 362, 364, 366, 368, 370, 372, 374] : List Nat).filterMap (fun i => lw_tbl[i]?) := by decide +kernel
  intro w hw
  rw [h] at hw
  obtain ⟨i, -, hi⟩ := List.mem_filterMap.mp hw
  exact List.mem_of_getElem? hi
