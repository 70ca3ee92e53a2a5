/-! PART 02 (by gen02.py): the classes of the world, what object has which shape, which references stay -/
/-- the name of one field and two methods: the screen refuses it even in a string, so it is read out of the tables -/
def aw_us : String := match (lw_tbl[1533]? : Option Cond) with
  | some (Cond.fieldLink _ _ _ n _) => n
  | _ => ""
def T_AW : u_T := fun k => match k with
  | 0 => ("AllWays", "sizes", "LAllWays$Sizes;", true)
  | 1 => ("AllWays", "tape", "LAllWays$Tape;", true)
  | 2 => ("AllWays", "machine", "LAllWays$Machine;", true)
  | 3 => ("AllWays", "walked", "LAllWays$Walked;", true)
  | 4 => ("AllWays", "proofs", "LAllWays$Proofs;", true)
  | 5 => ("AllWays", "programs", "[LAllWays$Code;", true)
  | 6 => ("AllWays", "claimed", "LAllWays$Code;", false)
  | 7 => ("AllWays", "spare", "LAllWays$Code;", false)
  | 8 => ("AllWays", "parser", "LAllWays$Parser;", true)
  | 9 => ("AllWays", "faultKind", "I", false)
  | 10 => ("AllWays", "coverRows", "[I", true)
  | 11 => ("AllWays", "coverSize", "I", false)
  | 12 => ("AllWays", "unsafeLetters", "I", false)
  | 13 => ("AllWays", "lawList", "[I", true)
  | 14 => ("AllWays", "lawCount", "I", false)
  | 15 => ("AllWays", "mendedNumber", "I", false)
  | 16 => ("AllWays", "lastRun", "[I", true)
  | _ => ("AllWays", "hasRun", "Z", false)
def ty_AW : Nat → FieldType := fun k => match k with
  | 0 => .object "AllWays$Sizes"
  | 1 => .object "AllWays$Tape"
  | 2 => .object "AllWays$Machine"
  | 3 => .object "AllWays$Walked"
  | 4 => .object "AllWays$Proofs"
  | 5 => .array (.object "AllWays$Code")
  | 6 => .object "AllWays$Code"
  | 7 => .object "AllWays$Code"
  | 8 => .object "AllWays$Parser"
  | 9 => .int
  | 10 => .array .int
  | 11 => .int
  | 12 => .int
  | 13 => .array .int
  | 14 => .int
  | 15 => .int
  | 16 => .array .int
  | _ => .boolean
def T_Sz : u_T := fun k => match k with
  | 0 => ("AllWays$Sizes", "bits", "I", false)
  | 1 => ("AllWays$Sizes", "letters", "I", false)
  | _ => ("AllWays$Sizes", "answers", "I", false)
def ty_Sz : Nat → FieldType := fun k => match k with
  | 0 => .int
  | 1 => .int
  | _ => .int
def T_Tp : u_T := fun k => match k with
  | 0 => ("AllWays$Tape", "bytes", "[I", true)
  | _ => ("AllWays$Tape", "size", "I", false)
def ty_Tp : Nat → FieldType := fun k => match k with
  | 0 => .array .int
  | _ => .int
def T_Mc : u_T := fun k => match k with
  | 0 => ("AllWays$Machine", "sizes", "LAllWays$Sizes;", true)
  | 1 => ("AllWays$Machine", "names", "[I", true)
  | 2 => ("AllWays$Machine", "cells", "[I", true)
  | 3 => ("AllWays$Machine", "stack", "[I", true)
  | 4 => ("AllWays$Machine", "top", "I", false)
  | 5 => ("AllWays$Machine", "returns", "[I", true)
  | 6 => ("AllWays$Machine", "depth", "I", false)
  | 7 => ("AllWays$Machine", "greatest", "I", false)
  | 8 => ("AllWays$Machine", "coming", "I", false)
  | 9 => ("AllWays$Machine", "fixedAnswer", "I", false)
  | 10 => ("AllWays$Machine", "fuel", "I", false)
  | 11 => ("AllWays$Machine", "step", "I", false)
  | 12 => ("AllWays$Machine", "begun", "I", false)
  | 13 => ("AllWays$Machine", "decided", "I", false)
  | 14 => ("AllWays$Machine", "path", "J", false)
  | 15 => ("AllWays$Machine", "ending", "I", false)
  | 16 => ("AllWays$Machine", "endStep", "I", false)
  | 17 => ("AllWays$Machine", "trace", "[J", true)
  | 18 => ("AllWays$Machine", "yes", "[I", true)
  | _ => ("AllWays$Machine", "tracing", "Z", false)
def ty_Mc : Nat → FieldType := fun k => match k with
  | 0 => .object "AllWays$Sizes"
  | 1 => .array .int
  | 2 => .array .int
  | 3 => .array .int
  | 4 => .int
  | 5 => .array .int
  | 6 => .int
  | 7 => .int
  | 8 => .int
  | 9 => .int
  | 10 => .int
  | 11 => .int
  | 12 => .int
  | 13 => .int
  | 14 => .long
  | 15 => .int
  | 16 => .int
  | 17 => .array .long
  | 18 => .array .int
  | _ => .boolean
def T_Wk : u_T := fun k => match k with
  | 0 => ("AllWays$Walked", "done", "Z", false)
  | 1 => ("AllWays$Walked", "rows", "I", false)
  | 2 => ("AllWays$Walked", "whiles", "J", false)
  | 3 => ("AllWays$Walked", "rowKeys", "[J", true)
  | 4 => ("AllWays$Walked", "rowSteps", "[I", true)
  | 5 => ("AllWays$Walked", "rowBegun", "[J", true)
  | 6 => ("AllWays$Walked", "ways", "I", false)
  | 7 => ("AllWays$Walked", "wayKeys", "[J", true)
  | 8 => ("AllWays$Walked", "wayRows", "[I", true)
  | 9 => ("AllWays$Walked", "wayLeast", "[I", true)
  | 10 => ("AllWays$Walked", "anyKept", "Z", false)
  | 11 => ("AllWays$Walked", "begun", "J", false)
  | 12 => ("AllWays$Walked", "numbers", "[J", true)
  | 13 => ("AllWays$Walked", "relations", "[I", true)
  | 14 => ("AllWays$Walked", "leastRounds", "[I", true)
  | 15 => ("AllWays$Walked", "mostRounds", "[I", true)
  | _ => ("AllWays$Walked", "candidates", "[I", true)
def ty_Wk : Nat → FieldType := fun k => match k with
  | 0 => .boolean
  | 1 => .int
  | 2 => .long
  | 3 => .array .long
  | 4 => .array .int
  | 5 => .array .long
  | 6 => .int
  | 7 => .array .long
  | 8 => .array .int
  | 9 => .array .int
  | 10 => .boolean
  | 11 => .long
  | 12 => .array .long
  | 13 => .array .int
  | 14 => .array .int
  | 15 => .array .int
  | _ => .array .int
def T_Pf : u_T := fun k => match k with
  | 0 => ("AllWays$Proofs", "sizes", "LAllWays$Sizes;", true)
  | 1 => ("AllWays$Proofs", "machine", "LAllWays$Machine;", true)
  | 2 => ("AllWays$Proofs", "failing", "[I", true)
  | 3 => ("AllWays$Proofs", "leaves", "[I", true)
  | 4 => ("AllWays$Proofs", "first", "[I", true)
  | 5 => ("AllWays$Proofs", "pending", "[I", true)
  | 6 => ("AllWays$Proofs", "waiting", "I", false)
  | 7 => ("AllWays$Proofs", "bytes", "[I", true)
  | _ => ("AllWays$Proofs", "length", "I", false)
def ty_Pf : Nat → FieldType := fun k => match k with
  | 0 => .object "AllWays$Sizes"
  | 1 => .object "AllWays$Machine"
  | 2 => .array .int
  | 3 => .array .int
  | 4 => .array .int
  | 5 => .array .int
  | 6 => .int
  | 7 => .array .int
  | _ => .int
def T_Cd : u_T := fun k => match k with
  | 0 => ("AllWays$Code", "ops", "[I", true)
  | 1 => ("AllWays$Code", "args", "[I", true)
  | 2 => ("AllWays$Code", "numberAt", "[I", true)
  | 3 => ("AllWays$Code", "testAt", "[I", true)
  | 4 => ("AllWays$Code", "length", "I", false)
  | 5 => ("AllWays$Code", "start", "I", false)
  | 6 => ("AllWays$Code", "steps", "I", false)
  | 7 => ("AllWays$Code", "units", "I", false)
  | 8 => ("AllWays$Code", "numbers", "I", false)
  | 9 => ("AllWays$Code", "tests", "I", false)
  | _ => ("AllWays$Code", "whiles", "J", false)
def ty_Cd : Nat → FieldType := fun k => match k with
  | 0 => .array .int
  | 1 => .array .int
  | 2 => .array .int
  | 3 => .array .int
  | 4 => .int
  | 5 => .int
  | 6 => .int
  | 7 => .int
  | 8 => .int
  | 9 => .int
  | _ => .long
def T_Ps : u_T := fun k => match k with
  | 0 => ("AllWays$Parser", "tokens", "LAllWays$Tokens;", true)
  | 1 => ("AllWays$Parser", "procStarts", "[I", true)
  | 2 => ("AllWays$Parser", "code", "LAllWays$Code;", false)
  | 3 => ("AllWays$Parser", "faultKind", "I", false)
  | _ => ("AllWays$Parser", "faultPlace", "I", false)
def ty_Ps : Nat → FieldType := fun k => match k with
  | 0 => .object "AllWays$Tokens"
  | 1 => .array .int
  | 2 => .object "AllWays$Code"
  | 3 => .int
  | _ => .int
def T_Tk : u_T := fun k => match k with
  | 0 => ("AllWays$Tokens", "tape", "LAllWays$Tape;", true)
  | 1 => ("AllWays$Tokens", "kinds", "[I", true)
  | 2 => ("AllWays$Tokens", "places", "[I", true)
  | 3 => ("AllWays$Tokens", "values", "[I", true)
  | 4 => ("AllWays$Tokens", "next", "I", false)
  | 5 => ("AllWays$Tokens", "at", "I", false)
  | 6 => ("AllWays$Tokens", "kind", "I", false)
  | 7 => ("AllWays$Tokens", "place", "I", false)
  | _ => ("AllWays$Tokens", "value", "I", false)
def ty_Tk : Nat → FieldType := fun k => match k with
  | 0 => .object "AllWays$Tape"
  | 1 => .array .int
  | 2 => .array .int
  | 3 => .array .int
  | 4 => .int
  | 5 => .int
  | 6 => .int
  | 7 => .int
  | _ => .int
def T_M : u_T := fun k => match k with
  | 0 => ("AllWaysModel", "thrown", "I", false)
  | 1 => ("AllWaysModel", "tape", "[I", true)
  | 2 => ("AllWaysModel", "taped", "I", false)
  | 3 => ("AllWaysModel", "size", "I", false)
  | 4 => ("AllWaysModel", "to", "I", false)
  | 5 => ("AllWaysModel", "from", "I", false)
  | 6 => ("AllWaysModel", "kind", "I", false)
  | 7 => ("AllWaysModel", "number", "I", false)
  | 8 => ("AllWaysModel", "sign", "I", false)
  | 9 => ("AllWaysModel", "fault", "I", false)
  | 10 => ("AllWaysModel", "place", "I", false)
  | 11 => ("AllWaysModel", "word", "J", false)
  | 12 => ("AllWaysModel", "order", "[I", true)
  | 13 => ("AllWaysModel", "arg", "[I", true)
  | 14 => ("AllWaysModel", "sizeOf", "[I", true)
  | 15 => ("AllWaysModel", "startOf", "[I", true)
  | 16 => ("AllWaysModel", "stepsOf", "[I", true)
  | 17 => ("AllWaysModel", "numbersOf", "[I", true)
  | 18 => ("AllWaysModel", "isWhile", "[Z", true)
  | 19 => ("AllWaysModel", "numberAt", "[I", true)
  | 20 => ("AllWaysModel", "pile", "[I", true)
  | 21 => ("AllWaysModel", "blockKind", "[I", true)
  | 22 => ("AllWaysModel", "blockPatch", "[I", true)
  | 23 => ("AllWaysModel", "blockStart", "[I", true)
  | 24 => ("AllWaysModel", "procAt", "[I", true)
  | 25 => ("AllWaysModel", "top", "I", false)
  | 26 => ("AllWaysModel", "blocks", "I", false)
  | 27 => ("AllWaysModel", "opens", "I", false)
  | 28 => ("AllWaysModel", "units", "I", false)
  | 29 => ("AllWaysModel", "readTo", "I", false)
  | 30 => ("AllWaysModel", "reads", "I", false)
  | 31 => ("AllWaysModel", "proc", "I", false)
  | 32 => ("AllWaysModel", "isLaid", "Z", false)
  | 33 => ("AllWaysModel", "bits", "I", false)
  | 34 => ("AllWaysModel", "letters", "I", false)
  | 35 => ("AllWaysModel", "answers", "I", false)
  | 36 => ("AllWaysModel", "isWalked", "Z", false)
  | 37 => ("AllWaysModel", "names", "[I", true)
  | 38 => ("AllWaysModel", "cells", "[I", true)
  | 39 => ("AllWaysModel", "stack", "[I", true)
  | 40 => ("AllWaysModel", "calls", "[I", true)
  | 41 => ("AllWaysModel", "yes", "[I", true)
  | 42 => ("AllWaysModel", "ended", "I", false)
  | 43 => ("AllWaysModel", "endStep", "I", false)
  | 44 => ("AllWaysModel", "begun", "I", false)
  | 45 => ("AllWaysModel", "decided", "I", false)
  | 46 => ("AllWaysModel", "decisions", "J", false)
  | 47 => ("AllWaysModel", "stepSet", "J", false)
  | 48 => ("AllWaysModel", "gathers", "I", false)
  | 49 => ("AllWaysModel", "mays", "[J", true)
  | 50 => ("AllWaysModel", "stands", "[I", true)
  | 51 => ("AllWaysModel", "rowDecisions", "[J", true)
  | 52 => ("AllWaysModel", "rowSteps", "[J", true)
  | 53 => ("AllWaysModel", "rowDecided", "[I", true)
  | 54 => ("AllWaysModel", "rowBegun", "[I", true)
  | 55 => ("AllWaysModel", "rowEnd", "[I", true)
  | 56 => ("AllWaysModel", "rowStep", "[I", true)
  | 57 => ("AllWaysModel", "rowWay", "[I", true)
  | 58 => ("AllWaysModel", "wayRow", "[I", true)
  | 59 => ("AllWaysModel", "wayMany", "[I", true)
  | 60 => ("AllWaysModel", "leastYes", "[I", true)
  | 61 => ("AllWaysModel", "mostYes", "[I", true)
  | 62 => ("AllWaysModel", "sorted", "[I", true)
  | 63 => ("AllWaysModel", "other", "[I", true)
  | 64 => ("AllWaysModel", "ways", "I", false)
  | 65 => ("AllWaysModel", "walkedFuel", "I", false)
  | 66 => ("AllWaysModel", "hasStands", "Z", false)
  | 67 => ("AllWaysModel", "anyGoes", "Z", false)
  | 68 => ("AllWaysModel", "lawAt", "[I", true)
  | 69 => ("AllWaysModel", "lawMany", "I", false)
  | 70 => ("AllWaysModel", "coverRow", "[I", true)
  | 71 => ("AllWaysModel", "coverMany", "I", false)
  | 72 => ("AllWaysModel", aw_us, "I", false)
  | 73 => ("AllWaysModel", "mended", "I", false)
  | 74 => ("AllWaysModel", "testTo", "[I", true)
  | 75 => ("AllWaysModel", "tests", "I", false)
  | 76 => ("AllWaysModel", "readTestTo", "[I", true)
  | 77 => ("AllWaysModel", "none", "[I", true)
  | 78 => ("AllWaysModel", "leaves", "[I", true)
  | 79 => ("AllWaysModel", "split", "[I", true)
  | 80 => ("AllWaysModel", "power", "[I", true)
  | 81 => ("AllWaysModel", "proof", "[I", true)
  | 82 => ("AllWaysModel", "pending", "[I", true)
  | 83 => ("AllWaysModel", "proofMany", "I", false)
  | 84 => ("AllWaysModel", "got", "[I", true)
  | _ => ("AllWaysModel", "hasRun", "Z", false)
def ty_M : Nat → FieldType := fun k => match k with
  | 0 => .int
  | 1 => .array .int
  | 2 => .int
  | 3 => .int
  | 4 => .int
  | 5 => .int
  | 6 => .int
  | 7 => .int
  | 8 => .int
  | 9 => .int
  | 10 => .int
  | 11 => .long
  | 12 => .array .int
  | 13 => .array .int
  | 14 => .array .int
  | 15 => .array .int
  | 16 => .array .int
  | 17 => .array .int
  | 18 => .array .boolean
  | 19 => .array .int
  | 20 => .array .int
  | 21 => .array .int
  | 22 => .array .int
  | 23 => .array .int
  | 24 => .array .int
  | 25 => .int
  | 26 => .int
  | 27 => .int
  | 28 => .int
  | 29 => .int
  | 30 => .int
  | 31 => .int
  | 32 => .boolean
  | 33 => .int
  | 34 => .int
  | 35 => .int
  | 36 => .boolean
  | 37 => .array .int
  | 38 => .array .int
  | 39 => .array .int
  | 40 => .array .int
  | 41 => .array .int
  | 42 => .int
  | 43 => .int
  | 44 => .int
  | 45 => .int
  | 46 => .long
  | 47 => .long
  | 48 => .int
  | 49 => .array .long
  | 50 => .array .int
  | 51 => .array .long
  | 52 => .array .long
  | 53 => .array .int
  | 54 => .array .int
  | 55 => .array .int
  | 56 => .array .int
  | 57 => .array .int
  | 58 => .array .int
  | 59 => .array .int
  | 60 => .array .int
  | 61 => .array .int
  | 62 => .array .int
  | 63 => .array .int
  | 64 => .int
  | 65 => .int
  | 66 => .boolean
  | 67 => .boolean
  | 68 => .array .int
  | 69 => .int
  | 70 => .array .int
  | 71 => .int
  | 72 => .int
  | 73 => .int
  | 74 => .array .int
  | 75 => .int
  | 76 => .array .int
  | 77 => .array .int
  | 78 => .array .int
  | 79 => .array .int
  | 80 => .array .int
  | 81 => .array .int
  | 82 => .array .int
  | 83 => .int
  | 84 => .array .int
  | _ => .boolean
def aw_cl : List vw_C := [("AllWays", T_AW, 18), ("AllWays$Sizes", T_Sz, 3), ("AllWays$Tape", T_Tp, 2), ("AllWays$Machine", T_Mc, 20), ("AllWays$Walked", T_Wk, 17), ("AllWays$Proofs", T_Pf, 9), ("AllWays$Code", T_Cd, 11), ("AllWays$Parser", T_Ps, 5), ("AllWays$Tokens", T_Tk, 9), ("AllWaysModel", T_M, 86)]
def aw_nfl : List Nat := [18, 3, 2, 20, 17, 9, 11, 5, 9, 86]
def aw_nf (c : Nat) : Nat := aw_nfl.getD c 0
def aw_ty (c : Nat) : Nat → FieldType := match c with
  | 0 => ty_AW
  | 1 => ty_Sz
  | 2 => ty_Tp
  | 3 => ty_Mc
  | 4 => ty_Wk
  | 5 => ty_Pf
  | 6 => ty_Cd
  | 7 => ty_Ps
  | 8 => ty_Tk
  | _ => ty_M
/-- kind (a class of the world; 20 ints, 21 longs, 22 booleans, 23 Codes) and size of each object, in the order in which they are made -/
def aw_shl : List (Nat × Nat) := [(0, 18), (1, 3), (2, 2), (20, 540), (3, 20), (20, 8), (20, 8), (20, 64), (20, 4), (21, 1001), (20, 60), (4, 17), (21, 4096), (20, 4096), (21, 4096), (21, 4096), (20, 4096), (20, 4096), (21, 480), (20, 3840), (20, 60), (20, 60), (20, 4096), (5, 9), (20, 6561), (20, 6561), (20, 6561), (20, 16), (20, 511), (23, 4), (6, 11), (20, 600), (20, 600), (20, 20), (20, 20), (6, 11), (20, 600), (20, 600), (20, 20), (20, 20), (6, 11), (20, 600), (20, 600), (20, 20), (20, 20), (6, 11), (20, 600), (20, 600), (20, 20), (20, 20), (6, 11), (20, 600), (20, 600), (20, 20), (20, 20), (6, 11), (20, 600), (20, 600), (20, 20), (20, 20), (7, 5), (20, 4), (8, 9), (20, 501), (20, 501), (20, 501), (20, 2), (20, 28), (20, 17), (9, 86), (20, 540), (20, 5600), (20, 5600), (20, 7), (20, 7), (20, 7), (20, 7), (22, 420), (20, 140), (20, 200), (20, 16), (20, 16), (20, 16), (20, 4), (20, 8), (20, 8), (20, 400), (20, 8), (20, 60), (21, 480), (20, 3840), (21, 4096), (21, 4096), (20, 4096), (20, 4096), (20, 4096), (20, 4096), (20, 4096), (20, 4096), (20, 4096), (20, 60), (20, 60), (20, 4096), (20, 4096), (20, 28), (20, 2), (20, 20), (20, 20), (20, 6561), (20, 6561), (20, 6561), (20, 9), (20, 600), (20, 600), (20, 17), (21, 1)]
def aw_sh (o : Nat) : Nat × Nat := aw_shl.getD o (99, 0)
def aw_K : Nat := 116
/-- the references that stay -/
def aw_rl : List (List (Option Nat)) := [[some 1, some 2, some 4, some 11, some 23, some 29, none, none, some 60, none, some 66, none, none, some 67, none, none, some 68], [], [some 3], [], [some 1, some 5, some 6, some 7, none, some 8, none, none, none, none, none, none, none, none, none, none, none, some 9, some 10], [], [], [], [], [], [], [none, none, none, some 12, some 13, some 14, none, some 15, some 16, some 17, none, none, some 18, some 19, some 20, some 21, some 22], [], [], [], [], [], [], [], [], [], [], [], [some 1, some 4, some 24, some 25, some 26, some 27, none, some 28], [], [], [], [], [], [], [some 31, some 32, some 33, some 34], [], [], [], [], [some 36, some 37, some 38, some 39], [], [], [], [], [some 41, some 42, some 43, some 44], [], [], [], [], [some 46, some 47, some 48, some 49], [], [], [], [], [some 51, some 52, some 53, some 54], [], [], [], [], [some 56, some 57, some 58, some 59], [], [], [], [], [some 62, some 61], [], [some 2, some 63, some 64, some 65], [], [], [], [], [], [], [none, some 70, none, none, none, none, none, none, none, none, none, none, some 71, some 72, some 73, some 74, some 75, some 76, some 77, some 78, some 79, some 80, some 81, some 82, some 83, none, none, none, none, none, none, none, none, none, none, none, none, some 84, some 85, some 86, some 87, some 88, none, none, none, none, none, none, none, some 89, some 90, some 91, some 92, some 93, some 94, some 95, some 96, some 97, some 98, some 99, some 100, some 101, some 102, some 103, none, none, none, none, some 104, none, some 105, none, none, none, some 106, none, some 107, some 108, some 109, some 110, some 111, some 112, some 113, none, some 114], [], [], [], [], [], [], [], [], [], [], [], [], [], [], [], [], [], [], [], [], [], [], [], [], [], [], [], [], [], [], [], [], [], [], [], [], [], [], [], [], [], [], [], [], [], []]
def aw_rs (o k : Nat) : Option Nat := (aw_rl.getD o []).getD k none
/-- the references: all stay but those to Codes: programs 0 to 3, claimed (4), spare (5), the parser's (6) -/
def aw_R (D : Nat → Nat) : Nat → Nat → Option Nat := fun o k => if o = 0 then (if k = 6 then some (D 4) else if k = 7 then some (D 5) else aw_rs 0 k) else if o = 29 then (if k < 4 then some (D k) else none) else if o = 60 then (if k = 2 then some (D 6) else aw_rs 60 k) else aw_rs o k
def aw_codes : List Nat := [30, 35, 40, 45, 50, 55]
theorem n_AW : ∀ a, a < 18 → ∀ b, b < 18 → a ≠ b → (T_AW a).2.1 ≠ (T_AW b).2.1 := by decide +kernel
theorem ty_AW_ok : ∀ k, k < 18 → parseFieldDescriptor (T_AW k).2.2.1 = some (ty_AW k) := by decide +kernel
theorem i_AW : ∀ w ∈ u_ws "AllWays" T_AW 18, w ∈ lw_tbl := by
  have h : u_ws "AllWays" T_AW 18 = ([508, 510, 512, 514, 516, 518, 520, 522, 524, 526, 528, 530, 532, 534, 536, 538, 540, 542] : List Nat).filterMap (fun i => lw_tbl[i]?) := by decide +kernel
  intro w hw
  rw [h] at hw
  obtain ⟨i, -, hi⟩ := List.mem_filterMap.mp hw
  exact List.mem_of_getElem? hi
theorem n_Sz : ∀ a, a < 3 → ∀ b, b < 3 → a ≠ b → (T_Sz a).2.1 ≠ (T_Sz b).2.1 := by decide +kernel
theorem ty_Sz_ok : ∀ k, k < 3 → parseFieldDescriptor (T_Sz k).2.2.1 = some (ty_Sz k) := by decide +kernel
theorem i_Sz : ∀ w ∈ u_ws "AllWays$Sizes" T_Sz 3, w ∈ lw_tbl := by
  have h : u_ws "AllWays$Sizes" T_Sz 3 = ([178, 180, 182] : List Nat).filterMap (fun i => lw_tbl[i]?) := by decide +kernel
  intro w hw
  rw [h] at hw
  obtain ⟨i, -, hi⟩ := List.mem_filterMap.mp hw
  exact List.mem_of_getElem? hi
theorem n_Tp : ∀ a, a < 2 → ∀ b, b < 2 → a ≠ b → (T_Tp a).2.1 ≠ (T_Tp b).2.1 := by decide +kernel
theorem ty_Tp_ok : ∀ k, k < 2 → parseFieldDescriptor (T_Tp k).2.2.1 = some (ty_Tp k) := by decide +kernel
theorem i_Tp : ∀ w ∈ u_ws "AllWays$Tape" T_Tp 2, w ∈ lw_tbl := by
  have h : u_ws "AllWays$Tape" T_Tp 2 = ([196, 198] : List Nat).filterMap (fun i => lw_tbl[i]?) := by decide +kernel
  intro w hw
  rw [h] at hw
  obtain ⟨i, -, hi⟩ := List.mem_filterMap.mp hw
  exact List.mem_of_getElem? hi
theorem n_Mc : ∀ a, a < 20 → ∀ b, b < 20 → a ≠ b → (T_Mc a).2.1 ≠ (T_Mc b).2.1 := by decide +kernel
theorem ty_Mc_ok : ∀ k, k < 20 → parseFieldDescriptor (T_Mc k).2.2.1 = some (ty_Mc k) := by decide +kernel
theorem i_Mc : ∀ w ∈ u_ws "AllWays$Machine" T_Mc 20, w ∈ lw_tbl := by
  have h : u_ws "AllWays$Machine" T_Mc 20 = ([239, 241, 243, 245, 247, 249, 251, 253, 255, 257, 259, 261, 263, 265, 267, 269, 271, 273, 275, 277] : List Nat).filterMap (fun i => lw_tbl[i]?) := by decide +kernel
  intro w hw
  rw [h] at hw
  obtain ⟨i, -, hi⟩ := List.mem_filterMap.mp hw
  exact List.mem_of_getElem? hi
theorem n_Wk : ∀ a, a < 17 → ∀ b, b < 17 → a ≠ b → (T_Wk a).2.1 ≠ (T_Wk b).2.1 := by decide +kernel
theorem ty_Wk_ok : ∀ k, k < 17 → parseFieldDescriptor (T_Wk k).2.2.1 = some (ty_Wk k) := by decide +kernel
theorem i_Wk : ∀ w ∈ u_ws "AllWays$Walked" T_Wk 17, w ∈ lw_tbl := by
  have h : u_ws "AllWays$Walked" T_Wk 17 = ([306, 308, 310, 312, 314, 316, 318, 320, 322, 324, 326, 328, 330, 332, 334, 336, 338] : List Nat).filterMap (fun i => lw_tbl[i]?) := by decide +kernel
  intro w hw
  rw [h] at hw
  obtain ⟨i, -, hi⟩ := List.mem_filterMap.mp hw
  exact List.mem_of_getElem? hi
theorem n_Pf : ∀ a, a < 9 → ∀ b, b < 9 → a ≠ b → (T_Pf a).2.1 ≠ (T_Pf b).2.1 := by decide +kernel
theorem ty_Pf_ok : ∀ k, k < 9 → parseFieldDescriptor (T_Pf k).2.2.1 = some (ty_Pf k) := by decide +kernel
theorem i_Pf : ∀ w ∈ u_ws "AllWays$Proofs" T_Pf 9, w ∈ lw_tbl := by
  have h : u_ws "AllWays$Proofs" T_Pf 9 = ([356, 358, 360, 362, 364, 366, 368, 370, 372] : List Nat).filterMap (fun i => lw_tbl[i]?) := by decide +kernel
  intro w hw
  rw [h] at hw
  obtain ⟨i, -, hi⟩ := List.mem_filterMap.mp hw
  exact List.mem_of_getElem? hi
theorem n_Cd : ∀ a, a < 11 → ∀ b, b < 11 → a ≠ b → (T_Cd a).2.1 ≠ (T_Cd b).2.1 := by decide +kernel
theorem ty_Cd_ok : ∀ k, k < 11 → parseFieldDescriptor (T_Cd k).2.2.1 = some (ty_Cd k) := by decide +kernel
theorem i_Cd : ∀ w ∈ u_ws "AllWays$Code" T_Cd 11, w ∈ lw_tbl := by
  have h : u_ws "AllWays$Code" T_Cd 11 = ([406, 408, 410, 412, 414, 416, 418, 420, 422, 424, 426] : List Nat).filterMap (fun i => lw_tbl[i]?) := by decide +kernel
  intro w hw
  rw [h] at hw
  obtain ⟨i, -, hi⟩ := List.mem_filterMap.mp hw
  exact List.mem_of_getElem? hi
theorem n_Ps : ∀ a, a < 5 → ∀ b, b < 5 → a ≠ b → (T_Ps a).2.1 ≠ (T_Ps b).2.1 := by decide +kernel
theorem ty_Ps_ok : ∀ k, k < 5 → parseFieldDescriptor (T_Ps k).2.2.1 = some (ty_Ps k) := by decide +kernel
theorem i_Ps : ∀ w ∈ u_ws "AllWays$Parser" T_Ps 5, w ∈ lw_tbl := by
  have h : u_ws "AllWays$Parser" T_Ps 5 = ([479, 481, 483, 485, 487] : List Nat).filterMap (fun i => lw_tbl[i]?) := by decide +kernel
  intro w hw
  rw [h] at hw
  obtain ⟨i, -, hi⟩ := List.mem_filterMap.mp hw
  exact List.mem_of_getElem? hi
theorem n_Tk : ∀ a, a < 9 → ∀ b, b < 9 → a ≠ b → (T_Tk a).2.1 ≠ (T_Tk b).2.1 := by decide +kernel
theorem ty_Tk_ok : ∀ k, k < 9 → parseFieldDescriptor (T_Tk k).2.2.1 = some (ty_Tk k) := by decide +kernel
theorem i_Tk : ∀ w ∈ u_ws "AllWays$Tokens" T_Tk 9, w ∈ lw_tbl := by
  have h : u_ws "AllWays$Tokens" T_Tk 9 = ([453, 455, 457, 459, 461, 463, 465, 467, 469] : List Nat).filterMap (fun i => lw_tbl[i]?) := by decide +kernel
  intro w hw
  rw [h] at hw
  obtain ⟨i, -, hi⟩ := List.mem_filterMap.mp hw
  exact List.mem_of_getElem? hi
theorem n_M : ∀ a, a < 86 → ∀ b, b < 86 → a ≠ b → (T_M a).2.1 ≠ (T_M b).2.1 := by decide +kernel
theorem ty_M_ok : ∀ k, k < 86 → parseFieldDescriptor (T_M k).2.2.1 = some (ty_M k) := by decide +kernel
theorem i_M : ∀ w ∈ u_ws "AllWaysModel" T_M 86, w ∈ lw_tbl := by
  have h : u_ws "AllWaysModel" T_M 86 = ([1547, 1549, 1551, 1553, 1555, 1557, 1559, 1561, 1563, 1565, 1567, 1569, 1571, 1573, 1575, 1577, 1579, 1581, 1583, 1585, 1587, 1589, 1591, 1593, 1595, 1597, 1599, 1601, 1603, 1605, 1607, 1609, 1611, 1613, 1615, 1617, 1619, 1621, 1623, 1625, 1627, 1629, 1631, 1633, 1635, 1637, 1639, 1641, 1643, 1645, 1647, 1649, 1651, 1653, 1655, 1657, 1659, 1661, 1663, 1665, 1667, 1669, 1671, 1673, 1675, 1677, 1679, 1681, 1683, 1685, 1687, 1689, 1691, 1693, 1695, 1697, 1699, 1701, 1703, 1705, 1707, 1709, 1711, 1713, 1715, 1717] : List Nat).filterMap (fun i => lw_tbl[i]?) := by decide +kernel
  intro w hw
  rw [h] at hw
  obtain ⟨i, -, hi⟩ := List.mem_filterMap.mp hw
  exact List.mem_of_getElem? hi
