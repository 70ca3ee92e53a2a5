/-! PART 44: what the reference gathers at a step -/
def mayL (f : Nat → Int64) (s : Nat) (nm : Nat → Int32) : Nat → Nat → Int64
  | 0 => f
  | a + 1 => va_up (mayL f s nm a) (8 * s + a) (mayL f s nm a (8 * s + a) ||| ((1 : Int64) <<< ((nm a).toInt64 &&& 63)))
def relI (x y : Int32) : Int32 := if x < y then 1 else if x = y then 2 else 4
def stJ (f : Nat → Int32) (s : Nat) (nm : Nat → Int32) (a : Nat) : Nat → Nat → Int32
  | 0 => f
  | k + 1 => va_up (stJ f s nm a k) (64 * s + 8 * a + (a + 1 + k)) (stJ f s nm a k (64 * s + 8 * a + (a + 1 + k)) ||| relI (nm a) (nm (a + 1 + k)))
def stO (f : Nat → Int32) (s : Nat) (nm : Nat → Int32) : Nat → Nat → Int32
  | 0 => f
  | a + 1 => stJ (stO f s nm a) s nm a (7 - a)
section MG
variable {X : aw_X} {d : Nat} {Q : Option Value → aw_H → Prop} {I : Nat → Nat → Int32} {L : Nat → Nat → Int64} {D : Nat → Nat}
theorem aw_u_eq {α : Type} (f : Nat → Nat → α) (o k : Nat) (v : α) : aw_u f o k v o = va_up (f o) k v := aw_u_same f o k v
end MG
