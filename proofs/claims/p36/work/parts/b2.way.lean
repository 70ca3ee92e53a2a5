/-! PART b2: what is told of a way -/
def wyV (E : Nat → PE) (wl wc : Nat → Nat) (i k : Nat) : Int32 := if k = 0 then eE (E (wl i)) else if k = 1 then eS (E (wl i)) else if k = 2 then nI (eD (E (wl i))).length else if k = 3 then nI (wc i) else if k = 4 then nI (wl i) else nI (eB (E (wl i)))
section WAYV
variable {X : aw_X} {d : Nat} {Q : Option Value → aw_H → Prop} {I : Nat → Nat → Int32} {L : Nat → Nat → Int64} {D : Nat → Nat} {S : PT} {F B T O n : Nat} {E : Nat → PE} {wl wc wi : Nat → Nat}
end WAYV
