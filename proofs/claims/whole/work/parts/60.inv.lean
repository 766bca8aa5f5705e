def Inv (j : Nat) (sI : Nat → Int32) (sJ : Nat → Int64) (sA : Nat → Nat → Int32) (sB : Nat → Nat → Int64) : Prop := sorry
theorem Inv_grow {j : Nat} {sI : Nat → Int32} {sJ : Nat → Int64} {sA : Nat → Nat → Int32} {sB : Nat → Nat → Int64} (h : Inv j sI sJ sA sB) : Inv (j + 6) sI sJ sA sB := sorry
