/-! ===== the reference: a note is laid; states are kept ===== -/
def ntF (kind fx tx ty tk ck : Int32) : Nat → Int32 := fun j => match j with
  | 0 => kind
  | 1 => fx
  | 2 => -1
  | 3 => tx
  | 4 => ty
  | 5 => tk
  | _ => ck
section MLAYN
variable {G : Mem} {o : Nat} {c r m : Nat} {N : Nat → Nat → Int32} {P0 : Nat → Nat} {x : Nat → Nat → Int32} {y : Nat → Nat → Int64}
end MLAYN
