/-! ===== the reference remembers states ===== -/
abbrev ASt : Type := Nat × Nat × (Nat → Nat → Int32) × (Nat → Nat) × Nat
def as0 : ASt := (0, 0, fun _ _ => 0, fun _ => 0, 0)
abbrev MKa (x : Nat → Nat → Int32) (b at' : Nat) (A : ASt) : Prop := MKp x b at' A.1 A.2.1 A.2.2.1 A.2.2.2.1 A.2.2.2.2
def KRep (x : Nat → Nat → Int32) (o : Nat) (l : List ASt) : Prop := (x o 5 = nW l.length ∧ l.length ≤ 8) ∧ ∀ j, j < l.length → MKa x (o + 2) (j * 109) (l.getD j as0) ∧ (l.getD j as0).2.2.2.2 ≤ 10
/-- the history with one more, the oldest dropped where there are eight -/
def rem8 (l : List ASt) (A : ASt) : List ASt := if l.length = 8 then l.tail ++ [A] else l ++ [A]
section MREM
variable {G : Mem} {o : Nat} {x : Nat → Nat → Int32} {y : Nat → Nat → Int64}
end MREM
