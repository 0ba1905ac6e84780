/-! ===== the reference's parser: its smallest steps ===== -/
/-- nothing is wrong so far, the token begins at s -/
def RSt (x : Nat → Nat → Int32) (o : Nat) (T : Nat → Nat) (L s : Nat) : Prop := RBy x o T L ∧ RTk x o T L s ∧ x o 25 = nW 0 ∧ x o 11 = nW 0 ∧ x o 12 = -nW 1
def RBd (x : Nat → Nat → Int32) (o : Nat) (e : Nat × Nat) : Prop := x o 25 = nW 1 ∧ x o 11 = nW e.1 ∧ x o 12 = nW e.2
/-- only what the parser writes has changed -/
def MTF (o : Nat) (x x' : Nat → Nat → Int32) : Prop := ∀ b j, ¬ (b = o ∧ (j = 11 ∨ j = 12 ∨ 21 ≤ j)) → x' b j = x b j
theorem MTF.rfl' {o : Nat} {x : Nat → Nat → Int32} : MTF o x x := fun _ _ _ => rfl
theorem MTF.trans {o : Nat} {x x' x2 : Nat → Nat → Int32} (h : MTF o x x') (h2 : MTF o x' x2) : MTF o x x2 := fun b j q => (h2 b j q).trans (h b j q)
theorem MTF.row {o b : Nat} {x x' : Nat → Nat → Int32} (h : MTF o x x') (hb : b ≠ o) : x' b = x b := funext fun j => h b j (fun q => hb q.1)
section MPRIM
variable {G : Mem} {o : Nat} {x : Nat → Nat → Int32} {y : Nat → Nat → Int64} {T : Nat → Nat} {L : Nat}
end MPRIM
