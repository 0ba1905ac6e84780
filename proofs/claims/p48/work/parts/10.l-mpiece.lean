/-! ===== the reference reads pieces ===== -/
section MPIECE
variable {G : Mem} {o : Nat} {x : Nat → Nat → Int32} {y : Nat → Nat → Int64} {T : Nat → Nat} {L : Nat} {c r : Nat} {P : Nat → Nat}
abbrev N00 : Nat → Nat → Int32 := fun _ _ => 0
theorem MPs.row (h : MPs x o c r N00 P 0) : MRow x (o + 1) 3 36 P := fun q hq => h.2.2.1 q hq
/-! the rest of a piece, once something is wrong -/
/-- what a setup may change in the reference -/
def MSX (o : Nat) (x x' : Nat → Nat → Int32) : Prop := ∀ b j, ¬ (b = o ∧ (j = 11 ∨ j = 12 ∨ 21 ≤ j)) → b ≠ o + 1 → x' b j = x b j
theorem MSX.trans {x' x2 : Nat → Nat → Int32} (h : MSX o x x') (h2 : MSX o x' x2) : MSX o x x2 := fun b j q1 q2 => (h2 b j q1 q2).trans (h b j q1 q2)
end MPIECE
