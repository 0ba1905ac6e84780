/-! ===== the reference: a move, and whether it agrees with a note ===== -/
section MMOVE
variable {G : Mem} {o : Nat} {x : Nat → Nat → Int32} {y : Nat → Nat → Int64} {c r : Nat} {P : Nat → Nat}
theorem WFP.fnd {n : Nat} {P : Nat → Nat} (W : WFP n P) {col : Nat} (hcol : col < 2) : fnd n P (kgc col) < n := by
  obtain ⟨k, h1, h2, h3⟩ := W.king hcol
  rw [fnd_uniq h1 h2 h3]; exact h1
theorem MRow.mono {b at' n k : Nat} (h : MRow x b at' n P) (hk : k ≤ n) : MRow x b at' k P := fun q hq => h q (by omega)
/-- the notes of the reference -/
def MNt (x : Nat → Nat → Int32) (o i : Nat) (N : Nat → Int32) : Prop := ∀ j, j < 7 → x (o + 1) (39 + 7 * i + j) = N j
end MMOVE
