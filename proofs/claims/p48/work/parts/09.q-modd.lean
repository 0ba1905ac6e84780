/-! ===== the reference: no position is odd ===== -/
theorem cnt_uniq {g : Nat → Bool} {k : Nat} (hg : g k = true) (hu : ∀ j, g j = true → j = k) : ∀ n, cnt n g = if k < n then 1 else 0 := by
  intro n
  induction n with
  | zero => rfl
  | succ n ih =>
    show cnt n g + (if g n = true then 1 else 0) = _
    rw [ih]
    by_cases e : n = k
    · rw [e, hg, if_neg (by omega), if_pos rfl, if_pos (by omega)]
    · have : g n ≠ true := fun q => e (hu n q)
      rw [if_neg this]
      by_cases h : k < n
      · rw [if_pos h, if_pos (by omega)]
      · rw [if_neg h, if_neg (by omega)]
section MODD
variable {G : Mem} {o : Nat} {c r m : Nat} {N : Nat → Nat → Int32} {P0 : Nat → Nat} {x : Nat → Nat → Int32} {y : Nat → Nat → Int64}
end MODD
