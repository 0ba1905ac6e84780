/-! ===== the reference marks the moves of a note ===== -/
theorem cnt_none {f : Nat → Bool} : ∀ n, (∀ i, i < n → f i = false) → cnt n f = 0 := by
  intro n
  induction n with
  | zero => intro _; rfl
  | succ n ih =>
    intro h
    show cnt n f + (if f n = true then 1 else 0) = 0
    rw [ih (fun i hi => h i (by omega)), h n (by omega)]; rfl
section MMARKS
variable {G : Mem} {o : Nat} {c r m : Nat} {N : Nat → Nat → Int32} {P0 : Nat → Nat} {x : Nat → Nat → Int32} {y : Nat → Nat → Int64}
end MMARKS
