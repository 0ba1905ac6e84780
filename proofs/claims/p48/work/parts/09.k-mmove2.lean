/-! ===== both number the moves of a note alike ===== -/
section SAMEMV
variable {c n m : Nat} {N : Nat → Nat → Int32} {P0 : Nat → Nat}
end SAMEMV
/-! a number in a list -/
theorem nth_in : ∀ (l : List Nat) (j : Nat), l.length < 2147483648 → j < l.length → nth l (nW j) = nW (l.getD j 0) := by
  intro l
  induction l with
  | nil => intro j _ h; exact absurd h (Nat.not_lt_zero _)
  | cons a l ih =>
    intro j hl hj
    have hl' : l.length + 1 < 2147483648 := hl
    have hj' : j < l.length + 1 := hj
    show (if nW j = 0 then nW a else nth l (nW j - 1)) = _
    cases j with
    | zero => exact if_pos rfl
    | succ j =>
      rw [if_neg (by
        show ¬ nW (j + 1) = nW 0
        rw [nW_eq (by omega) (by decide)]; omega)]
      have e : nW (j + 1) - 1 = nW j := by
        show nW (j + 1) - nW 1 = nW j
        rw [nW_sub (by omega), Nat.add_sub_cancel]
      rw [e, ih j (by omega) (by omega)]; rfl
theorem nth_out : ∀ (l : List Nat) (z : Int32), l.length < 2147483648 → (∀ j, j < l.length → z ≠ nW j) → nth l z = -1 := by
  intro l
  induction l with
  | nil => intro z _ _; rfl
  | cons a l ih =>
    intro z hl h
    have hl' : l.length + 1 < 2147483648 := hl
    show (if z = 0 then nW a else nth l (z - 1)) = _
    rw [if_neg (show ¬ z = 0 from h 0 (Nat.succ_pos _))]
    refine ih (z - 1) (by omega) (fun j hj e => h (j + 1) (Nat.succ_lt_succ hj) ?_)
    have := Int32.sub_add_cancel z 1
    rw [e] at this
    rw [← this]
    show nW j + nW 1 = nW (j + 1)
    rw [nW_add]
