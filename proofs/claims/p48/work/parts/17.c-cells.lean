/-! ===== the start: cells ===== -/
def P00 (q : Nat) : Nat := [1, 3, 5, 0, 0, 0, 0, 3, 0, 0, 0, 0, 9, 10, 0, 6].getD q 0
set_option maxRecDepth 100000 in
theorem G1_cells : (mI G1 0 6 = 0 ∧ mI G1 0 7 = 0 ∧ mI G1 0 11 = 0 ∧ mI G1 1 1 = 0 ∧ mI G1 1 2 = -1 ∧ mI G1 2 0 = 0) ∧ (∀ j, j < 2 → mI G1 53 j = 0) ∧ (∀ e, e < 12 → mI G1 (fa e + 9) 0 = 0) ∧ (mI G1 10 0 = 4 ∧ mI G1 10 1 = 4 ∧ mI G1 9 1 = 0) ∧ (∀ p, p < 440 → mJ G1 7 p = if p = 0 then 1 else 0) := by decide +kernel
