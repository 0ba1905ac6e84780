/-! ===== the start: more cells ===== -/
set_option maxRecDepth 100000 in
theorem G1_cells2 : (mI G1 14 0 = 1 ∧ mJ G1 15 0 = 1 ∧ mI G1 18 0 = 0) ∧ ∀ p, p < 88 → onb 4 4 p = false → mI G1 12 p = nW 15 := by decide +kernel
