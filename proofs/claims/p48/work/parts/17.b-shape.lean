/-! ===== the start: shapes ===== -/
set_option maxRecDepth 100000 in
theorem G1_s1 : ∀ e, e < 12 → (mt G1 (fa e) = 13 ∧ mP G1 (fa e) 0 = some (fa e + 1) ∧ mP G1 (fa e) 2 = some (fa e + 4) ∧ mP G1 (fa e) 3 = some (fa e + 5) ∧ mP G1 (fa e) 4 = some (fa e + 6) ∧ mP G1 (fa e) 5 = some (fa e + 7) ∧ mP G1 (fa e) 6 = some (fa e + 8) ∧ mP G1 (fa e) 7 = some (fa e + 9) ∧ mP G1 (fa e) 8 = some (fa e + 10)) := by decide +kernel
set_option maxRecDepth 100000 in
theorem G1_s2 : ∀ e, e < 12 → BSh G1 (fa e + 1) := by
  unfold BSh
  decide +kernel
set_option maxRecDepth 100000 in
theorem G1_s3 : ∀ e, e < 12 → ((mt G1 (fa e + 4) = 6 ∧ mn G1 (fa e + 4) = 10) ∧ ∀ i, i < 10 → mP G1 (fa e + 4) i = some (fa e + 11 + i) ∧ mt G1 (fa e + 11 + i) = 11) := by decide +kernel
set_option maxRecDepth 100000 in
theorem G1_s4 : ∀ e, e < 12 → ((mt G1 (fa e + 5) = 1 ∧ mn G1 (fa e + 5) = 11) ∧ (mt G1 (fa e + 6) = 5 ∧ mn G1 (fa e + 6) = 440) ∧ (mt G1 (fa e + 7) = 5 ∧ mn G1 (fa e + 7) = 1320) ∧ (mt G1 (fa e + 8) = 5 ∧ mn G1 (fa e + 8) = 3) ∧ (mt G1 (fa e + 9) = 1 ∧ mn G1 (fa e + 9) = 11) ∧ (mt G1 (fa e + 10) = 1 ∧ mn G1 (fa e + 10) = 250)) := by decide +kernel
