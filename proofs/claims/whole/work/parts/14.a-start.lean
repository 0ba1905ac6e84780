/-! ===== the start, run by the kernel ===== -/
def G1 : Mem := ((fL_start G00).map fun q => q.2.2.2).getD G00
set_option maxRecDepth 100000 in
theorem start_run : ((fL_start G00).map fun q => (q.1, q.2.1, q.2.2.1, mz q.2.2.2)) = some (0, 265, 281, 282) := by decide +kernel
theorem start_some : fL_start G00 = some (0, 265, 281, G1) := by
  have h := start_run
  have hg : G1 = ((fL_start G00).map fun q => q.2.2.2).getD G00 := rfl
  generalize fL_start G00 = z at h hg
  cases z with
  | none => cases h
  | some q =>
    obtain ⟨a, b, c, g⟩ := q
    have h := Option.some.inj h
    have h1 : a = 0 := congrArg Prod.fst h
    have h2 : b = 265 := congrArg (fun q => q.2.1) h
    have h3 : c = 281 := congrArg (fun q => q.2.2.1) h
    have h4 : G1 = g := hg
    rw [h1, h2, h3, h4]
set_option maxRecDepth 100000 in
theorem G1_a : ((mt G1 0 = 16 ∧ mP G1 0 0 = some 1 ∧ mP G1 0 1 = some 5 ∧ mP G1 0 2 = some 8 ∧ mP G1 0 3 = some (fa 0) ∧ mP G1 0 4 = some (fa 1) ∧ mP G1 0 5 = some 51 ∧ mP G1 0 8 = some 52 ∧ mP G1 0 9 = some 53 ∧ mP G1 0 10 = some 54) ∧ (((mt G1 1 = 12 ∧ mP G1 1 0 = some 2 ∧ mP G1 1 6 = some 4) ∧ (mt G1 2 = 15 ∧ mP G1 2 5 = some 3) ∧ (mt G1 3 = 2 ∧ mn G1 3 = 600) ∧ mt G1 4 = 11) ∧ ((mt G1 5 = 14 ∧ mP G1 5 0 = some 6 ∧ mP G1 5 2 = some 7) ∧ (mt G1 6 = 5 ∧ mn G1 6 = 2304) ∧ (mt G1 7 = 5 ∧ mn G1 7 = 440) ∧ 6 ≠ 7) ∧ mt G1 8 = 11)) ∧ (((mt G1 51 = 7 ∧ mn G1 51 = 8) ∧ ∀ i, i < 8 → mP G1 51 i = some (fa (2 + i))) ∧ ((mt G1 52 = 7 ∧ mn G1 52 = 2) ∧ ∀ j, j < 2 → mP G1 52 j = some (fa (10 + j))) ∧ ((mt G1 53 = 3 ∧ mn G1 53 = 2) ∧ (mt G1 54 = 2 ∧ mn G1 54 = 41) ∧ (mt G1 281 = 5 ∧ mn G1 281 = 1))) := by decide +kernel
