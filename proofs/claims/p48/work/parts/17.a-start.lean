/-! ===== the start, run by the kernel: the class's memory ===== -/
def G0c : Mem := (0, 0, fun _ => 0, fun _ => 0, fun _ _ => 0, fun _ _ => 0, fun _ _ => none, 600073, 7301549)
def S1 : Option (Nat × Mem) := (nO G0c 16 12).bind fun q => (fX6_init q.1 q.2).map fun z => (q.1, z.2)
def G1 : Mem := (S1.map fun q => q.2).getD G0c
set_option maxRecDepth 100000 in
theorem s1_run : (S1.map fun q => (q.1, mz q.2, decide (ml q.2 ≤ 100000), cC q.2, cS q.2)) = some (0, 265, true, 600073, 7301549) := by decide +kernel
theorem s1_some : S1 = some (0, G1) ∧ (mz G1 = 265 ∧ ml G1 ≤ 100000 ∧ cC G1 = 600073 ∧ cS G1 = 7301549) := by
  have h := s1_run
  have hg : G1 = (S1.map fun q => q.2).getD G0c := rfl
  generalize S1 = z at h hg
  cases z with
  | none => cases h
  | some q =>
    obtain ⟨a, g⟩ := q
    have h := Option.some.inj h
    have h1 : a = 0 := congrArg Prod.fst h
    have h4 : G1 = g := hg
    rw [h1, h4]
    exact ⟨rfl, congrArg (fun q => q.2.1) h, of_decide_eq_true (congrArg (fun q => q.2.2.1) h), congrArg (fun q => q.2.2.2.1) h, congrArg (fun q => q.2.2.2.2) h⟩
set_option maxRecDepth 100000 in
theorem G1_a : ((mt G1 0 = 16 ∧ mP G1 0 0 = some 1 ∧ mP G1 0 1 = some 5 ∧ mP G1 0 2 = some 8 ∧ mP G1 0 3 = some (fa 0) ∧ mP G1 0 4 = some (fa 1) ∧ mP G1 0 5 = some 51 ∧ mP G1 0 8 = some 52 ∧ mP G1 0 9 = some 53 ∧ mP G1 0 10 = some 54) ∧ (((mt G1 1 = 12 ∧ mP G1 1 0 = some 2 ∧ mP G1 1 6 = some 4) ∧ (mt G1 2 = 15 ∧ mP G1 2 5 = some 3) ∧ (mt G1 3 = 2 ∧ mn G1 3 = 600) ∧ mt G1 4 = 11) ∧ ((mt G1 5 = 14 ∧ mP G1 5 0 = some 6 ∧ mP G1 5 2 = some 7) ∧ (mt G1 6 = 5 ∧ mn G1 6 = 2304) ∧ (mt G1 7 = 5 ∧ mn G1 7 = 440) ∧ 6 ≠ 7) ∧ mt G1 8 = 11)) ∧ (((mt G1 51 = 7 ∧ mn G1 51 = 8) ∧ ∀ i, i < 8 → mP G1 51 i = some (fa (2 + i))) ∧ ((mt G1 52 = 7 ∧ mn G1 52 = 2) ∧ ∀ j, j < 2 → mP G1 52 j = some (fa (10 + j))) ∧ ((mt G1 53 = 3 ∧ mn G1 53 = 2) ∧ (mt G1 54 = 2 ∧ mn G1 54 = 41) ∧ (mt G1 0 = 16 ∧ mt G1 0 = 16))) := by decide +kernel
