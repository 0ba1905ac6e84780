/-! ===== the start: the class's shape ===== -/
theorem G1_mz : mz G1 = 282 := by
  have h := start_run
  rw [start_some] at h
  generalize G1 = g at h ⊢
  exact congrArg (fun q : Nat × Nat × Nat × Nat => q.2.2.2) (Option.some.inj h)
/-- all of the class's shape, but that nothing lies above -/
theorem G1_csh (hF : Frsh G1) : CSh G1 (fun e => e) (fun e => fa e + 10) (fun _ => 0) := by
  obtain ⟨⟨a1, a2⟩, a3, a4, a5⟩ := G1_a
  refine ⟨a1, a2, a3, a4, a5, G1_ss, ⟨fun e _ => Or.inl rfl, fun e e' _ _ hn => ?_⟩, ⟨fun i hi => hi, fun i j _ _ hij => hij⟩, hF, ?_⟩
  · have := fa_ne hn
    show fa e + 10 ≠ fa e' + 10
    omega
  · rw [G1_mz]; exact Nat.le_refl _
