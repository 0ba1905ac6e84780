/-! ===== the start: the invariant ===== -/
theorem p00_big : ∀ k, 16 ≤ k → P00 k = 0 := fun k hk => by
  unfold P00
  rw [List.getD_eq_getElem?_getD, List.getElem?_eq_none hk]; rfl
theorem p00_lt : ∀ k, P00 k < 11 := fun k => by
  by_cases hk : k < 16
  · have h : ∀ k, k < 16 → P00 k < 11 := by decide +kernel
    exact h k hk
  · rw [p00_big k (by omega)]; decide
theorem p00_one : ∀ j, P00 j = 1 → j = 0 := fun j hj => by
  by_cases hk : j < 16
  · have h : ∀ k, k < 16 → P00 k = 1 → k = 0 := by decide +kernel
    exact h j hk hj
  · rw [p00_big j (by omega)] at hj; exact absurd hj (by decide)
theorem p00_six : ∀ j, P00 j = 6 → j = 15 := fun j hj => by
  by_cases hk : j < 16
  · have h : ∀ k, k < 16 → P00 k = 6 → k = 15 := by decide +kernel
    exact h j hk hj
  · rw [p00_big j (by omega)] at hj; exact absurd hj (by decide)
theorem p00_cnt : ∀ col, col < 2 → cnt 16 (fun k => own (P00 k) col) ≤ 9 := by decide +kernel
theorem p00_wfp : WFP 16 P00 := ⟨p00_lt, p00_big, ⟨0, by decide, by decide +kernel, p00_one⟩, ⟨15, by decide, by decide +kernel, p00_six⟩, p00_cnt⟩
abbrev A00 : ASt := (4, 4, N00, P00, 0)
abbrev W00 : WSt := (A00, [], fun _ => none, ((fun _ => 0), 0), (0, -1), ((fun _ => 0), 0))
theorem a00_ok : AAOK A00 := by
  show AOK 4 4 N00 P00 0
  exact ⟨by unfold szs; decide, p00_wfp, Nat.zero_le _, fun i hi => absurd hi (Nat.not_lt_zero i), fun i hi => absurd hi (Nat.not_lt_zero i)⟩
theorem ctd00 (p : Nat) : ctD 4 16 N00 P00 0 0 p = if p < 1 then 1 else 0 := rfl
section INV0
variable {g : Mem}
theorem cd00 (c1 : (mI g 0 6 = 0 ∧ mI g 0 7 = 0 ∧ mI g 0 11 = 0 ∧ mI g 1 1 = 0 ∧ mI g 1 2 = -1 ∧ mI g 2 0 = 0) ∧ (∀ j, j < 2 → mI g 53 j = 0) ∧ (∀ e, e < 12 → mI g (fa e + 9) 0 = 0) ∧ (mI g 10 0 = 4 ∧ mI g 10 1 = 4 ∧ mI g 9 1 = 0) ∧ (∀ p, p < 440 → mJ g 7 p = if p = 0 then 1 else 0))
    (c2 : (mI g 14 0 = 1 ∧ mJ g 15 0 = 1 ∧ mI g 18 0 = 0) ∧ ∀ p, p < 88 → onb 4 4 p = false → mI g 12 p = nW 15) (c3 : ∀ q, q < 48 → nib (mJ g 16 (q / 16)) (q % 16) = enc (P00 q)) (ss : SS g 9 19 0) : CDt g (fun e => e) (fun e => fa e + 10) (fun _ => 0) W00 := by
  obtain ⟨⟨x1, x2, x3, x4, x5, x6⟩, x7, x8, ⟨x9, x10, x11⟩, x12⟩ := c1
  obtain ⟨⟨y1, y2, y3⟩, y4⟩ := c2
  have L0 : LRep g 9 19 4 16 N00 P00 0 := by
    refine ⟨fun i hi => ?_, fun i hi => absurd hi (Nat.not_lt_zero i)⟩
    obtain rfl : i = 0 := by omega
    refine ⟨⟨y1, fun p hp => ?_⟩, y3⟩
    obtain rfl : p = 0 := by have : p < 1 := hp; omega
    refine ⟨y2, fun q hq => ?_⟩
    have := c3 q hq
    rw [show (0 * 40 + 0) * 3 + q / 16 = q / 16 by omega]
    exact this
  have R0 : ARep g 9 19 0 4 4 N00 P00 0 := ⟨ss, ⟨x9, x10⟩, y4, x11, fun i hi => absurd hi (Nat.not_lt_zero i), L0, Nat.zero_le _⟩
  refine ⟨⟨R0, a00_ok⟩, ⟨⟨x2, Nat.zero_le _⟩, 0, by decide, x1, fun t ht => absurd ht (Nat.not_lt_zero t)⟩, fun j hj => ⟨x7 j hj, fun A hA => by cases hA⟩, fun i hi p hp => ?_, ⟨⟨Nat.zero_le _, x6, fun i hi => absurd hi (Nat.not_lt_zero i)⟩, x4, x5⟩, ⟨x3, Nat.zero_le _, fun i hi => absurd hi (Nat.not_lt_zero i)⟩, x8⟩
  obtain rfl : i = 0 := by have : i ≤ 0 := hi; omega
  show mJ g 7 (0 * 40 + p) = Int64.ofNat (ctD 4 16 N00 P00 0 0 p)
  rw [ctd00, show 0 * 40 + p = p by omega, x12 p (by omega)]
  by_cases h : p = 0
  · rw [if_pos h, if_pos (by omega)]; rfl
  · rw [if_neg h, if_neg (by omega)]; rfl
end INV0
