/-! ===== both number the moves of a note alike ===== -/
theorem grid_filter {P : Nat → Bool} {B : Nat} : ∀ A, (List.range (A * B)).filter P = (List.range A).flatMap fun f => ((List.range B).filter fun t => P (f * B + t)).map fun t => f * B + t := by
  intro A
  induction A with
  | zero => rw [Nat.zero_mul]; rfl
  | succ A ih =>
    rw [Nat.succ_mul, List.range_add, List.filter_append, ih, List.range_succ, List.flatMap_append]
    congr 1
    rw [List.filter_map]
    simp only [List.flatMap_cons, List.flatMap_nil, List.append_nil]
    rfl
theorem range_filter_le {P : Nat → Bool} {n : Nat} : ∀ d, (∀ k, n ≤ k → P k = false) → (List.range (n + d)).filter P = (List.range n).filter P := by
  intro d h
  rw [List.range_add, List.filter_append]
  have : ((List.range d).map fun x => n + x).filter P = [] := by
    rw [List.filter_eq_nil_iff]
    intro a ha
    rw [List.mem_map] at ha
    obtain ⟨b, -, rfl⟩ := ha
    rw [h _ (Nat.le_add_right _ _)]
    decide
  rw [this, List.append_nil]
theorem sumN_ne {f : Nat → Nat} : ∀ n, sumN n f ≠ 0 ↔ ∃ i, i < n ∧ f i ≠ 0 := by
  intro n
  constructor
  · intro h
    by_cases hx : ∃ i, i < n ∧ f i ≠ 0
    · exact hx
    · exact absurd (sumN_none n (fun i hi => by
        by_cases e : f i = 0
        · exact e
        · exact absurd ⟨i, hi, e⟩ hx)) h
  · rintro ⟨i, hi, h⟩ e
    have := sumN_term (f := f) n hi
    omega
/-- a key of the reference as one of the class -/
def cky (k : Nat) : Nat := k / 36 * 64 + k % 36
section SAMEMV
variable {c n m : Nat} {N : Nat → Nat → Int32} {P0 : Nat → Nat}
theorem gmv_iff (W : WFP n P0) (hn : n ≤ 36) (hok : okN c n N P0 m) {i f t : Nat} (hi : i < m) (ht : t < 36) : gmv c n N P0 m i (f * 64 + t) ≠ 0 ↔ mkE c n N P0 m i (em c n N P0 i) (f * 36 + t) = true := by
  obtain ⟨h1, -, -⟩ := eg_ok W hn hok hi
  unfold gmv mkE
  rw [sumN_ne, anyN_iff]
  constructor
  · rintro ⟨e, he, h⟩
    obtain ⟨-, -, z3, z4⟩ := h1 e he
    by_cases hq : (eg c n N P0 i e).2.2.1 * 64 + (eg c n N P0 i e).2.2.2 = f * 64 + t
    · rw [if_pos hq] at h
      refine ⟨e, he, ?_⟩
      rw [decide_eq_false h, decide_eq_true (show mky c n N P0 i e = f * 36 + t by show (eg c n N P0 i e).2.2.1 * 36 + (eg c n N P0 i e).2.2.2 = f * 36 + t; omega)]
      rfl
    · rw [if_neg hq] at h; exact absurd rfl h
  · rintro ⟨e, he, h⟩
    obtain ⟨-, -, z3, z4⟩ := h1 e he
    rw [Bool.and_eq_true] at h
    have hq : (eg c n N P0 i e).2.2.1 * 36 + (eg c n N P0 i e).2.2.2 = f * 36 + t := of_decide_eq_true h.1
    refine ⟨e, he, ?_⟩
    rw [if_pos (by omega)]
    simpa using h.2
theorem gmv_none (W : WFP n P0) (hn : n ≤ 36) (hok : okN c n N P0 m) {i k : Nat} (hi : i < m) (hk : n ≤ k % 64 ∨ n ≤ k / 64) : gmv c n N P0 m i k = 0 := by
  obtain ⟨h1, -, -⟩ := eg_ok W hn hok hi
  unfold gmv
  refine sumN_none _ (fun e he => ?_)
  obtain ⟨-, -, z3, z4⟩ := h1 e he
  exact if_neg (by omega)
theorem mk_none (W : WFP n P0) (hn : n ≤ 36) (hok : okN c n N P0 m) {i k : Nat} (hi : i < m) (hk : n ≤ k % 36 ∨ n ≤ k / 36) : mkE c n N P0 m i (em c n N P0 i) k = false := by
  cases hb : mkE c n N P0 m i (em c n N P0 i) k with
  | false => rfl
  | true =>
    unfold mkE at hb
    obtain ⟨e, he, h⟩ := anyN_iff.mp hb
    obtain ⟨-, -, z3, z4⟩ := (eg_ok W hn hok hi).1 e he
    rw [Bool.and_eq_true] at h
    have hq : (eg c n N P0 i e).2.2.1 * 36 + (eg c n N P0 i e).2.2.2 = k := of_decide_eq_true h.1
    omega
/-- the moves of a note, in their order -/
theorem moves_same (W : WFP n P0) (hn : n ≤ 36) (hok : okN c n N P0 m) {i : Nat} (hi : i < m) : (List.range (n * 64)).filter (fun k => !decide (gmv c n N P0 m i k = 0)) = ((List.range 1296).filter (mkE c n N P0 m i (em c n N P0 i))).map cky := by
  have e1 : (1296 : Nat) = 36 * 36 := rfl
  rw [grid_filter, e1, grid_filter]
  have cut : ∀ (g : Nat → List Nat), (∀ f, n ≤ f → g f = []) → (List.range 36).flatMap g = (List.range n).flatMap g := by
    intro g hg
    obtain ⟨d, hd⟩ : ∃ d, 36 = n + d := ⟨36 - n, by omega⟩
    rw [hd, List.range_add, List.flatMap_append]
    have : (List.map (fun x => n + x) (List.range d)).flatMap g = [] := by
      rw [List.flatMap_eq_nil_iff]
      intro a ha
      rw [List.mem_map] at ha
      obtain ⟨b, -, rfl⟩ := ha
      exact hg _ (Nat.le_add_right _ _)
    rw [this, List.append_nil]
  rw [cut _ (fun f hf => by
    rw [List.map_eq_nil_iff, List.filter_eq_nil_iff]
    intro t ht
    rw [List.mem_range] at ht
    rw [mk_none W hn hok hi (Or.inr (by omega))]; decide), List.map_flatMap]
  have : ∀ f, f < n → (((List.range 64).filter fun t => !decide (gmv c n N P0 m i (f * 64 + t) = 0)).map fun t => f * 64 + t) = (((List.range 36).filter fun t => mkE c n N P0 m i (em c n N P0 i) (f * 36 + t)).map fun t => f * 36 + t).map cky := by
    intro f hf
    rw [List.map_map]
    have f1 : (List.range 64).filter (fun t => !decide (gmv c n N P0 m i (f * 64 + t) = 0)) = (List.range 36).filter fun t => mkE c n N P0 m i (em c n N P0 i) (f * 36 + t) := by
      have e64 : (64 : Nat) = 36 + 28 := rfl
      have a1 : (List.range 64).filter (fun t => !decide (gmv c n N P0 m i (f * 64 + t) = 0)) = (List.range 36).filter (fun t => !decide (gmv c n N P0 m i (f * 64 + t) = 0)) := by
        rw [e64, List.range_add, List.filter_append]
        have : ((List.range 28).map fun x => 36 + x).filter (fun t => !decide (gmv c n N P0 m i (f * (36 + 28) + t) = 0)) = [] := by
          rw [List.filter_eq_nil_iff]
          intro a ha
          rw [List.mem_map] at ha
          obtain ⟨b, hb, rfl⟩ := ha
          rw [List.mem_range] at hb
          rw [gmv_none W hn hok hi (Or.inl (by omega))]; decide
        rw [this, List.append_nil]
      rw [a1]
      refine List.filter_congr (fun t ht => ?_)
      rw [List.mem_range] at ht
      have := gmv_iff W hn hok (f := f) hi ht
      cases hb : mkE c n N P0 m i (em c n N P0 i) (f * 36 + t) with
      | true =>
        have := this.mpr hb
        rw [decide_eq_false this]; rfl
      | false =>
        have : gmv c n N P0 m i (f * 64 + t) = 0 := by
          by_cases e : gmv c n N P0 m i (f * 64 + t) = 0
          · exact e
          · have := this.mp e
            rw [hb] at this; cases this
        rw [decide_eq_true this]; rfl
    rw [f1]
    refine List.map_congr_left (fun t ht => ?_)
    rw [List.mem_filter, List.mem_range] at ht
    show f * 64 + t = (f * 36 + t) / 36 * 64 + (f * 36 + t) % 36
    omega
  have fm : ∀ (l : List Nat) (g1 g2 : Nat → List Nat), (∀ f ∈ l, g1 f = g2 f) → l.flatMap g1 = l.flatMap g2 := by
    intro l
    induction l with
    | nil => intro _ _ _; rfl
    | cons a l ih =>
      intro g1 g2 h
      rw [List.flatMap_cons, List.flatMap_cons, h a List.mem_cons_self, ih g1 g2 (fun f hf => h f (List.mem_cons_of_mem _ hf))]
  exact fm _ _ _ (fun f hf => this f (List.mem_range.mp hf))
end SAMEMV
/-! a number in a list -/
theorem nth_in : ∀ (l : List Nat) (j : Nat), l.length < 2147483648 → j < l.length → nth l (nW j) = nW (l.getD j 0) := by
  intro l
  induction l with
  | nil => intro j _ h; exact absurd h (Nat.not_lt_zero _)
  | cons a l ih =>
    intro j hl hj
    have hl' : l.length + 1 < 2147483648 := hl
    have hj' : j < l.length + 1 := hj
    show (if nW j = 0 then nW a else nth l (nW j - 1)) = _
    cases j with
    | zero => exact if_pos rfl
    | succ j =>
      rw [if_neg (by
        show ¬ nW (j + 1) = nW 0
        rw [nW_eq (by omega) (by decide)]; omega)]
      have e : nW (j + 1) - 1 = nW j := by
        show nW (j + 1) - nW 1 = nW j
        rw [nW_sub (by omega), Nat.add_sub_cancel]
      rw [e, ih j (by omega) (by omega)]; rfl
theorem nth_out : ∀ (l : List Nat) (z : Int32), l.length < 2147483648 → (∀ j, j < l.length → z ≠ nW j) → nth l z = -1 := by
  intro l
  induction l with
  | nil => intro z _ _; rfl
  | cons a l ih =>
    intro z hl h
    have hl' : l.length + 1 < 2147483648 := hl
    show (if z = 0 then nW a else nth l (z - 1)) = _
    rw [if_neg (show ¬ z = 0 from h 0 (Nat.succ_pos _))]
    refine ih (z - 1) (by omega) (fun j hj e => h (j + 1) (Nat.succ_lt_succ hj) ?_)
    have := Int32.sub_add_cancel z 1
    rw [e] at this
    rw [← this]
    show nW j + nW 1 = nW (j + 1)
    rw [nW_add]
