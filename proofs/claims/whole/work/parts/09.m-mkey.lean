/-! ===== the reference: the move with a number ===== -/
theorem i32_nn {z : Int32} (h : ¬ z < nW 0) : ∃ k, k < 2147483648 ∧ z = nW k := by
  have h0 : 0 ≤ z.toInt := by
    by_cases q : 0 ≤ z.toInt
    · exact q
    · refine absurd (Int32.lt_iff_toInt_lt.mpr ?_) h
      rw [nW_int (by decide)]
      omega
  have h1 := z.toInt_lt
  refine ⟨z.toInt.toNat, by omega, Int32.toInt_inj.mp ?_⟩
  rw [nW_int (by omega)]
  omega
theorem isIn_cnt {n : Nat} (hn : n ≤ 1296) (z : Int32) {G : Mem} : (∃ j, j < n ∧ z = nW j ∧ fX7_isIn z (nW 0) (nW n - nW 1) G = some (nW 1, G)) ∨ ((∀ j, j < n → z ≠ nW j) ∧ fX7_isIn z (nW 0) (nW n - nW 1) G = some (nW 0, G)) := by
  unfold fX7_isIn fX7_isIn_0 fX7_isIn_14 fX7_isIn_15
  simp only [lits]
  by_cases hz : z < nW 0
  · right
    refine ⟨fun j hj e => ?_, by rw [if_pos hz]; rfl⟩
    rw [e] at hz
    exact nW_neg_lt (by omega) hz
  · obtain ⟨k, hk, rfl⟩ := i32_nn hz
    rw [if_neg hz]
    by_cases hn0 : n = 0
    · right
      subst hn0
      refine ⟨fun j hj => absurd hj (Nat.not_lt_zero _), ?_⟩
      have : nW 0 - nW 1 < nW k := by
        rw [Int32.lt_iff_toInt_lt, nW_int hk]
        have : (nW 0 - nW 1).toInt = -1 := by decide
        rw [this]; omega
      rw [if_pos this]; rfl
    · rw [nW_sub (by omega)]
      by_cases hkn : k < n
      · left
        exact ⟨k, hkn, rfl, by rw [if_neg (by rw [nW_lt (by omega) hk]; omega)]; rfl⟩
      · right
        refine ⟨fun j hj e => ?_, by rw [if_pos (by rw [nW_lt (by omega) hk]; omega)]; rfl⟩
        rw [nW_eq hk (by omega)] at e
        omega
section MKEY
variable {G : Mem} {o : Nat} {c r m : Nat} {N : Nat → Nat → Int32} {P0 : Nat → Nat} {x : Nat → Nat → Int32} {y : Nat → Nat → Int64}
/-- the keys of a note's moves -/
abbrev mks (c n : Nat) (N : Nat → Nat → Int32) (P0 : Nat → Nat) (m i : Nat) : List Nat := (List.range 1296).filter (mkE c n N P0 m i (em c n N P0 i))
theorem move_ok (h : MSh G o) (hA : AOK c r N P0 m) (hR : MRep x y o c r N P0 m) {i : Nat} (hi : i < m) (z : Int32) :
    ∃ x', fX7_move o (nW i) z (wIJ G x y) = some (nth (mks c (c * r) N P0 m i) z, wIJ G x' y) ∧ ∀ b, b ≠ o + 15 → x' b = x b := by
  obtain ⟨x', e1, e2, e3⟩ := marks_ok h hA hR hi
  refine ⟨x', ?_, e2⟩
  have hlen : cnt 1296 (mkE c (c * r) N P0 m i (em c (c * r) N P0 i)) = (mks c (c * r) N P0 m i).length := cnt_filter 1296
  have hle : (mks c (c * r) N P0 m i).length ≤ 1296 := by rw [← hlen]; exact cnt_le 1296
  generalize hmk : mkE c (c * r) N P0 m i (em c (c * r) N P0 i) = mk at *
  have hl : mks c (c * r) N P0 m i = (List.range 1296).filter mk := by unfold mks; rw [hmk]
  rw [hl] at hlen hle ⊢
  unfold fX7_move fX7_move_0
  simp only [lits]
  rw [ck_wij, ck_ok h.t, e1, Option.bind_some, hlen]
  rcases isIn_cnt hle z (G := wIJ G x' y) with ⟨j, hj, rfl, q⟩ | ⟨hj, q⟩
  · rw [q, Option.bind_some, if_neg (show ¬ nW 1 = nW 0 by decide), nth_in _ j (by omega) hj]
    have rd : ∀ k, k < 1296 → gA (wIJ G x' y) 3 (o + 15) (nW k) = some (bI (mk k)) := fun k hk => by
      rw [h.r20.rd hk (by decide), e3 k hk]
    have st : ∀ q k, q < 2147483648 → k < 1296 → fX7_move_22 o (nW q) (nW k) (wIJ G x' y) = if mk k = true then (if q = 0 then some (Sum.inr (nW k), wIJ G x' y) else some (Sum.inl (nW (q - 1), nW (k + 1)), wIJ G x' y)) else some (Sum.inl (nW q, nW (k + 1)), wIJ G x' y) := fun q k hq hk => by
      unfold fX7_move_22 fX7_move_36 fX7_move_49 fX7_move_55
      simp only [lits, nW_add]
      rw [gR_wij, h.g20, Option.bind_some, rd k hk, Option.bind_some]
      cases hb : mk k with
      | false => rw [if_pos (show bI false = nW 0 from rfl), Option.bind_some, rd k hk, hb, Option.bind_some, if_pos (show bI false = nW 0 from rfl), if_neg (by decide)]
      | true =>
        rw [if_neg (show ¬ bI true = nW 0 from bIt0), if_pos rfl]
        by_cases h0 : q = 0
        · rw [if_pos (by rw [nW_le hq (by decide)]; omega), if_pos h0]; rfl
        · rw [if_neg (by rw [nW_le hq (by decide)]; omega), if_neg h0, Option.bind_some, rd k hk, hb, Option.bind_some, if_neg (show ¬ bI true = nW 0 from bIt0)]
          have : nW q + -nW 1 = nW (q - 1) := by
            rw [← nW_sub (by omega), Int32.sub_eq_add_neg]
          rw [this]
    have main : ∀ d k q fu, k + d = 1296 → q < ((List.range' k d).filter mk).length → d < fu → loopM (fun (s : Int32 × Int32) G => fX7_move_22 o s.1 s.2 G) fu (nW q, nW k) (wIJ G x' y) = some (nW (((List.range' k d).filter mk).getD q 0), wIJ G x' y) := by
      intro d
      induction d with
      | zero => intro k q fu _ hq _; exact absurd hq (Nat.not_lt_zero _)
      | succ d ih =>
        intro k q fu hk hq hfu
        obtain ⟨fu, rfl⟩ : ∃ j, fu = j + 1 := ⟨fu - 1, by omega⟩
        have hq2 : q < 2147483648 := by
          have : ((List.range' k (d + 1)).filter mk).length ≤ (List.range' k (d + 1)).length := List.length_filter_le _ _
          rw [List.length_range'] at this
          omega
        rw [List.range'_succ] at hq ⊢
        unfold loopM
        show (fX7_move_22 o (nW q) (nW k) (wIJ G x' y)).bind _ = _
        rw [st q k hq2 (by omega)]
        cases hb : mk k with
        | false =>
          rw [List.filter_cons_of_neg (by rw [hb]; decide)] at hq ⊢
          rw [if_neg (by decide)]
          exact ih (k + 1) q fu (by omega) hq (by omega)
        | true =>
          rw [List.filter_cons_of_pos hb] at hq ⊢
          rw [if_pos rfl]
          cases q with
          | zero => rw [if_pos rfl]; rfl
          | succ q =>
            rw [if_neg (Nat.succ_ne_zero q)]
            exact ih (k + 1) q fu (by omega) (Nat.lt_of_succ_lt_succ hq) (by omega)
    have := main 1296 0 j FU rfl (by rw [← List.range_eq_range']; exact hj) (by show 1296 < 100000; decide)
    rw [← List.range_eq_range'] at this
    exact this
  · rw [q, Option.bind_some, if_pos rfl, nth_out _ z (by omega) hj]
    rfl
end MKEY
