/-! ===== the law behind the first board ===== -/
section LAWEND
variable {W : WSt}
theorem CI.hist {G : Mem} {d : Nat} (h : CI G d W) : W.2.1.length ≤ 8 := by
  obtain ⟨ro, l, K, h1, h2, h3⟩ := h
  exact h3.2.1.1.2
theorem lw_226 {G : Mem} {l1 : Int32} {d : Nat} (hC : CI G (d + 40) W) {K : Unit → Mem → Prop} (hK : ∀ G', K () G') : wS_law_226 l1 0 G 600073 7301549 K := by
  have hA := hC.aok
  have hs := aok_sz hA
  have hg := aok_gm hA
  unfold wS_law_226
  refine ig_ok (d := d + 20) (hC.mono (by omega)) (fun G1 C1 => ?_)
  rw [if_neg (by decide)]
  refine pl_undoable C1 (fun G2 C2 => ?_)
  dsimp only
  refine pl_games C2 (fun G3 C3 => ?_)
  dsimp only
  refine pl_count C3 (fun G4 C4 => ?_)
  dsimp only
  have h8 := hC.hist
  by_cases em : mN W.1 = 0
  · rw [if_pos (by rw [em]; rfl)]; exact hK _
  · rw [if_neg (by rw [lits.1, nW_eq (by omega) (by decide)]; exact em)]
    have dr : oDrop W = (.inl (nW (mN W.1 - 1)), ((W.1.1, W.1.2.1, W.1.2.2.1, W.1.2.2.2.1, W.1.2.2.2.2 - 1), rem8 W.2.1 W.1, W.2.2)) := by
      unfold oDrop
      rw [show aDrop W.1 = some (W.1.1, W.1.2.1, W.1.2.2.1, W.1.2.2.2.1, W.1.2.2.2.2 - 1) from if_neg em]
    refine wp_in dr (cdrop_ok C4) C4.ct (fun G5 C5 => ?_)
    rw [if_pos (by rw [lits.2.1, nW_sub (by omega)])]
    have rl := rem8_len (A := W.1) h8
    have rl0 : (rem8 W.2.1 W.1).length ≠ 0 := by
      rw [rl]; split <;> omega
    have un : oUndo ((W.1.1, W.1.2.1, W.1.2.2.1, W.1.2.2.2.1, W.1.2.2.2.2 - 1), rem8 W.2.1 W.1, W.2.2) = (.inl (nW ((rem8 W.2.1 W.1).length - 1)), (W.1, (rem8 W.2.1 W.1).dropLast, W.2.2)) := by
      unfold oUndo
      dsimp only
      rw [if_neg rl0, rem8_last h8]
    refine wp_in un (cundo_ok C5) C5.ct (fun G6 C6 => ?_)
    rw [if_pos (by
      show nW ((rem8 W.2.1 W.1).length - 1) = (if nW W.2.1.length + 1 < 8 then nW W.2.1.length + 1 else 8) - 1
      rw [lits.2.1, nW_add, show (8 : Int32) = nW 8 from rfl, rl]
      by_cases e : W.2.1.length < 8
      · rw [if_pos e]
        by_cases e2 : W.2.1.length + 1 < 8
        · rw [if_pos ((nW_lt (by omega) (by decide)).mpr e2), nW_sub (by omega)]
        · rw [if_neg (by rw [nW_lt (by omega) (by decide)]; exact e2), nW_sub (by decide), show W.2.1.length + 1 = 8 by omega]
      · rw [if_neg e, if_neg (by rw [nW_lt (by omega) (by decide)]; omega), nW_sub (by decide)])]
    refine pl_games C6 (fun G7 C7 => ?_)
    dsimp only
    rw [if_pos ((lgc_eq hg.2 hg.2).mpr rfl)]
    refine pl_count C7 (fun G8 C8 => ?_)
    dsimp only
    rw [if_pos rfl]
    refine ig_ok (d := 0) (C8.mono (show 0 + 1 + mN W.1 ≤ _ by omega)) (fun G9 C9 => ?_)
    rw [if_neg (by decide)]
    exact hK _
end LAWEND
theorem lw_200 {G : Mem} {l1 : Int32} {W : WSt} (hC : CI G 100 W) {K : Unit → Mem → Prop} (hK : ∀ G', K () G') : wS_law_200 l1 0 G 600073 7301549 K := by
  unfold wS_law_200
  refine loopW_by (fun k s G' => ∃ j W', j ≤ 9 ∧ k = 9 - j ∧ s = nW j ∧ CI G' (100 - j) W') K (fun k s G' hv Q h1 h2 => ?_) FU 9 _ G (by show _ < 100000; omega) ⟨0, W, Nat.zero_le _, rfl, rfl, hC⟩
  obtain ⟨j, W', hj, rfl, rfl, C⟩ := hv
  unfold wS_law_203
  by_cases e : j < 9
  · rw [if_neg (by rw [show (9 : Int32) = nW 9 from rfl, nW_le (by decide) (by omega)]; omega)]
    refine ac_ok (d := 98 - j) (C.mono (by omega)) (fun G2 W2 C2 => ?_)
    rw [if_neg (by decide), lits.2.1, nW_add]
    exact h1 (9 - (j + 1)) _ _ (by omega) ⟨j + 1, W2, by omega, rfl, rfl, C2.mono (by omega)⟩
  · rw [if_pos (by rw [show (9 : Int32) = nW 9 from rfl, nW_le (by decide) (by omega)]; omega)]
    exact lw_226 (d := 51) (C.mono (by omega)) (fun G' => h2 _ _ (hK G'))
