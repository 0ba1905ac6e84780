/-! ===== an act ===== -/
theorem i32_at {v : Int32} {b : Nat} (h : 0 ≤ v.toInt ∧ v.toInt < b) : ∃ i, i < b ∧ v = nW i := by
  have := Int32.toInt_lt v
  exact ⟨v.toInt.toNat, by omega, Int32.toInt_inj.mp (by rw [nW_int (by omega)]; omega)⟩
theorem std_nat {a b : Nat} (h : a < b) (hb : b < 100) : Std (nW a) b := Or.inr (by rw [nW_int (by omega)]; omega)
section ACTS
variable {d : Nat} {W : WSt}
theorem ac_52 {G : Mem} {K : Int32 → Mem → Prop} {v : Int32} (h : K 1 G) : wS_acts_52 v v G 600073 7301549 K := by
  unfold wS_acts_52
  rw [if_pos rfl]
  unfold wS_acts_60
  exact ⟨Or.inr rfl, h⟩
theorem ac_ok {G : Mem} (hC : CI G (d + 2) W) {K : Int32 → Mem → Prop} (hK : ∀ G' W', CI G' (d + 1) W' → K 1 G') : wS_acts 0 G 600073 7301549 K := by
  have hA := hC.aok
  have hs := aok_sz hA
  have c0 : ¬ nW W.1.1 = (0 : Int32) := by rw [lits.1, nW_eq (by omega) (by decide)]; omega
  unfold wS_acts wS_acts_0
  refine pl_count hC (fun G1 C1 => ⟨by decide, fun v2 _ => ?_⟩)
  dsimp only
  by_cases e0 : v2 = 0
  · rw [if_pos e0]
    by_cases em : mN W.1 = 0
    · have dr : oDrop W = (.inr 1, W) := by
        unfold oDrop
        rw [show aDrop W.1 = none from if_pos em]
      refine wp_ex dr (cdrop_ok C1) C1.ct (by decide) (fun G2 C2 => ?_)
      rw [em, if_pos (show nW 0 = (0 : Int32) from rfl)]
      exact ac_52 (hK _ _ C2)
    · have dr : oDrop W = (.inl (nW (mN W.1 - 1)), ((W.1.1, W.1.2.1, W.1.2.2.1, W.1.2.2.2.1, W.1.2.2.2.2 - 1), rem8 W.2.1 W.1, W.2.2)) := by
        unfold oDrop
        rw [show aDrop W.1 = some (W.1.1, W.1.2.1, W.1.2.2.1, W.1.2.2.2.1, W.1.2.2.2.2 - 1) from if_neg em]
      refine wp_in dr (cdrop_ok C1) C1.ct (fun G2 C2 => ?_)
      rw [if_neg (by rw [lits.1, nW_eq (by omega) (by decide)]; exact em), lits.2.1, nW_sub (by omega)]
      exact ac_52 (hK _ _ (C2.mono (by omega)))
  · rw [if_neg e0]
    by_cases e1 : v2 = 1
    · rw [if_pos e1]
      by_cases em : mN W.1 = 0
      · rw [if_pos (by rw [em]; rfl)]
        have cl : oClar W 0 0 0 = (.inr 2, W) := by
          unfold oClar
          have : ixZ (0 : Int32) W.1.2.2.2.2 = none := by
            unfold ixZ
            rw [if_neg]
            have em : W.1.2.2.2.2 = 0 := em
            rw [em]; decide
          rw [this]
        refine wp_ex cl (cclarify_ok C1) C1.ct (by decide) (fun G2 C2 => ?_)
        rw [if_pos (show hsL_clarify 2 = (-17 : Int32) from rfl)]
        unfold wS_acts_82
        exact ⟨Or.inr rfl, hK _ _ C2⟩
      · rw [if_neg (by rw [lits.1, nW_eq (by omega) (by decide)]; exact em)]
        have ci : (nW (mN W.1)).toInt = mN W.1 := nW_int (by omega)
        refine ⟨by rw [ci]; omega, fun v12 hv => ?_⟩
        rw [ci] at hv
        obtain ⟨i, hi, rfl⟩ := i32_at hv
        have hl := mov_len hA hi
        refine wp_doubt C1 hi (fun G2 C2 => ?_)
        have cl : (nW (oMoves W.1 i).length).toInt = (oMoves W.1 i).length := nW_int (by omega)
        refine ⟨by rw [cl]; omega, fun v18 hv2 => ?_⟩
        rw [cl] at hv2
        obtain ⟨j, hj, rfl⟩ := i32_at hv2
        have mm := mov_mem hj
        have mo := mov_ok hA hi mm
        obtain ⟨co1, co2⟩ := clar_ok hA hi mm
        refine wp_orig C2 hi hj (fun G3 C3 => ?_)
        refine wp_with C3 hi hj (fun G4 C4 => ?_)
        generalize (oMoves W.1 i).getD j 0 = k at mm mo co1 co2 ⊢
        have hs2 : nN W.1 ≤ 36 := hs.2.1
        have k64 : k / 64 < 2147483648 := by omega
        refine pl_cols C4 (fun G5 C5 => ⟨c0, ?_⟩)
        dsimp only
        refine pl_cols C5 (fun G6 C6 => ⟨c0, ?_⟩)
        dsimp only
        rw [nW_rem k64 (by omega), nW_div k64 (by omega)]
        have hc0 : 0 < W.1.1 := by omega
        have b1 : k / 64 % W.1.1 < W.1.1 := Nat.mod_lt _ hc0
        have b2 : k / 64 / W.1.1 < W.1.2.1 := Nat.div_lt_of_lt_mul mo.1.1
        have s1 : sttd (nW (k / 64 % W.1.1)) W.1.1 = true := (std_nat b1 (by omega)).s (by omega)
        have s2 : sttd (nW (k / 64 / W.1.1)) W.1.2.1 = true := (std_nat b2 (by omega)).s (by omega)
        have cl : oClar W (nW i) (nW (k / 64 % W.1.1)) (nW (k / 64 / W.1.1)) = (.inl (nW (pcA (W.1.1, W.1.2.1, orgN W.1.2.2.1 i (nW (k / 64 % W.1.1)) (nW (k / 64 / W.1.1)), W.1.2.2.2.1, W.1.2.2.2.2))), ((W.1.1, W.1.2.1, orgN W.1.2.2.1 i (nW (k / 64 % W.1.1)) (nW (k / 64 / W.1.1)), W.1.2.2.2.1, W.1.2.2.2.2), rem8 W.2.1 W.1, W.2.2)) := by
          unfold oClar
          rw [ixZ_nW hi (by omega)]
          dsimp only
          rw [s1, s2, if_neg (by decide), show aOrg W.1 i (nW (k / 64 % W.1.1)) (nW (k / 64 / W.1.1)) = some (W.1.1, W.1.2.1, orgN W.1.2.2.1 i (nW (k / 64 % W.1.1)) (nW (k / 64 / W.1.1)), W.1.2.2.2.1, W.1.2.2.2.2) from if_pos co1]
        refine wp_in cl (cclarify_ok C6) C6.ct (fun G7 C7 => ?_)
        have A7 := C7.aok
        have p7 := aok_pos A7 (Nat.le_refl _)
        have q7 := (aok_run A7 (Nat.le_refl _)).1
        have g7 := aok_gm A7
        rw [if_neg (by
          show ¬ nW (pcA (W.1.1, W.1.2.1, orgN W.1.2.2.1 i (nW (k / 64 % W.1.1)) (nW (k / 64 / W.1.1)), W.1.2.2.2.1, W.1.2.2.2.2)) < 1
          rw [lits.2.1, nW_lt (by show pcA _ < _; exact Nat.lt_of_le_of_lt q7 (by decide)) (by decide)]
          exact Nat.not_lt.mpr p7)]
        refine pl_games C7 (fun G8 C8 => ?_)
        dsimp only
        rw [if_neg (by
          show ¬ lg_cmp (Int64.ofNat (gmA (W.1.1, W.1.2.1, orgN W.1.2.2.1 i (nW (k / 64 % W.1.1)) (nW (k / 64 / W.1.1)), W.1.2.2.2.1, W.1.2.2.2.2))) (Int64.ofNat (gmI W.1 i k)) < 0
          rw [lgc_lt g7.2 mo.2.1.2]
          exact Nat.not_lt.mpr co2)]
        refine wp_note C8 (i := i) hi (cnoteI_ok C8 (by decide) rfl) (fun G9 C9 => ?_)
        refine pl_cols C9 (fun G10 C10 => ⟨c0, ?_⟩)
        dsimp only
        rw [nW_div k64 (by omega), if_pos (show orgN W.1.2.2.1 i (nW (k / 64 % W.1.1)) (nW (k / 64 / W.1.1)) i 2 = nW (k / 64 / W.1.1) by
          show (if i = i then fun j => if j = 1 then nW (k / 64 % W.1.1) else if j = 2 then nW (k / 64 / W.1.1) else W.1.2.2.1 i j else W.1.2.2.1 i) 2 = _
          rw [if_pos rfl]; rfl)]
        unfold wS_acts_175
        exact ⟨Or.inr rfl, hK _ _ (C10.mono (by omega))⟩
    · rw [if_neg e1]
      exact nt_ok C1 (fun G2 W2 C2 => ⟨Or.inr rfl, hK _ _ C2⟩)
end ACTS
