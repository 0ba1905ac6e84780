/-! ===== the check of games: the notes; the whole check ===== -/
theorem opI_not {s v : Int32} (h : opI s v = true) (hs : ¬ s < (0 : Int32)) : v = s := by
  unfold opI at h
  rw [Bool.or_eq_true] at h
  rcases h with h | h
  · have e : s = -1 := of_decide_eq_true h
    rw [e] at hs
    exact absurd (by decide) hs
  · exact (of_decide_eq_true h).symm
section IGN
variable {W : WSt}
/-- a move's number: ascending with the move -/
def mky (k : Nat) : Nat := k / 64 * 36 + k % 64
abbrev mvA (A : ASt) (i j : Nat) : Nat := (oMoves A i).getD j 0
theorem mvA_lt {A : ASt} {i j j' : Nat} (hj : j' < (oMoves A i).length) (h : j < j') : mvA A i j < mvA A i j' := by
  have hp := List.pairwise_iff_getElem.mp (mov_asc (A := A) (i := i)) j j' (by omega) hj h
  unfold mvA
  rw [List.getD_eq_getElem?_getD, List.getD_eq_getElem?_getD, List.getElem?_eq_getElem (by omega), List.getElem?_eq_getElem hj]
  exact hp
def kyB (A : ASt) (i j : Nat) : Int32 := if j = 0 then -1 else nW (mky (mvA A i (j - 1)))
abbrev smB (A : ASt) (i j : Nat) : Nat := sumN j fun e => gmI A i (mvA A i e)
theorem smB_all {A : ASt} (h : AAOK A) {i : Nat} (hi : i < mN A) : smB A i (oMoves A i).length = gmA A := by
  rw [← mov_sum h hi]
  exact sml_get (f := gmI A i) (z := 0) (oMoves A i)
section ONE
variable {d : Nat} {c1 c2 : Nat} {i j : Nat} {l1 : Int64} {l3 l4 l5 : Int32} {K : ((Int64 × Int32 × Int32) ⊕ ((Int32 × Int32 × Int32) ⊕ Int32)) → Mem → Prop} {l8 : Int64} {l10 : Int32}
theorem ig_447 {G : Mem} {l7 : Int32} (hK : K (.inl (l8, l10, nW (j + 1))) G) : wL_isGame_447 0 l1 l3 l4 l5 (nW i) l7 l8 l10 (nW j) G c1 c2 K := by
  unfold wL_isGame_447
  rw [lits.2.1, nW_add]
  exact hK
theorem ig_420 {G : Mem} {l7 : Int32} {t : Nat} (hC : CI G (d + 1) W) (hi : i < mN W.1) (ht : t < 2147483648) (ho : opI (W.1.2.2.1 i 4) (nW (t / W.1.1)) = true) (hK : ∀ G', CI G' (d + 1) W → K (.inl (l8, l10, nW (j + 1))) G') : wL_isGame_420 0 l1 l3 l4 l5 (nW i) l7 l8 l10 (nW j) (nW t) G c1 c2 K := by
  have hs := aok_sz hC.aok
  unfold wL_isGame_420
  refine wp_note hC hi (cnoteI_ok hC (by decide) rfl) (fun G1 C1 => ?_)
  by_cases e : W.1.2.2.1 i 4 < (0 : Int32)
  · rw [if_pos e]; exact ig_447 (hK G1 C1)
  · rw [if_neg e]
    refine pl_cols C1 (fun G2 C2 => ⟨?_, ?_⟩)
    · dsimp only; rw [lits.1, nW_eq (by omega) (by decide)]; omega
    · refine wp_note C2 hi (cnoteI_ok C2 (by decide) rfl) (fun G3 C3 => ?_)
      rw [nW_div ht (by omega), if_pos (opI_not ho e)]
      exact ig_447 (hK G3 C3)
theorem ig_395 {G : Mem} {l7 : Int32} {t : Nat} (hC : CI G (d + 1) W) (hi : i < mN W.1) (ht : t < 2147483648) (ho3 : opI (W.1.2.2.1 i 3) (nW (t % W.1.1)) = true) (ho : opI (W.1.2.2.1 i 4) (nW (t / W.1.1)) = true) (hK : ∀ G', CI G' (d + 1) W → K (.inl (l8, l10, nW (j + 1))) G') : wL_isGame_395 0 l1 l3 l4 l5 (nW i) l7 l8 l10 (nW j) (nW t) G c1 c2 K := by
  have hs := aok_sz hC.aok
  unfold wL_isGame_395
  refine wp_note hC hi (cnoteI_ok hC (by decide) rfl) (fun G1 C1 => ?_)
  by_cases e : W.1.2.2.1 i 3 < (0 : Int32)
  · rw [if_pos e]; exact ig_420 C1 hi ht ho hK
  · rw [if_neg e]
    refine pl_cols C1 (fun G2 C2 => ⟨?_, ?_⟩)
    · dsimp only; rw [lits.1, nW_eq (by omega) (by decide)]; omega
    · refine wp_note C2 hi (cnoteI_ok C2 (by decide) rfl) (fun G3 C3 => ?_)
      rw [nW_rem ht (by omega), if_pos (opI_not ho3 e)]
      exact ig_420 C3 hi ht ho hK
theorem ig_370 {G : Mem} {l7 : Int32} {f t : Nat} (hC : CI G (d + 1) W) (hi : i < mN W.1) (hf : f < 2147483648) (ht : t < 2147483648) (ho2 : opI (W.1.2.2.1 i 2) (nW (f / W.1.1)) = true) (ho3 : opI (W.1.2.2.1 i 3) (nW (t % W.1.1)) = true) (ho : opI (W.1.2.2.1 i 4) (nW (t / W.1.1)) = true) (hK : ∀ G', CI G' (d + 1) W → K (.inl (l8, l10, nW (j + 1))) G') : wL_isGame_370 0 l1 l3 l4 l5 (nW i) l7 l8 l10 (nW j) (nW f) (nW t) G c1 c2 K := by
  have hs := aok_sz hC.aok
  unfold wL_isGame_370
  refine wp_note hC hi (cnoteI_ok hC (by decide) rfl) (fun G1 C1 => ?_)
  by_cases e : W.1.2.2.1 i 2 < (0 : Int32)
  · rw [if_pos e]; exact ig_395 C1 hi ht ho3 ho hK
  · rw [if_neg e]
    refine pl_cols C1 (fun G2 C2 => ⟨?_, ?_⟩)
    · dsimp only; rw [lits.1, nW_eq (by omega) (by decide)]; omega
    · refine wp_note C2 hi (cnoteI_ok C2 (by decide) rfl) (fun G3 C3 => ?_)
      rw [nW_div hf (by omega), if_pos (opI_not ho2 e)]
      exact ig_395 C3 hi ht ho3 ho hK
/-- one move -/
theorem ig_move {G : Mem} (hC : CI G (d + 1) W) (hi : i < mN W.1) (hj : j < (oMoves W.1 i).length) (hK : ∀ G', CI G' (d + 1) W → K (.inl (Int64.ofNat (smB W.1 i (j + 1)), kyB W.1 i (j + 1), nW (j + 1))) G') : wL_isGame_267 0 l1 l3 l4 l5 (nW i) (nW (oMoves W.1 i).length) (Int64.ofNat (smB W.1 i j)) (kyB W.1 i j) (nW j) G c1 c2 K := by
  have hA := hC.aok
  have hs := aok_sz hA
  have hl := mov_len hA hi
  have mm := mov_mem hj
  obtain ⟨⟨m1, m2⟩, ⟨m3, m4⟩, ⟨m5, m6⟩, m7, m8⟩ := mov_ok hA hi mm
  have hs2 : nN W.1 ≤ 36 := hs.2.1
  have hkey : ¬ nW (mky (mvA W.1 i j)) ≤ kyB W.1 i j := by
    have q3 : mvA W.1 i j / 64 < nN W.1 := m1
    have q4 : mvA W.1 i j % 64 < nN W.1 := m2
    have b1 : mky (mvA W.1 i j) < 2147483648 := by unfold mky; omega
    unfold kyB
    by_cases e : j = 0
    · rw [if_pos e]
      exact nW_le_m1 b1
    · rw [if_neg e]
      have hlt := mvA_lt (A := W.1) (i := i) (j := j - 1) hj (by omega)
      obtain ⟨⟨n1, n2⟩, -⟩ := mov_ok hA hi (mov_mem (show j - 1 < (oMoves W.1 i).length by omega))
      have q1 : mvA W.1 i (j - 1) / 64 < nN W.1 := n1
      have q2 : mvA W.1 i (j - 1) % 64 < nN W.1 := n2
      unfold mky at b1 ⊢
      rw [nW_le b1 (by omega)]
      omega
  have e1 : kyB W.1 i (j + 1) = nW (mky (mvA W.1 i j)) := by
    unfold kyB
    rw [if_neg (by omega), Nat.add_sub_cancel]
  have e2 : Int64.ofNat (smB W.1 i (j + 1)) = Int64.ofNat (smB W.1 i j) + Int64.ofNat (gmI W.1 i (mvA W.1 i j)) := Int64.ofNat_add _ _
  rw [e1, e2] at hK
  unfold wL_isGame_267
  rw [if_neg (by rw [nW_le (by omega) (by omega)]; omega)]
  refine wp_orig hC hi hj (fun G1 C1 => ?_)
  refine wp_targ C1 hi hj (fun G2 C2 => ?_)
  have ek : nW (mvA W.1 i j / 64) * (36 : Int32) + nW (mvA W.1 i j % 64) = nW (mky (mvA W.1 i j)) := by
    rw [show (36 : Int32) = nW 36 from rfl, nW_mul, nW_add]; rfl
  rw [show nW ((oMoves W.1 i).getD j 0 / 64) * (36 : Int32) + nW ((oMoves W.1 i).getD j 0 % 64) = nW (mky (mvA W.1 i j)) from ek, if_neg hkey]
  refine wp_with C2 hi hj (fun G3 C3 => ?_)
  rw [if_pos (show (0 : Int32) ≤ lg_cmp (Int64.ofNat (gmI W.1 i ((oMoves W.1 i).getD j 0))) (1 : Int64) from (lgc_ge (b := 1) m4 (by decide)).mpr m3)]
  refine wp_with C3 hi hj (fun G4 C4 => ?_)
  refine wp_note C4 hi (cnoteI_ok C4 (by decide) rfl) (fun G5 C5 => ?_)
  by_cases e : W.1.2.2.1 i 1 < (0 : Int32)
  · rw [if_pos e]
    exact ig_370 C5 hi (by omega) (by omega) m6 m7 m8 hK
  · rw [if_neg e]
    refine pl_cols C5 (fun G6 C6 => ⟨?_, ?_⟩)
    · dsimp only; rw [lits.1, nW_eq (by omega) (by decide)]; omega
    · refine wp_note C6 hi (cnoteI_ok C6 (by decide) rfl) (fun G7 C7 => ?_)
      rw [nW_rem (by omega) (by omega), if_pos (opI_not m5 e)]
      exact ig_370 C7 hi (by omega) (by omega) m6 m7 m8 hK
end ONE
/-- one note; it costs an exception -/
theorem ig_note {d i : Nat} {l3 : Int32} {G : Mem} (hC : CI G (d + 2) W) (hi : i < mN W.1) {K : ((Int32 × Int32 × Int32) ⊕ Int32) → Mem → Prop} (hK : ∀ G', CI G' (d + 1) W → K (.inl (nW (mdS W.1 (i + 1)).2, (mdS W.1 (i + 1)).1, nW (i + 1))) G') :
    loopW (fun (s : Int64 × Int32 × Int32) G K => wL_isGame_267 0 (Int64.ofNat (gmA W.1)) l3 (nW (mdS W.1 i).2) (mdS W.1 i).1 (nW i) (nW (oMoves W.1 i).length) s.1 s.2.1 s.2.2 G 600073 7301549 K) FU ((0 : Int64), (-1 : Int32), (0 : Int32)) G K := by
  have hA := hC.aok
  have hl := mov_len hA hi
  have hg := aok_gm hA
  refine loopW_by (fun k s G' => ∃ j, j ≤ (oMoves W.1 i).length ∧ k = (oMoves W.1 i).length - j ∧ s = (Int64.ofNat (smB W.1 i j), kyB W.1 i j, nW j) ∧ CI G' (d + 2) W) K (fun k s G' hv Q h1 h2 => ?_) FU (oMoves W.1 i).length _ G (by show _ < 100000; omega) ⟨0, Nat.zero_le _, rfl, rfl, hC⟩
  obtain ⟨j, hj, rfl, rfl, C⟩ := hv
  dsimp only
  by_cases e : j < (oMoves W.1 i).length
  · exact ig_move C hi e (fun G2 C2 => h1 ((oMoves W.1 i).length - (j + 1)) _ _ (by omega) ⟨j + 1, by omega, rfl, rfl, C2⟩)
  · have e : j = (oMoves W.1 i).length := by omega
    subst e
    have md : ∀ q, q ≤ mN W.1 → (mdS W.1 q).2 ≤ 2304 := by
      intro q
      induction q with
      | zero => intro _; exact (by decide : 1 ≤ 2304)
      | succ q ih =>
        intro hq
        show (if (oMoves W.1 q).length ≤ (mdS W.1 q).2 then mdS W.1 q else (nW q, (oMoves W.1 q).length)).2 ≤ 2304
        by_cases e : (oMoves W.1 q).length ≤ (mdS W.1 q).2
        · rw [if_pos e]; exact ih (by omega)
        · rw [if_neg e]; exact (mov_len hA (show q < mN W.1 by omega)).2
    have mdi := md i (by omega)
    unfold wL_isGame_267
    rw [if_pos (by rw [nW_le (by omega) (by omega)]; omega), smB_all hA hi]
    unfold wL_isGame_453
    rw [if_pos ((lgc_eq hg.2 hg.2).mpr rfl)]
    refine wp_origx C hi (fun G1 C1 => ?_)
    rw [if_pos rfl]
    have ms : mdS W.1 (i + 1) = if (oMoves W.1 i).length ≤ (mdS W.1 i).2 then mdS W.1 i else (nW i, (oMoves W.1 i).length) := rfl
    rw [ms] at hK
    by_cases el : (oMoves W.1 i).length ≤ (mdS W.1 i).2
    · rw [if_pos ((nW_le (by omega) (by omega)).mpr el)]
      rw [if_pos el] at hK
      unfold wL_isGame_490
      rw [lits.2.1, nW_add]
      exact h2 _ _ (hK G1 C1)
    · rw [if_neg (by rw [nW_le (by omega) (by omega)]; omega)]
      rw [if_neg el] at hK
      unfold wL_isGame_490
      rw [lits.2.1, nW_add]
      exact h2 _ _ (hK G1 C1)
/-- all notes -/
theorem ig_notes {d : Nat} {G : Mem} (hC : CI G (d + 1 + mN W.1) W) {K : Int32 → Mem → Prop} (hK : ∀ G', CI G' (d + 1) W → K 1 G') :
    loopW (fun (s : Int32 × Int32 × Int32) G K => wL_isGame_244 0 (Int64.ofNat (gmA W.1)) (nW (mN W.1)) s.1 s.2.1 s.2.2 G 600073 7301549 K) FU ((1 : Int32), (-1 : Int32), (0 : Int32)) G K := by
  have hs := aok_sz hC.aok
  refine loopW_by (fun k s G' => ∃ i, i ≤ mN W.1 ∧ k = mN W.1 - i ∧ s = (nW (mdS W.1 i).2, (mdS W.1 i).1, nW i) ∧ CI G' (d + 1 + (mN W.1 - i)) W) K (fun k s G' hv Q h1 h2 => ?_) FU (mN W.1) _ G (by show _ < 100000; omega) ⟨0, Nat.zero_le _, rfl, rfl, hC⟩
  obtain ⟨i, hi, rfl, rfl, C⟩ := hv
  dsimp only
  unfold wL_isGame_244
  by_cases e : i < mN W.1
  · rw [if_neg (by rw [nW_le (by omega) (by omega)]; omega)]
    have C : CI G' (d + (mN W.1 - (i + 1)) + 2) W := C.mono (by omega)
    refine wp_doubt C e (fun G1 C1 => ?_)
    exact ig_note C1 e (fun G2 C2 => h1 (mN W.1 - (i + 1)) _ _ (by omega) ⟨i + 1, by omega, rfl, rfl, C2.mono (by omega)⟩)
  · have e : i = mN W.1 := by omega
    subst e
    rw [if_pos (by rw [nW_le (by omega) (by omega)]; omega)]
    have C : CI G' (d + 1) W := C.mono (by omega)
    unfold wL_isGame_496
    refine pl_most C (fun G1 C1 => ?_)
    dsimp only
    rw [if_pos rfl]
    refine pl_cons C1 (fun G2 C2 => ?_)
    dsimp only
    rw [if_pos (show nW 0 = (0 : Int32) from rfl)]
    unfold wL_isGame_517
    exact ⟨Or.inr rfl, h2 _ _ (hK G2 C2)⟩
/-- the check of games answers true -/
theorem ig_ok {d : Nat} {G : Mem} (hC : CI G (d + 1 + mN W.1) W) {K : Int32 → Mem → Prop} (hK : ∀ G', CI G' (d + 1) W → K 1 G') : wL_isGame 0 G 600073 7301549 K := by
  have hA := hC.aok
  have hs := aok_sz hA
  have h4 : pcA W.1 ≤ 40 := (aok_run hA (Nat.le_refl _)).1
  have hg := aok_gm hA
  have hC : CI G (d + mN W.1 + 1) W := hC.mono (by omega)
  unfold wL_isGame wL_isGame_0
  refine pl_count hC (fun G1 C1 => ?_)
  dsimp only
  refine loopW_by (fun k s G' => ∃ p, p ≤ pcA W.1 ∧ k = pcA W.1 - p ∧ s = (Int64.ofNat (sumN p (lyg (lyA W.1))), nW p) ∧ CI G' (d + mN W.1 + 1) W) K (fun k s G' hv Q h1 h2 => ?_) FU (pcA W.1) _ G1 (by show _ < 100000; omega) ⟨0, Nat.zero_le _, rfl, rfl, C1⟩
  obtain ⟨p, hp, rfl, rfl, C⟩ := hv
  dsimp only
  unfold wL_isGame_10
  refine wp_after C (Nat.le_refl _) (fun G2 C2 => ?_)
  by_cases e : p < pcA W.1
  · rw [if_neg (show ¬ nW (pcA W.1) ≤ nW p by rw [nW_le (by omega) (by omega)]; omega)]
    refine ig_pos C2 e (fun G3 C3 => ?_)
    rw [← Int64.ofNat_add]
    exact h1 (pcA W.1 - (p + 1)) _ _ (by omega) ⟨p + 1, by omega, rfl, rfl, C3⟩
  · have e : p = pcA W.1 := by omega
    subst e
    rw [if_pos (show nW (pcA W.1) ≤ nW (pcA W.1) by rw [nW_le (by omega) (by omega)]; omega)]
    unfold wL_isGame_206
    refine pl_games C2 (fun G3 C3 => ?_)
    dsimp only
    rw [show sumN (pcA W.1) (lyg (lyA W.1)) = gmA W.1 from rfl, if_pos (show lg_cmp (Int64.ofNat (gmA W.1)) (Int64.ofNat (gmA W.1)) = 0 from (lgc_eq hg.2 hg.2).mpr rfl)]
    refine pl_certain C3 (fun G4 C4 => ?_)
    dsimp only
    have fin : ∀ v, wL_isGame_230 0 (Int64.ofNat (gmA W.1)) (nW (mN W.1)) v v G4 600073 7301549 (fun r G => Q (.inr r) G) := by
      intro v
      unfold wL_isGame_230
      rw [if_pos rfl]
      exact ig_notes (C4.mono (by omega)) (fun G5 C5 => h2 _ _ (hK G5 C5))
    have one : oneG (Int64.ofNat (gmA W.1)) = if lg_cmp (Int64.ofNat (gmA W.1)) 1 = 0 then 1 else 0 := rfl
    rw [one]
    show (if lg_cmp (Int64.ofNat (gmA W.1)) 1 = 0 then wL_isGame_230 0 (Int64.ofNat (gmA W.1)) (nW (mN W.1)) (if lg_cmp (Int64.ofNat (gmA W.1)) 1 = 0 then 1 else 0) 1 G4 600073 7301549 (fun r G => Q (.inr r) G) else wL_isGame_230 0 (Int64.ofNat (gmA W.1)) (nW (mN W.1)) (if lg_cmp (Int64.ofNat (gmA W.1)) 1 = 0 then 1 else 0) 0 G4 600073 7301549 (fun r G => Q (.inr r) G))
    by_cases c : lg_cmp (Int64.ofNat (gmA W.1)) 1 = 0
    · rw [if_pos c, if_pos c]; exact fin 1
    · rw [if_neg c, if_neg c]; exact fin 0
end IGN
