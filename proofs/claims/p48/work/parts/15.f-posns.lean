/-! ===== the check of games: one position ===== -/
abbrev KS (A : ASt) (p q : Nat) : Nat × Nat × Nat := kst A.1 (lyp (lyA A) p) (kgc (1 - mN A % 2)) (kgc (mN A % 2)) q
section IGP
variable {d : Nat} {W : WSt} {c1 c2 : Nat}
theorem kgc_ne {a : Nat} (ha : a < 2) : kgc (1 - a) ≠ kgc a := by
  unfold kgc; omega
/-- one square -/
theorem ig_square {l1 : Int64} {l3 : Int32} {p x y : Nat} {G : Mem} (hC : CI G (d + 1) W) (hp : p < pcA W.1) (hx : x < W.1.1) (hy : y < W.1.2.1) {K : ((Int32 × Int32 × Int32 × Int32) ⊕ ((Int32 × Int32 × Int32 × Int32) ⊕ ((Int64 × Int32) ⊕ Int32))) → Mem → Prop}
    (hK : ∀ G', CI G' (d + 1) W → K (.inl (nW (KS W.1 p (y * W.1.1 + x + 1)).1, nW (KS W.1 p (y * W.1.1 + x + 1)).2.1, nW (KS W.1 p (y * W.1.1 + x + 1)).2.2, nW (x + 1))) G') :
    wL_isGame_44 0 l1 l3 (nW p) (nW (KS W.1 p (y * W.1.1 + x)).1) (nW (KS W.1 p (y * W.1.1 + x)).2.1) (nW (KS W.1 p (y * W.1.1 + x)).2.2) (nW y) (nW x) G c1 c2 K := by
  have hs := aok_sz hC.aok
  have hm2 : mN W.1 % 2 < 2 := Nat.mod_lt _ (by decide)
  have hW := (aok_run hC.aok (Nat.le_refl _)).2 p hp
  have h11 := hW.1 (y * W.1.1 + x)
  obtain ⟨pk1, pk2, pk3⟩ := pk_at h11
  have hc0 : 0 < W.1.1 := by omega
  have qm : (y * W.1.1 + x) % W.1.1 = x := by rw [Nat.mul_comm, Nat.mul_add_mod, Nat.mod_eq_of_lt hx]
  have qd : (y * W.1.1 + x) / W.1.1 = y := by rw [Nat.mul_comm, Nat.mul_add_div hc0, Nat.div_eq_of_lt hx, Nat.add_zero]
  have ks : KS W.1 p (y * W.1.1 + x + 1) = if lyp (lyA W.1) p (y * W.1.1 + x) = kgc (1 - mN W.1 % 2) then ((KS W.1 p (y * W.1.1 + x)).1 + 1, (y * W.1.1 + x) % W.1.1, (y * W.1.1 + x) / W.1.1) else if lyp (lyA W.1) p (y * W.1.1 + x) = kgc (mN W.1 % 2) then ((KS W.1 p (y * W.1.1 + x)).1 + 1, (KS W.1 p (y * W.1.1 + x)).2) else KS W.1 p (y * W.1.1 + x) := rfl
  generalize hQ : lyp (lyA W.1) p (y * W.1.1 + x) = Q at h11 pk1 pk2 pk3 ks
  generalize KS W.1 p (y * W.1.1 + x) = s at ks ⊢
  generalize KS W.1 p (y * W.1.1 + x + 1) = s' at ks hK
  have core : ∀ G', CI G' (d + 1) W → ∀ v : Int32, wL_isGame_95 0 l1 l3 (nW p) (nW s.1) (nW s.2.1) (nW s.2.2) (nW y) (nW x) (pkd Q) v v G' c1 c2 K := by
    intro G1 C1 v
    unfold wL_isGame_95
    rw [if_pos rfl]
    by_cases hk : pkd Q = 0
    · rw [if_pos hk]
      refine wp_col C1 hp hx hy rfl (fun G2 C2 => ?_)
      refine pl_mover C2 (fun G3 C3 => ?_)
      dsimp only
      have hQ' := pk3.mp hk
      rw [hQ]
      have kk : Q = kgc (1 - mN W.1 % 2) ∨ Q = kgc (mN W.1 % 2) := by
        unfold kgc
        rcases (show mN W.1 % 2 = 0 ∨ mN W.1 % 2 = 1 by omega) with e | e <;> rw [e] <;> omega
      by_cases e : Q = kgc (mN W.1 % 2)
      · have e2 : pcl Q = nW (mN W.1 % 2) := by rw [e]; exact pcl_king hm2
        rw [if_pos e2]
        rw [if_neg (fun z => kgc_ne hm2 (z.symm.trans e)), if_pos e] at ks
        subst ks
        unfold wL_isGame_136
        rw [lits.2.1, nW_add, nW_add]
        exact hK G3 C3
      · have e1 : Q = kgc (1 - mN W.1 % 2) := kk.resolve_right e
        have e2 : pcl Q ≠ nW (mN W.1 % 2) := by
          rw [e1, pcl_king (by omega)]
          intro z
          have := (nW_eq (by omega) (by omega)).mp z
          omega
        rw [if_neg e2]
        rw [if_pos e1, qm, qd] at ks
        subst ks
        unfold wL_isGame_136
        rw [lits.2.1, nW_add, nW_add]
        exact hK G3 C3
    · rw [if_neg hk]
      have nk : ¬ (Q = 1 ∨ Q = 6) := fun z => hk (pk3.mpr z)
      have n1 : Q ≠ kgc (1 - mN W.1 % 2) := by unfold kgc; omega
      have n2 : Q ≠ kgc (mN W.1 % 2) := by unfold kgc; omega
      rw [if_neg n1, if_neg n2] at ks
      subst ks
      unfold wL_isGame_136
      rw [lits.2.1, nW_add]
      exact hK G1 C1
  unfold wL_isGame_44
  refine pl_cols hC (fun G1 C1 => ?_)
  dsimp only
  rw [if_neg (by rw [nW_le (by omega) (by omega)]; omega)]
  refine wp_at C1 hp hx hy rfl (fun G2 C2 => ?_)
  rw [hQ]
  by_cases q0 : Q = 0
  · rw [if_pos (pk1.mpr q0)]
    unfold wL_isGame_76
    refine wp_col C2 hp hx hy rfl (fun G3 C3 => ?_)
    rw [hQ, if_pos (pk2.mpr q0)]
    exact core G3 C3 1
  · rw [if_neg (fun z => q0 (pk1.mp z))]
    unfold wL_isGame_76
    refine wp_col C2 hp hx hy rfl (fun G3 C3 => ?_)
    rw [hQ, if_neg (fun z => q0 (pk2.mp z))]
    exact core G3 C3 0
/-- one row -/
theorem ig_row {l1 : Int64} {l3 : Int32} {p y : Nat} {G : Mem} (hC : CI G (d + 1) W) (hp : p < pcA W.1) (hy : y < W.1.2.1) {K : ((Int32 × Int32 × Int32 × Int32) ⊕ ((Int64 × Int32) ⊕ Int32)) → Mem → Prop}
    (hK : ∀ G', CI G' (d + 1) W → K (.inl (nW (KS W.1 p ((y + 1) * W.1.1)).1, nW (KS W.1 p ((y + 1) * W.1.1)).2.1, nW (KS W.1 p ((y + 1) * W.1.1)).2.2, nW (y + 1))) G') :
    loopW (fun (s : Int32 × Int32 × Int32 × Int32) G K => wL_isGame_44 0 l1 l3 (nW p) s.1 s.2.1 s.2.2.1 (nW y) s.2.2.2 G c1 c2 K) FU (nW (KS W.1 p (y * W.1.1)).1, nW (KS W.1 p (y * W.1.1)).2.1, nW (KS W.1 p (y * W.1.1)).2.2, (0 : Int32)) G K := by
  have hs := aok_sz hC.aok
  refine loopW_by (fun k s G' => ∃ x, x ≤ W.1.1 ∧ k = W.1.1 - x ∧ s = (nW (KS W.1 p (y * W.1.1 + x)).1, nW (KS W.1 p (y * W.1.1 + x)).2.1, nW (KS W.1 p (y * W.1.1 + x)).2.2, nW x) ∧ CI G' (d + 1) W) K (fun k s G' hi Q h1 h2 => ?_) FU W.1.1 _ G (by show _ < 100000; omega) ⟨0, Nat.zero_le _, rfl, rfl, hC⟩
  obtain ⟨x, hx, rfl, rfl, C⟩ := hi
  dsimp only
  by_cases e : x < W.1.1
  · exact ig_square C hp e hy (fun G2 C2 => h1 (W.1.1 - (x + 1)) _ _ (by omega) ⟨x + 1, by omega, rfl, rfl, C2⟩)
  · have e : x = W.1.1 := by omega
    subst e
    unfold wL_isGame_44
    refine pl_cols C (fun G1 C1 => ?_)
    dsimp only
    rw [if_pos (by rw [nW_le (by omega) (by omega)]; omega)]
    unfold wL_isGame_142
    rw [lits.2.1, nW_add, show y * W.1.1 + W.1.1 = (y + 1) * W.1.1 by rw [Nat.succ_mul]]
    exact h2 _ _ (hK G1 C1)
/-- one position -/
theorem ig_pos {l1 : Int64} {p : Nat} {G : Mem} (hC : CI G (d + 1) W) (hp : p < pcA W.1) {K : ((Int64 × Int32) ⊕ Int32) → Mem → Prop} (hK : ∀ G', CI G' (d + 1) W → K (.inl (l1 + Int64.ofNat (lyg (lyA W.1) p), nW (p + 1))) G') :
    loopW (fun (s : Int32 × Int32 × Int32 × Int32) G K => wL_isGame_32 0 l1 (nW (mN W.1)) (nW p) s.1 s.2.1 s.2.2.1 s.2.2.2 G c1 c2 K) FU ((0 : Int32), (0 : Int32), (0 : Int32), (0 : Int32)) G K := by
  have hA := hC.aok
  have hs := aok_sz hA
  have hm2 : mN W.1 % 2 < 2 := Nat.mod_lt _ (by decide)
  have hWp := (aok_run hA (Nat.le_refl _)).2 p hp
  refine loopW_by (fun k s G' => ∃ y, y ≤ W.1.2.1 ∧ k = W.1.2.1 - y ∧ s = (nW (KS W.1 p (y * W.1.1)).1, nW (KS W.1 p (y * W.1.1)).2.1, nW (KS W.1 p (y * W.1.1)).2.2, nW y) ∧ CI G' (d + 1) W) K (fun k s G' hi Q h1 h2 => ?_) FU W.1.2.1 _ G (by show _ < 100000; omega) ⟨0, Nat.zero_le _, rfl, by rw [Nat.zero_mul]; rfl, hC⟩
  obtain ⟨y, hy, rfl, rfl, C⟩ := hi
  dsimp only
  by_cases e : y < W.1.2.1
  · unfold wL_isGame_32
    refine pl_rows C (fun G1 C1 => ?_)
    dsimp only
    rw [if_neg (by rw [nW_le (by omega) (by omega)]; omega)]
    exact ig_row C1 hp e (fun G2 C2 => h1 (W.1.2.1 - (y + 1)) _ _ (by omega) ⟨y + 1, by omega, rfl, rfl, C2⟩)
  · have e : y = W.1.2.1 := by omega
    subst e
    unfold wL_isGame_32
    refine pl_rows C (fun G1 C1 => ?_)
    dsimp only
    rw [if_pos (by rw [nW_le (by omega) (by omega)]; omega)]
    obtain ⟨a, ha, hPa, hfn, hk⟩ := kst_all (c := W.1.1) hWp (show 1 - mN W.1 % 2 < 2 by omega)
    rw [show 1 - (1 - mN W.1 % 2) = mN W.1 % 2 by omega] at hk
    have hk : KS W.1 p (W.1.2.1 * W.1.1) = (2, a % W.1.1, a / W.1.1) := by rw [Nat.mul_comm]; exact hk
    rw [hk]
    have ha : a < W.1.1 * W.1.2.1 := ha
    have hc0 : 0 < W.1.1 := by omega
    have hax : a % W.1.1 < W.1.1 := Nat.mod_lt _ hc0
    have hay : a / W.1.1 < W.1.2.1 := Nat.div_lt_of_lt_mul ha
    have haq : a = a / W.1.1 * W.1.1 + a % W.1.1 := by rw [Nat.mul_comm]; exact (Nat.div_add_mod a W.1.1).symm
    have g1 : 1 ≤ lyg (lyA W.1) p := aok_lyg hA _ (Nat.le_refl _) p hp
    have hg := aok_gm hA
    have gl : lyg (lyA W.1) p ≤ gmA W.1 := sumN_term (f := lyg (lyA W.1)) _ hp
    have last : ∀ G', CI G' (d + 1) W → wL_isGame_178 0 l1 (nW (mN W.1)) (nW p) G' c1 c2 (fun r G => Q (.inr r) G) := by
      intro G2 C2
      unfold wL_isGame_178
      refine wp_to C2 hp (fun G3 C3 => ?_)
      rw [if_pos (show (0 : Int32) ≤ lg_cmp (Int64.ofNat (lyg (lyA W.1) p)) (1 : Int64) from (lgc_ge (b := 1) (by omega) (by decide)).mpr g1)]
      refine wp_to C3 hp (fun G4 C4 => ?_)
      rw [lits.2.1, nW_add]
      exact h2 _ _ (hK G4 C4)
    unfold wL_isGame_148
    dsimp only
    rw [if_pos (show nW 2 = (2 : Int32) from rfl)]
    by_cases e0 : mN W.1 = 0
    · rw [if_pos (by rw [e0]; decide)]
      exact last G1 C1
    · rw [if_neg (by rw [lits.1, nW_le (by omega) (by decide)]; omega)]
      refine pl_mover C1 (fun G2 C2 => ?_)
      dsimp only
      refine wp_att C2 hp hax hay haq hm2 (fun G3 C3 => ?_)
      have hkg := aok_king hA (i := mN W.1 - 1) (by omega) (p := p) (by rw [show mN W.1 - 1 + 1 = mN W.1 by omega]; exact hp)
      rw [show mN W.1 - 1 + 1 = mN W.1 by omega, show (mN W.1 - 1) % 2 = 1 - mN W.1 % 2 by omega, hfn, show 1 - (1 - mN W.1 % 2) = mN W.1 % 2 by omega] at hkg
      have hkg : att W.1.1 (nN W.1) (lyp (lyA W.1) p) a (mN W.1 % 2) = false := hkg
      rw [hkg, if_neg (by decide)]
      exact last G3 C3
end IGP
