/-! ===== the law's calls, over what the class's object stands for ===== -/
section LCALL
variable {G : Mem} {d : Nat} {W : WSt} {c1 c2 : Nat}
theorem CI.mono {d' : Nat} (h : CI G d W) (hd : d' ≤ d) : CI G d' W := by
  obtain ⟨ro, l, K, h1, ⟨r1, r2, r3, r4⟩, h3⟩ := h
  exact ⟨ro, l, K, h1, ⟨by omega, by omega, r3, r4⟩, h3⟩
theorem wp_in {ρ α : Type} {c : Option ((ρ ⊕ Nat) × Mem)} {v : ρ} {o : (ρ ⊕ Nat) × WSt} {W' : WSt} (ho : o = (.inl v, W')) (h : COut G d c o) (ct : mt G 0 = 16) {ks : List Nat} {cv : ρ → α} {hs : Nat → α} {K : α → Mem → Prop} (hK : ∀ G', CI G' d W' → K (cv v) G') :
    wpL (ck G 16 0 <| c.bind fun q1 => thrC ks q1.1 (fun v => some (.inl (cv v), q1.2)) q1.2) hs c1 c2 K := by
  subst ho
  obtain ⟨G', rfl, hC, -⟩ := h
  exact ⟨(.inl (cv v), G'), if_pos ct, hK G' hC⟩
theorem wp_ex {ρ α : Type} {c : Option ((ρ ⊕ Nat) × Mem)} {k : Nat} {o : (ρ ⊕ Nat) × WSt} {W' : WSt} (ho : o = (.inr k, W')) (h : COut G (d + 1) c o) (ct : mt G 0 = 16) {ks : List Nat} {cv : ρ → α} {hs : Nat → α} (hk : k ∈ ks) {K : α → Mem → Prop} (hK : ∀ G', CI G' d W' → K (hs k) G') :
    wpL (ck G 16 0 <| c.bind fun q1 => thrC ks q1.1 (fun v => some (.inl (cv v), q1.2)) q1.2) hs 600073 7301549 K := by
  subst ho
  obtain ⟨G', rfl, hC, -⟩ := h
  refine ⟨(.inr k, G'), (if_pos ct).trans (if_pos hk), fun e w he hw => hK _ (hC.bump he hw)⟩
theorem ex_of {ρ : Type} {z : Option (ρ × Mem)} {v : ρ} {W' : WSt} (h : COu G d z (v, W')) (ct : mt G 0 = 16) {R : ρ × Mem → Prop} (hK : ∀ G', CI G' d W' → R (v, G')) : mt G 0 = 16 ∧ ∃ q, z = some q ∧ R q := by
  obtain ⟨G', rfl, hC, -⟩ := h
  exact ⟨ct, _, rfl, hK G' hC⟩
abbrev mN (A : ASt) : Nat := A.2.2.2.2
abbrev nN (A : ASt) : Nat := A.1 * A.2.1
theorem aok_sz {A : ASt} (h : AAOK A) : (3 ≤ A.1 ∧ A.1 < 7 ∧ 3 ≤ A.2.1 ∧ A.2.1 < 7) ∧ nN A ≤ 36 ∧ mN A ≤ 10 := by
  obtain ⟨⟨a1, a2, a3, a4⟩, -, hm, -⟩ := h
  refine ⟨⟨a1, a2, a3, a4⟩, ?_, hm⟩
  have : A.1 * A.2.1 ≤ 6 * 6 := Nat.mul_le_mul (by omega) (by omega)
  exact this
theorem aok_n9 {A : ASt} (h : AAOK A) : 9 ≤ nN A := by
  obtain ⟨⟨a1, a2, a3, a4⟩, -⟩ := h
  have : 3 * 3 ≤ A.1 * A.2.1 := Nat.mul_le_mul a1 a3
  exact this
theorem aok_run {A : ASt} (h : AAOK A) {i : Nat} (hi : i ≤ mN A) : lyc (lyN A.1 (nN A) A.2.2.1 A.2.2.2.1 i).1 ≤ 40 ∧ ∀ p, p < lyc (lyN A.1 (nN A) A.2.2.1 A.2.2.2.1 i).1 → WFP (nN A) (lyp (lyN A.1 (nN A) A.2.2.1 A.2.2.2.1 i).1 p) := (lyN_run h.2.1 (h.2.2.2.1.mono hi)).1
theorem aok_pos {A : ASt} (h : AAOK A) {i : Nat} (hi : i ≤ mN A) : 1 ≤ lyc (lyN A.1 (nN A) A.2.2.1 A.2.2.2.1 i).1 := by
  cases i with
  | zero => exact Nat.le_refl 1
  | succ i => exact Nat.one_le_iff_ne_zero.mpr (h.2.2.2.1 i hi).2
/-! plain calls -/
theorem pl_count (hC : CI G (d + 1) W) {R : Int32 × Mem → Prop} (hK : ∀ G', CI G' (d + 1) W → R (nW (mN W.1), G')) : mt G 0 = 16 ∧ ∃ q, fX6_noteCount 0 G = some q ∧ R q := ex_of (ccount_ok hC) hC.ct hK
theorem pl_cols (hC : CI G (d + 1) W) {R : Int32 × Mem → Prop} (hK : ∀ G', CI G' (d + 1) W → R (nW W.1.1, G')) : mt G 0 = 16 ∧ ∃ q, fX6_columns 0 G = some q ∧ R q := ex_of (ccolumns_ok hC) hC.ct hK
theorem pl_rows (hC : CI G (d + 1) W) {R : Int32 × Mem → Prop} (hK : ∀ G', CI G' (d + 1) W → R (nW W.1.2.1, G')) : mt G 0 = 16 ∧ ∃ q, fX6_rows 0 G = some q ∧ R q := ex_of (crows_ok hC) hC.ct hK
theorem pl_mover (hC : CI G (d + 1) W) {R : Int32 × Mem → Prop} (hK : ∀ G', CI G' (d + 1) W → R (nW (mN W.1 % 2), G')) : mt G 0 = 16 ∧ ∃ q, fX6_colourToMove 0 G = some q ∧ R q := ex_of (cmover_ok hC) hC.ct hK
theorem pl_games (hC : CI G (d + 1) W) {R : Int64 × Mem → Prop} (hK : ∀ G', CI G' (d + 1) W → R (Int64.ofNat (gmA W.1), G')) : mt G 0 = 16 ∧ ∃ q, fX6_gameCount 0 G = some q ∧ R q := ex_of (cgames_ok hC) hC.ct hK
theorem pl_certain (hC : CI G (d + 1) W) {R : Int32 × Mem → Prop} (hK : ∀ G', CI G' (d + 1) W → R (oneG (Int64.ofNat (gmA W.1)), G')) : mt G 0 = 16 ∧ ∃ q, fX6_isCertain 0 G = some q ∧ R q := ex_of (cisCertain_ok hC) hC.ct hK
theorem pl_most (hC : CI G (d + 1) W) {R : Int32 × Mem → Prop} (hK : ∀ G', CI G' (d + 1) W → R ((mdS W.1 (mN W.1)).1, G')) : mt G 0 = 16 ∧ ∃ q, fX6_mostDoubtfulNote 0 G = some q ∧ R q := ex_of (cmost_ok hC) hC.ct hK
theorem pl_cons (hC : CI G (d + 1) W) {R : Int32 × Mem → Prop} (hK : ∀ G', CI G' (d + 1) W → R (nW 0, G')) : mt G 0 = 16 ∧ ∃ q, fX6_inconsistencies 0 G = some q ∧ R q := ex_of (ccons_ok hC) hC.ct hK
theorem pl_undoable (hC : CI G (d + 1) W) {R : Int32 × Mem → Prop} (hK : ∀ G', CI G' (d + 1) W → R (nW W.2.1.length, G')) : mt G 0 = 16 ∧ ∃ q, fX6_undoableChanges 0 G = some q ∧ R q := ex_of (cundoable_ok hC) hC.ct hK
/-! calls that may throw -/
theorem wp_after (hC : CI G (d + 1) W) {i : Nat} (hi : i ≤ mN W.1) {K : Int32 → Mem → Prop} (hK : ∀ G', CI G' (d + 1) W → K (nW (lyc (lyN W.1.1 (nN W.1) W.1.2.2.1 W.1.2.2.2.1 i).1)) G') : wpL (fL_positionsAfter 0 (nW i) G) hsL_positionsAfter c1 c2 K := by
  have hm : W.1.2.2.2.2 ≤ 10 := (aok_sz hC.aok).2.2
  have hi : i ≤ W.1.2.2.2.2 := hi
  exact wp_in (by unfold oAfter; rw [ixZ_nW (show i < W.1.2.2.2.2 + 1 by omega) (by omega)]) (cafter_ok hC) hC.ct hK
theorem wp_at (hC : CI G (d + 1) W) {p x y q : Nat} (hp : p < pcA W.1) (hx : x < W.1.1) (hy : y < W.1.2.1) (hq : q = y * W.1.1 + x) {K : Int32 → Mem → Prop} (hK : ∀ G', CI G' (d + 1) W → K (pkd (lyp (lyA W.1) p q)) G') : wpL (fL_kindAt 0 (nW p) (nW x) (nW y) G) hsL_kindAt c1 c2 K := by
  have hs := aok_sz hC.aok
  have h4 := (aok_run hC.aok (Nat.le_refl _)).1
  subst hq
  refine wp_in ?_ (ckindAt_ok hC) hC.ct hK
  unfold oAt sqZ
  rw [ixZ_nW hp (by show pcA W.1 < _; have : pcA W.1 ≤ 40 := h4; omega), ixZ_nW hx (by omega), ixZ_nW hy (by omega)]
theorem wp_col (hC : CI G (d + 1) W) {p x y q : Nat} (hp : p < pcA W.1) (hx : x < W.1.1) (hy : y < W.1.2.1) (hq : q = y * W.1.1 + x) {K : Int32 → Mem → Prop} (hK : ∀ G', CI G' (d + 1) W → K (pcl (lyp (lyA W.1) p q)) G') : wpL (fL_colourAt 0 (nW p) (nW x) (nW y) G) hsL_colourAt c1 c2 K := by
  have hs := aok_sz hC.aok
  have h4 := (aok_run hC.aok (Nat.le_refl _)).1
  subst hq
  refine wp_in ?_ (ccolAt_ok hC) hC.ct hK
  unfold oAt sqZ
  rw [ixZ_nW hp (by show pcA W.1 < _; have : pcA W.1 ≤ 40 := h4; omega), ixZ_nW hx (by omega), ixZ_nW hy (by omega)]
theorem bz_bI (b : Bool) : bz (bI b) = bI b := by cases b <;> rfl
theorem wp_att (hC : CI G (d + 1) W) {p x y q k : Nat} (hp : p < pcA W.1) (hx : x < W.1.1) (hy : y < W.1.2.1) (hq : q = y * W.1.1 + x) (hk : k < 2) {K : Int32 → Mem → Prop} (hK : ∀ G', CI G' (d + 1) W → K (bI (att W.1.1 (nN W.1) (lyp (lyA W.1) p) q k)) G') : wpL (fL_isAttacked 0 (nW p) (nW x) (nW y) (nW k) G) hsL_isAttacked c1 c2 K := by
  have hs := aok_sz hC.aok
  have h4 := (aok_run hC.aok (Nat.le_refl _)).1
  subst hq
  refine wp_in (v := bI (att W.1.1 (nN W.1) (lyp (lyA W.1) p) (y * W.1.1 + x) k)) (W' := W) ?_ (cattacked_ok hC) hC.ct (fun G' h => by rw [bz_bI]; exact hK G' h)
  unfold oAtt sqZ
  rw [ixZ_nW hp (by show pcA W.1 < _; have : pcA W.1 ≤ 40 := h4; omega), ixZ_nW hx (by omega), ixZ_nW hy (by omega)]
  show (match ixZ (nW k) 2 with | none => _ | some k => _, W) = _
  rw [ixZ_nW hk (by decide)]
theorem wp_to (hC : CI G (d + 1) W) {p : Nat} (hp : p < pcA W.1) {K : Int64 → Mem → Prop} (hK : ∀ G', CI G' (d + 1) W → K (Int64.ofNat (lyg (lyA W.1) p)) G') : wpL (fL_gamesTo 0 (nW p) G) hsL_gamesTo c1 c2 K := by
  have h4 := (aok_run hC.aok (Nat.le_refl _)).1
  refine wp_in ?_ (cto_ok hC) hC.ct hK
  unfold oTo
  rw [ixZ_nW hp (by show pcA W.1 < _; have : pcA W.1 ≤ 40 := h4; omega)]
theorem wp_doubt (hC : CI G (d + 1) W) {i : Nat} (hi : i < mN W.1) {K : Int32 → Mem → Prop} (hK : ∀ G', CI G' (d + 1) W → K (nW (oMoves W.1 i).length) G') : wpL (fL_doubt 0 (nW i) G) hsL_doubt c1 c2 K := by
  have hm := (aok_sz hC.aok).2.2
  refine wp_in ?_ (cdoubt_ok hC) hC.ct hK
  unfold oDoubt
  rw [ixZ_nW hi (by omega)]
theorem wp_note (hC : CI G (d + 1) W) {i k : Nat} (hi : i < mN W.1) {c : Option ((Int32 ⊕ Nat) × Mem)} (hc : COut G (d + 1) c (oNote W (nW i) k)) {ks : List Nat} {hs : Nat → Int32} {cv : Int32 → Int32} {K : Int32 → Mem → Prop} (hK : ∀ G', CI G' (d + 1) W → K (cv (W.1.2.2.1 i k)) G') : wpL (ck G 16 0 <| c.bind fun q1 => thrC ks q1.1 (fun v => some (.inl (cv v), q1.2)) q1.2) hs c1 c2 K := by
  have hm := (aok_sz hC.aok).2.2
  refine wp_in ?_ hc hC.ct hK
  unfold oNote
  rw [ixZ_nW hi (by omega)]
end LCALL
