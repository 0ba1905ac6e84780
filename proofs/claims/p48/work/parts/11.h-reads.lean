/-! ===== what the class reads ===== -/
/-- a square, as it is asked for -/
def sqZ (x y : Int32) (c r : Nat) : Option Nat := match ixZ x c with
  | none => none
  | some a => match ixZ y r with
    | none => none
    | some b => some (b * c + a)
theorem sqZ_spec {x y : Int32} {c r : Nat} (hs : szs c r) : (∃ a b, sqZ x y c r = some (b * c + a) ∧ a < c ∧ b < r ∧ x = nW a ∧ y = nW b) ∨ (sqZ x y c r = none) := by
  unfold sqZ
  have h1 := hs.2.1
  have h2 := hs.2.2.2
  rcases ixZ_spec (z := x) (show c < 2147483648 by omega) with ⟨a, e1, e2, e3, -, -⟩ | ⟨e1, -, -⟩
  · rcases ixZ_spec (z := y) (show r < 2147483648 by omega) with ⟨b, f1, f2, f3, -, -⟩ | ⟨f1, -, -⟩
    · left
      exact ⟨a, b, by rw [e1, f1], e2, f2, e3, f3⟩
    · right; rw [e1, f1]
  · right; rw [e1]
/-- kind and colour of a piece's number -/
def pkd (m : Nat) : Int32 := if m = 0 then -nW 1 else nW ((m - 1) % 5)
def pcl (m : Nat) : Int32 := if m = 0 then -nW 1 else nW ((m - 1) / 5)
theorem ckind_all : ∀ m, m < 11 → (nW (enc m) &&& nW 7) - nW 1 = pkd m := by decide +kernel
theorem ccol_all : ∀ m, m < 11 → (if nW (enc m) = nW 0 then -nW 1 else nW (enc m) >>> (nW 3 &&& nW 31)) = pcl m := by decide +kernel
abbrev lyA (A : ASt) : Lay := (lyN A.1 (A.1 * A.2.1) A.2.2.1 A.2.2.2.1 A.2.2.2.2).1
abbrev gmA (A : ASt) : Nat := gsm (lyA A) (pcA A)
def oNote (W : WSt) (z : Int32) (k : Nat) : (Int32 ⊕ Nat) × WSt := (match ixZ z W.1.2.2.2.2 with | none => .inr 2 | some j => .inl (W.1.2.2.1 j k), W)
def oAfter (W : WSt) (z : Int32) : (Int32 ⊕ Nat) × WSt := (match ixZ z (W.1.2.2.2.2 + 1) with | none => .inr 0 | some j => .inl (nW (lyc (lyN W.1.1 (W.1.1 * W.1.2.1) W.1.2.2.1 W.1.2.2.2.1 j).1)), W)
def oAt (W : WSt) (p x y : Int32) (f : Nat → Int32) : (Int32 ⊕ Nat) × WSt := (match ixZ p (pcA W.1) with | none => .inr 2 | some i => match sqZ x y W.1.1 W.1.2.1 with | none => .inr 2 | some q => .inl (f (lyp (lyA W.1) i q)), W)
def oAtt (W : WSt) (p x y co : Int32) : (Int32 ⊕ Nat) × WSt := (match ixZ p (pcA W.1) with | none => .inr 2 | some i => match sqZ x y W.1.1 W.1.2.1 with | none => .inr 2 | some q => match ixZ co 2 with | none => .inr 0 | some k => .inl (bI (att W.1.1 (W.1.1 * W.1.2.1) (lyp (lyA W.1) i) q k)), W)
def oLegal (W : WSt) (p : Int32) : (Int32 ⊕ Nat) × WSt := (match ixZ p (pcA W.1) with | none => .inr 2 | some i => .inl (nW (mvl W.1.1 (W.1.1 * W.1.2.1) opN (lyp (lyA W.1) i) (W.1.2.2.2.2 % 2)).length), W)
def oTo (W : WSt) (p : Int32) : (Int64 ⊕ Nat) × WSt := (match ixZ p (pcA W.1) with | none => .inr 2 | some i => .inl (Int64.ofNat (lyg (lyA W.1) i)), W)
section CREADS
variable {G : Mem} {ro l K : Nat → Nat} {W : WSt} {d : Nat}
theorem reqPos_ok (h : CSh G ro l K) (hR : Rom G K (d + 1)) {A : ASt} (hA : ARk G ro l K 0 A) {z : Int32} : fX6_requirePosition 0 z G = some (match ixZ z (pcA A) with | none => (.inr 2, G) | some _ => (.inl (), G)) := by
  have h40 : pcA A ≤ 40 := (lyN_run hA.2.2.1 hA.2.2.2.2.1).1.1
  unfold fX6_requirePosition fX6_requirePosition_0 fX6_requirePosition_15
  simp only [lits]
  rcases ixZ_spec (z := z) (show pcA A < 2147483648 by omega) with ⟨j, e1, e2, e3, e4, e5⟩ | ⟨e1, e2, -⟩
  · rw [e1, if_neg e4, h.f3, Option.bind_some, ck_ok (h.ss (show 0 < 12 by decide)).1.t, positionCount_ok hA.2 hA.1, Option.bind_some, if_pos e5]
  · rw [e1]
    rcases e2 with e2 | e2
    · rw [if_pos e2, hR.thw]
    · rw [if_neg e2.1, h.f3, Option.bind_some, ck_ok (h.ss (show 0 < 12 by decide)).1.t, positionCount_ok hA.2 hA.1, Option.bind_some, if_neg e2.2, hR.thw]
theorem reqSq_ok (h : CSh G ro l K) (hR : Rom G K (d + 1)) {A : ASt} (hA : ARk G ro l K 0 A) {x y : Int32} : fX6_requireSquare 0 x y G = some (match sqZ x y A.1 A.2.1 with | none => (.inr 2, G) | some _ => (.inl (), G)) := by
  obtain ⟨b0, b1, b2, b3⟩ := h.bd hA
  have hs := hA.2.1
  have h1 := hs.2.1
  have h2 := hs.2.2.2
  unfold fX6_requireSquare fX6_requireSquare_0 fX6_requireSquare_36 sqZ
  simp only [lits]
  rcases ixZ_spec (z := x) (show A.1 < 2147483648 by omega) with ⟨a, e1, e2, e3, e4, e5⟩ | ⟨e1, e2, -⟩
  · have n5 : ¬ nW A.1 ≤ x := by rw [e3, nW_le (by omega) (by omega)]; omega
    rw [e1, if_neg e4, h.f3, Option.bind_some, b0, Option.bind_some, b1, Option.bind_some, if_neg n5]
    rcases ixZ_spec (z := y) (show A.2.1 < 2147483648 by omega) with ⟨b, f1, f2, f3, f4, f5⟩ | ⟨f1, f2, -⟩
    · rw [f1, if_neg f4, Option.bind_some, b0, Option.bind_some, b2, Option.bind_some, if_pos f5]
    · rw [f1]
      rcases f2 with f2 | f2
      · rw [if_pos f2, hR.thw]
      · rw [if_neg f2.1, Option.bind_some, b0, Option.bind_some, b2, Option.bind_some, if_neg f2.2, hR.thw]
  · rw [e1]
    rcases e2 with e2 | e2
    · rw [if_pos e2, hR.thw]
    · have n5 : nW A.1 ≤ x := by
        have := e2.2
        rw [Int32.lt_iff_toInt_lt] at this
        rw [Int32.le_iff_toInt_le]; omega
      rw [if_neg e2.1, h.f3, Option.bind_some, b0, Option.bind_some, b1, Option.bind_some, if_pos n5, hR.thw]
theorem reqCol_ok (hR : Rom G K (d + 1)) {z : Int32} : fX6_requireColour 0 z G = some (match ixZ z 2 with | none => (.inr 0, G) | some _ => (.inl (), G)) := by
  unfold fX6_requireColour fX6_requireColour_0 fX6_requireColour_20
  simp only [lits]
  rcases ixZ_spec (z := z) (show 2 < 2147483648 by decide) with ⟨j, e1, e2, e3, -, -⟩ | ⟨e1, -, e3⟩
  · have : j = 0 ∨ j = 1 := by omega
    rcases this with q | q
    · rw [e1, e3, q, if_pos rfl]
    · rw [e1, e3, q, if_neg (by decide), if_pos rfl]
  · rw [e1, if_neg (e3 0 (by decide)), if_neg (e3 1 (by decide)), hR.thw]
theorem cnote_ok (h : CSh G ro l K) (hA : ARk G ro l K 0 W.1) {j : Nat} (hj : j < W.1.2.2.2.2) {k : Nat} (hk : k < 7) : ∃ b, gR G 13 (fa (ro 0)) 2 = some (fa (ro 0) + 4) ∧ gQ G 6 (fa (ro 0) + 4) (nW j) = some b ∧ gF G 11 b k = some (W.1.2.2.1 j k) := by
  have hm := hA.2.2.2.1
  have a := hA.1
  refine ⟨fa (ro 0) + 11 + j, a.1.1.g2, a.1.1.nt (by omega), ?_⟩
  have := gF_wij (x := mI G) (y := mJ G) (a.1.1.nk (i := j) (by omega)) (k := k)
  rw [wij_self, a.2.2.2.2.1 j hj k hk] at this; exact this
/-- of a state that isn't changed -/
theorem COut.same {ρ : Type} {v : ρ ⊕ Nat} (hC : CI G d W) : COut G d (some (v, G)) (v, W) := ⟨G, rfl, hC, RKp.rfl'⟩
theorem COu.same {ρ : Type} {v : ρ} (hC : CI G d W) : COu G d (some (v, G)) (v, W) := ⟨G, rfl, hC, RKp.rfl'⟩
theorem cnoteI_ok (hC : CI G (d + 1) W) {z : Int32} {k : Nat} (hk : k < 7) {f : Nat → Int32 → Mem → Option ((Int32 ⊕ Nat) × Mem)} (hf : f 0 z G = ck G 16 0 ((fX6_requireNote 0 z G).bind fun q1 => thr q1.1 (fun _ => (gR q1.2 16 0 3).bind fun v3 => (gR q1.2 13 v3 2).bind fun v4 => (gQ q1.2 6 v4 z).bind fun v5 => (gF q1.2 11 v5 k).bind fun v6 => some (.inl v6, q1.2)) q1.2)) : COut G (d + 1) (f 0 z G) (oNote W z k) := by
  obtain ⟨ro, l, K, h1, h2, h3⟩ := id hC
  obtain ⟨p1, -⟩ := h3.split
  have hm := p1.2.2.2.1
  rw [hf, ck_ok h1.t, reqNote_ok h1 h2 p1, Option.bind_some]
  unfold oNote
  rcases ixZ_spec (z := z) (show W.1.2.2.2.2 < 2147483648 by omega) with ⟨j, e1, e2, rfl, -, -⟩ | ⟨e1, -, -⟩
  · obtain ⟨b, g1, g2, g3⟩ := cnote_ok h1 p1 e2 hk
    rw [e1]
    show COut G (d + 1) ((gR G 16 0 3).bind fun v3 => (gR G 13 v3 2).bind fun v4 => (gQ G 6 v4 (nW j)).bind fun v5 => (gF G 11 v5 k).bind fun v6 => some (.inl v6, G)) _
    rw [h1.f3, Option.bind_some, g1, Option.bind_some, g2, Option.bind_some, g3, Option.bind_some]
    exact COut.same hC
  · rw [e1]
    exact COut.same hC
theorem cnoteB_ok (hC : CI G (d + 1) W) {z : Int32} {k : Nat} (hk : k = 5 ∨ k = 6) {f : Nat → Int32 → Mem → Option ((Int32 ⊕ Nat) × Mem)} (hf : f 0 z G = ck G 16 0 ((fX6_requireNote 0 z G).bind fun q1 => thr q1.1 (fun _ => (gR q1.2 16 0 3).bind fun v3 => (gR q1.2 13 v3 2).bind fun v4 => (gQ q1.2 6 v4 z).bind fun v5 => (gF q1.2 11 v5 k).bind fun v6 => rz v6 (some (.inl v6, q1.2))) q1.2)) : COut G (d + 1) (f 0 z G) (oNote W z k) := by
  obtain ⟨ro, l, K, h1, h2, h3⟩ := id hC
  obtain ⟨p1, -⟩ := h3.split
  have hm := p1.2.2.2.1
  rw [hf, ck_ok h1.t, reqNote_ok h1 h2 p1, Option.bind_some]
  unfold oNote
  rcases ixZ_spec (z := z) (show W.1.2.2.2.2 < 2147483648 by omega) with ⟨j, e1, e2, rfl, -, -⟩ | ⟨e1, -, -⟩
  · obtain ⟨b, g1, g2, g3⟩ := cnote_ok h1 p1 e2 (show k < 7 by omega)
    have w := p1.2.2.2.2.2 j e2
    rw [e1]
    show COut G (d + 1) ((gR G 16 0 3).bind fun v3 => (gR G 13 v3 2).bind fun v4 => (gQ G 6 v4 (nW j)).bind fun v5 => (gF G 11 v5 k).bind fun v6 => rz v6 (some (.inl v6, G))) _
    rw [h1.f3, Option.bind_some, g1, Option.bind_some, g2, Option.bind_some, g3, Option.bind_some, rz_ok (by rcases hk with rfl | rfl; exact w.1; exact w.2)]
    exact COut.same hC
  · rw [e1]
    exact COut.same hC
theorem cafter_ok (hC : CI G (d + 1) W) {z : Int32} : COut G (d + 1) (fX6_positionsAfter 0 z G) (oAfter W z) := by
  obtain ⟨ro, l, K, h1, h2, h3⟩ := id hC
  obtain ⟨p1, -⟩ := h3.split
  obtain ⟨b0, b1, b2, b3⟩ := h1.bd p1
  have hm := p1.2.2.2.1
  unfold fX6_positionsAfter fX6_positionsAfter_0 fX6_positionsAfter_15 oAfter
  simp only [lits]
  rcases ixZ_spec (z := z) (show W.1.2.2.2.2 + 1 < 2147483648 by omega) with ⟨j, e1, e2, e3, e4, e5⟩ | ⟨e1, e2, -⟩
  · subst e3
    rw [e1, if_neg e4, h1.f3, Option.bind_some, b3, Option.bind_some, if_pos ((nW_le (by omega) (by omega)).mpr (by omega)), Option.bind_some, p1.1.1.1.g3, Option.bind_some, p1.1.poss p1.2 (show j ≤ W.1.2.2.2.2 by omega), Option.bind_some]
    exact COut.same hC
  · rw [e1]
    rcases e2 with e2 | e2
    · rw [if_pos e2, h2.thw]; exact COut.same hC
    · have : ¬ z ≤ nW W.1.2.2.2.2 := by
        have := e2.2
        rw [Int32.lt_iff_toInt_lt, nW_int (by omega)] at this
        rw [Int32.le_iff_toInt_le, nW_int (by omega)]; omega
      rw [if_neg e2.1, h1.f3, Option.bind_some, b3, Option.bind_some, if_neg this, h2.thw]; exact COut.same hC
theorem cat_ok (hC : CI G (d + 1) W) {p x y : Int32} {g : Int32 → Mem → Option (Int32 × Mem)} {k : Nat → Int32} (hg : ∀ m, m < 11 → g (nW (enc m)) G = some (k m, G)) {z : Option ((Int32 ⊕ Nat) × Mem)} (hz : z = ck G 16 0 ((fX6_requirePosition 0 p G).bind fun q1 => thr q1.1 (fun _ => ck q1.2 16 0 ((fX6_requireSquare 0 x y q1.2).bind fun q3 => thr q3.1 (fun _ => (gR q3.2 16 0 3).bind fun v5 => (gR q3.2 16 0 3).bind fun v6 => (gR q3.2 13 v6 0).bind fun v7 => ck q3.2 10 v7 ((fX0_squareOf v7 x y q3.2).bind fun q8 => ck q8.2 13 v5 ((fX3_contentAt v5 p q8.1 q8.2).bind fun q9 => (g q9.1 q9.2).bind fun q10 => some (.inl q10.1, q10.2)))) q3.2)) q1.2)) : COut G (d + 1) z (oAt W p x y k) := by
  obtain ⟨ro, l, K, h1, h2, h3⟩ := id hC
  obtain ⟨p1, -⟩ := h3.split
  obtain ⟨b0, b1, b2, b3⟩ := h1.bd p1
  have hn := szs36 p1.2.1
  have hrun := (lyN_run p1.2.2.1 p1.2.2.2.2.1).1
  have h40 : pcA W.1 ≤ 40 := hrun.1
  rw [hz, ck_ok h1.t, reqPos_ok h1 h2 p1, Option.bind_some]
  unfold oAt
  rcases ixZ_spec (z := p) (show pcA W.1 < 2147483648 by omega) with ⟨i, e1, e2, rfl, -, -⟩ | ⟨e1, -, -⟩
  · rw [e1]
    show COut G (d + 1) (ck G 16 0 ((fX6_requireSquare 0 x y G).bind fun q3 => _)) _
    rw [ck_ok h1.t, reqSq_ok h1 h2 p1, Option.bind_some]
    rcases sqZ_spec (x := x) (y := y) p1.2.1 with ⟨a, b, f1, f2, f3, rfl, rfl⟩ | f1
    · have ht := grid_lt f3 f2
      rw [f1]
      show COut G (d + 1) ((gR G 16 0 3).bind fun v5 => (gR G 16 0 3).bind fun v6 => (gR G 13 v6 0).bind fun v7 => ck G 10 v7 ((fX0_squareOf v7 (nW a) (nW b) G).bind fun q8 => ck q8.2 13 v5 ((fX3_contentAt v5 (nW i) q8.1 q8.2).bind fun q9 => (g q9.1 q9.2).bind fun q10 => some (.inl q10.1, q10.2)))) _
      have sqo : fX0_squareOf (fa (ro 0) + 1) (nW a) (nW b) G = some (nW (b * W.1.1 + a), G) := by
        unfold fX0_squareOf fX0_squareOf_0
        rw [b1, Option.bind_some, nW_mul, nW_add]
      rw [h1.f3, Option.bind_some, Option.bind_some, b0, Option.bind_some, ck_ok p1.1.1.1.b.1, sqo, Option.bind_some, ck_ok p1.1.1.1.t, contentAt_ok p1.2 p1.1 e2 (by omega), Option.bind_some, hg _ ((hrun.2 i e2).1 _), Option.bind_some]
      exact COut.same hC
    · rw [f1]; exact COut.same hC
  · rw [e1]; exact COut.same hC
theorem ckindAt_ok (hC : CI G (d + 1) W) {p x y : Int32} : COut G (d + 1) (fX6_kindAt 0 p x y G) (oAt W p x y pkd) := by
  refine cat_ok hC (g := fX6_kindOf) (fun m hm => ?_) rfl
  unfold fX6_kindOf fX6_kindOf_0
  simp only [lits]
  rw [ckind_all m hm]
theorem ccolAt_ok (hC : CI G (d + 1) W) {p x y : Int32} : COut G (d + 1) (fX6_colourAt 0 p x y G) (oAt W p x y pcl) := by
  refine cat_ok hC (g := fX6_colourOf) (fun m hm => ?_) rfl
  have := ccol_all m hm
  unfold fX6_colourOf fX6_colourOf_0 fX6_colourOf_11
  simp only [lits]
  rw [← this]
  split <;> rfl
theorem cto_ok (hC : CI G (d + 1) W) {p : Int32} : COut G (d + 1) (fX6_gamesTo 0 p G) (oTo W p) := by
  obtain ⟨ro, l, K, h1, h2, h3⟩ := id hC
  obtain ⟨p1, -⟩ := h3.split
  have h40 : pcA W.1 ≤ 40 := (lyN_run p1.2.2.1 p1.2.2.2.2.1).1.1
  unfold fX6_gamesTo fX6_gamesTo_0 oTo
  rw [ck_ok h1.t, reqPos_ok h1 h2 p1, Option.bind_some]
  rcases ixZ_spec (z := p) (show pcA W.1 < 2147483648 by omega) with ⟨i, e1, e2, rfl, -, -⟩ | ⟨e1, -, -⟩
  · rw [e1]
    show COut G (d + 1) ((gR G 16 0 3).bind fun v3 => ck G 13 v3 ((fX3_gamesToLast v3 (nW i) G).bind fun q4 => some (.inl q4.1, q4.2))) _
    rw [h1.f3, Option.bind_some, ck_ok p1.1.1.1.t, gamesToLast_ok p1.2 p1.1 e2, Option.bind_some]
    exact COut.same hC
  · rw [e1]; exact COut.same hC
/-! plain reads -/
theorem ccolumns_ok (hC : CI G d W) : COu G d (fX6_columns 0 G) (nW W.1.1, W) := by
  obtain ⟨ro, l, K, h1, h2, h3⟩ := id hC
  obtain ⟨b0, b1, b2, b3⟩ := h1.bd h3.1
  unfold fX6_columns fX6_columns_0
  rw [h1.f3, Option.bind_some, b0, Option.bind_some, b1, Option.bind_some]
  exact COu.same hC
theorem crows_ok (hC : CI G d W) : COu G d (fX6_rows 0 G) (nW W.1.2.1, W) := by
  obtain ⟨ro, l, K, h1, h2, h3⟩ := id hC
  obtain ⟨b0, b1, b2, b3⟩ := h1.bd h3.1
  unfold fX6_rows fX6_rows_0
  rw [h1.f3, Option.bind_some, b0, Option.bind_some, b2, Option.bind_some]
  exact COu.same hC
theorem ccount_ok (hC : CI G d W) : COu G d (fX6_noteCount 0 G) (nW W.1.2.2.2.2, W) := by
  obtain ⟨ro, l, K, h1, h2, h3⟩ := id hC
  obtain ⟨b0, b1, b2, b3⟩ := h1.bd h3.1
  unfold fX6_noteCount fX6_noteCount_0
  rw [h1.f3, Option.bind_some, b3, Option.bind_some]
  exact COu.same hC
theorem cmover_ok (hC : CI G d W) : COu G d (fX6_colourToMove 0 G) (nW (W.1.2.2.2.2 % 2), W) := by
  obtain ⟨ro, l, K, h1, h2, h3⟩ := id hC
  obtain ⟨b0, b1, b2, b3⟩ := h1.bd h3.1
  have hm := h3.1.2.2.2.1
  unfold fX6_colourToMove fX6_colourToMove_0
  rw [h1.f3, Option.bind_some, Option.bind_some, b3, Option.bind_some, ck_ok h3.1.1.1.1.t, mover_ok (by omega), Option.bind_some]
  exact COu.same hC
theorem cundoable_ok (hC : CI G d W) : COu G d (fX6_undoableChanges 0 G) (nW W.2.1.length, W) := by
  obtain ⟨ro, l, K, h1, h2, h3⟩ := id hC
  unfold fX6_undoableChanges fX6_undoableChanges_0
  rw [h1.gF0, h3.2.1.1.1, Option.bind_some]
  exact COu.same hC
theorem cgames_ok (hC : CI G d W) : COu G d (fX6_gameCount 0 G) (Int64.ofNat (gmA W.1), W) := by
  obtain ⟨ro, l, K, h1, h2, h3⟩ := id hC
  obtain ⟨p1, -⟩ := h3.split
  unfold fX6_gameCount fX6_gameCount_0
  rw [h1.f3, Option.bind_some, ck_ok p1.1.1.1.t, gameTotal_ok p1.2 p1.1, Option.bind_some]
  exact COu.same hC
/-- one game alone -/
def oneG (v : Int64) : Int32 := if lg_cmp v 1 = 0 then nW 1 else nW 0
theorem cisCertain_ok (hC : CI G d W) : COu G d (fX6_isCertain 0 G) (oneG (Int64.ofNat (gmA W.1)), W) := by
  obtain ⟨ro, l, K, h1, h2, h3⟩ := id hC
  obtain ⟨p1, -⟩ := h3.split
  unfold fX6_isCertain fX6_isCertain_0 fX6_isCertain_17
  rw [h1.f3, Option.bind_some, ck_ok p1.1.1.1.t, gameTotal_ok p1.2 p1.1, Option.bind_some]
  have e : (if lg_cmp (Int64.ofNat (gmA W.1)) 1 = 0 then rz (1 : Int32) (some ((1 : Int32), G)) else rz (0 : Int32) (some ((0 : Int32), G))) = some (oneG (Int64.ofNat (gmA W.1)), G) := by
    unfold oneG
    by_cases q : lg_cmp (Int64.ofNat (gmA W.1)) 1 = 0
    · rw [if_pos q, if_pos q]; exact rz1
    · rw [if_neg q, if_neg q]; exact rz0
  show COu G d (if lg_cmp (Int64.ofNat (gmA W.1)) 1 = 0 then rz (1 : Int32) (some ((1 : Int32), G)) else rz (0 : Int32) (some ((0 : Int32), G))) _
  rw [e]
  exact COu.same hC
abbrev smA (A : ASt) : Nat := cnt (A.1 * A.2.1) (smE (lyA A))
end CREADS
