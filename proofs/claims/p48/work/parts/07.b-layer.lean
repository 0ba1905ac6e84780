/-! ===== following: a layer, and all layers ===== -/
theorem runL_none {n : Nat} {Lp : Lay} {l1 l2 : List (Nat × Nat × Nat)} {st st1 : Lay × Edg} (h : runL n Lp l1 st = some st1) (h2 : runL n Lp l2 st1 = none) : runL n Lp (l1 ++ l2) st = none := by
  rw [runL_app, h]; exact h2
theorem evs_split {c n : Nat} {N : Nat → Int32} {col : Nat} {Lp : Lay} {k : Nat} : ∀ d, ∃ l, evs c n N col Lp (k + d) = evs c n N col Lp k ++ l := by
  intro d
  induction d with
  | zero => exact ⟨[], (List.append_nil _).symm⟩
  | succ d ih =>
    obtain ⟨l, h⟩ := ih
    exact ⟨l ++ evP c n N col Lp (k + d), by rw [← Nat.add_assoc, evs_succ, h, List.append_assoc]⟩
section LAYER
variable {c r a i o : Nat}
theorem Low.rows {l : Nat} {G : Mem} {x : Nat → Nat → Int32} {y : Nat → Nat → Int64} (h5 : x (a + 5) = mI G (a + 5)) (h9 : x (a + 9) = mI G (a + 9)) (hl : x l = mI G l) (h6 : y (a + 6) = mJ G (a + 6)) (h7 : y (a + 7) = mJ G (a + 7)) : Low a i l l o G (wIJ G x y) :=
  ⟨fun j _ => congrFun h5 j, fun j _ => congrFun h6 j, fun j _ => congrFun h7 j, fun j _ => congrFun h9 j, fun j _ => congrFun hl j⟩
/-- the moves of all positions of a layer -/
theorem layer_loop (hs : szs c r) (hi : i < 10) {Lp : Lay} (hp40 : lyc Lp ≤ 40) (hW : ∀ p, p < lyc Lp → WFP (c * r) (lyp Lp p)) {G0 : Mem} {l0 K0 : Nat} (hFG : FG c r a G0 l0 K0 G0 l0 K0) (hLp : SLay G0 a i Lp) (hL : mI G0 (a + 5) (i + 1) = nW 0) (hE1 : mI G0 (a + 9) i = nW o) (hE2 : mI G0 (a + 9) (i + 1) = nW o) (ho : o ≤ 1600 * i) (hle : o ≤ 250 * 2 ^ K0) :
    ∃ res Gf, loopM (fun (s : Int32) G => fX3_follow_39 a (nW i) s G) FU (nW 0) G0 = some (res, Gf) ∧ ∃ l K, FG c r a G0 l0 K0 Gf l K ∧
      ((∃ st', stepL c (c * r) (mI G0 (a + 11 + i)) (i % 2) Lp = some st' ∧ lyc st'.1 ≠ 0 ∧ res = .inl (nW (i + 1)) ∧ Low a i l0 l o G0 Gf ∧ SLay Gf a (i + 1) st'.1 ∧ SEdg Gf a l i o st'.2 ∧ o + egc st'.2 ≤ 250 * 2 ^ K) ∨
       (stepL c (c * r) (mI G0 (a + 11 + i)) (i % 2) Lp = none ∧ res = .inr (-nW 1)) ∨ (∃ st', stepL c (c * r) (mI G0 (a + 11 + i)) (i % 2) Lp = some st' ∧ lyc st'.1 = 0 ∧ res = .inr (nW 0))) := by
  have hcol : i % 2 < 2 := Nat.mod_lt _ (by decide)
  have hn : c * r ≤ 36 := szs36 hs
  generalize hN : mI G0 (a + 11 + i) = N
  refine loop_by (f := fun (s : Int32) G => fX3_follow_39 a (nW i) s G)
    (fun k s G => ∃ p l K st, k = lyc Lp - p ∧ p ≤ lyc Lp ∧ s = nW p ∧ FG c r a G0 l0 K0 G l K ∧ Low a i l0 l o G0 G ∧ SLay G a (i + 1) st.1 ∧ SEdg G a l i o st.2 ∧ o + egc st.2 ≤ 250 * 2 ^ K ∧ runL (c * r) Lp (evs c (c * r) N (i % 2) Lp p) (Ly0, Eg0) = some st) _ ?_ FU (lyc Lp) (nW 0) G0 (by show lyc Lp < 100000; omega)
    ⟨0, l0, K0, (Ly0, Eg0), rfl, Nat.zero_le _, rfl, hFG, Low.rfl', by exact ⟨hL, fun p hp => absurd hp (Nat.not_lt_zero _)⟩, by exact ⟨hE1, by rw [hE2]; rfl, fun e he => absurd he (Nat.not_lt_zero _)⟩, by exact hle, by rfl⟩
  rintro k s G ⟨p, l, K, st, rfl, hp, rfl, g1, g2, g3, g4, g5, g6⟩
  obtain ⟨s1, s2, s3, s4, s5, s6, s7, s8⟩ := g1.start
  obtain ⟨lt1, lt2⟩ := s1.1.lts s2
  obtain ⟨lt3, lt4⟩ := hFG.1.1.lts hFG.2.1
  have hlp := s1.2.2
  have hLp' := hLp.low hp40 (Nat.le_refl i) g2
  have h5 : ∀ j, j < 11 → gA G 1 (a + 5) (nW j) = some (mI G (a + 5) j) := fun j hj => by
    have := s1.1.r5 (x := mI G) (y := mJ G) hj
    rwa [wij_self] at this
  by_cases hend : p = lyc Lp
  · left
    subst hend
    have hst : stepL c (c * r) N (i % 2) Lp = some st := g6
    have hRI := evs_RI hcol hW (Nat.le_refl _) g6
    have b40 := hRI.2.1
    have body : fX3_follow_39 a (nW i) (nW (lyc Lp)) G = if lyc st.1 = 0 then some (.inr (.inr (nW 0)), G) else some (.inr (.inl (nW (i + 1))), G) := by
      unfold fX3_follow_39 fX3_follow_118 fX3_follow_129
      rw [s1.1.g3, Option.bind_some, h5 i (by omega), hLp'.1, Option.bind_some, if_pos (by rw [nW_le (by omega) (by omega)]; omega), Option.bind_some]
      simp only [lits, nW_add]
      rw [h5 (i + 1) (by omega), g3.1, Option.bind_some]
      by_cases hz : lyc st.1 = 0
      · rw [if_pos hz, if_pos (by rw [hz])]; rfl
      · rw [if_neg hz, if_neg (by rw [nW_eq (by omega) (by omega)]; exact hz)]; rfl
    by_cases hz : lyc st.1 = 0
    · exact ⟨.inr (nW 0), G, by show fX3_follow_39 _ _ _ _ = _; rw [body, if_pos hz], l, K, g1, Or.inr (Or.inr ⟨st, hst, hz, rfl⟩)⟩
    · exact ⟨.inl (nW (i + 1)), G, by show fX3_follow_39 _ _ _ _ = _; rw [body, if_neg hz], l, K, g1, Or.inl ⟨st, hst, hz, rfl, g2, g3, g4, g5⟩⟩
  · have hp : p < lyc Lp := by omega
    have W := hW p hp
    obtain ⟨x', e1, e2, e3, e4⟩ := show_ok (x := mI G) (y := mJ G) s1.1 hs W (i := i) (p := p) (by omega) (by omega) s6 s7 (hLp'.2 p hp).2
    rw [wij_self] at e1
    obtain ⟨x2, f1, f2, f3⟩ := findMoves_ok (x := x') (y := mJ G) s1.1.b hs W (nt := a + 11 + i) (s1.1.nk hi) hcol e3 e4
    have x2o : ∀ b, b ≠ a + 1 → b ≠ a + 2 → b ≠ a + 3 → x2 b = mI G b := fun b h1 h2 h3 => by
      funext j
      exact (f2 b j (by omega) (by omega)).trans (e2 b j (by omega) (by omega))
    have hNx : x' (a + 11 + i) = N := by
      rw [← hN, ← (g1.row (b := a + 11 + i) (by omega) (CHf.not hFG.1.2.2 (by omega))).1]
      funext j
      exact e2 _ j (by omega) (by omega)
    rw [hNx] at f1 f3
    have hb2 := f2.br e3
    have ho2 := (hb2.bp hs (f2.bk e4)).2.1
    have hFG1 : FG c r a G l K (wIJ G x2 (mJ G)) l K := g1.start.wij (fun b hb => ⟨x2o b (fun q => hb (Or.inr (Or.inl q))) (fun q => hb (Or.inr (Or.inr (Or.inl q)))) (fun q => hb (Or.inr (Or.inr (Or.inr q)))), rfl⟩) ⟨hb2.1, hb2.2.1⟩ ho2 (by rw [x2o _ (by omega) (by omega) (by omega)])
    have hLow1 : Low a i l l o G (wIJ G x2 (mJ G)) := Low.rows (x2o _ (by omega) (by omega) (by omega)) (x2o _ (by omega) (by omega) (by omega)) (x2o _ (by omega) (by omega) (by omega)) rfl rfl
    have rowI : ∀ b, b ≠ a + 1 → b ≠ a + 2 → b ≠ a + 3 → mI (wIJ G x2 (mJ G)) b = mI G b := x2o
    have hL1 : SLay (wIJ G x2 (mJ G)) a (i + 1) st.1 := ⟨by rw [rowI _ (by omega) (by omega) (by omega)]; exact g3.1, g3.2⟩
    have hE1' : SEdg (wIJ G x2 (mJ G)) a l i o st.2 := ⟨by rw [rowI _ (by omega) (by omega) (by omega)]; exact g4.1, by rw [rowI _ (by omega) (by omega) (by omega)]; exact g4.2.1, fun e he => by rw [rowI l (by omega) (by omega) (by omega)]; exact g4.2.2 e he⟩
    obtain ⟨res, Gf, m1, l', K', m2, m3⟩ := moves_loop (N := N) hs hi hp hp40 hW hFG1.start (hLp'.low hp40 (Nat.le_refl i) hLow1) g6 hL1 hE1' g5 ho f3
    have body : fX3_follow_39 a (nW i) (nW p) G = some (res, Gf) := by
      unfold fX3_follow_39
      rw [s1.1.g3, Option.bind_some, h5 i (by omega), hLp'.1, Option.bind_some, if_neg (by rw [nW_le (by omega) (by omega)]; omega), ck_ok s1.1.t, e1, Option.bind_some]
      show ((gR G 13 a 0).bind _) = _
      rw [s1.1.g0, Option.bind_some]
      show ((gR G 13 a 2).bind _) = _
      rw [s1.1.g2, Option.bind_some]
      show ((gQ G 6 (a + 4) (nW i)).bind _) = _
      rw [s1.1.nt hi, Option.bind_some, ck_wij, ck_ok s1.1.t, mover_ok (by omega), Option.bind_some, ck_wij, ck_ok s1.1.b.1, f1, Option.bind_some]
      exact m1
    rcases m3 with ⟨st', n1, n2, n3, n4, n5, n6⟩ | ⟨n1, n2⟩
    · right
      refine ⟨lyc Lp - (p + 1), nW (p + 1), Gf, by omega, ?_, p + 1, l', K', st', rfl, hp, rfl, (g1.trans hFG1).trans m2, (g2.trans hLow1).trans n3, n4, n5, n6, ?_⟩
      · show fX3_follow_39 _ _ _ _ = _
        rw [body, n2]
      · rw [evs_succ, runL_app, g6]; exact n1
    · left
      refine ⟨.inr (-nW 1), Gf, ?_, l', K', (g1.trans hFG1).trans m2, Or.inr (Or.inl ⟨?_, rfl⟩)⟩
      · show fX3_follow_39 _ _ _ _ = _
        rw [body, n2]
      · obtain ⟨le, hle2⟩ := evs_split (c := c) (n := c * r) (N := N) (col := i % 2) (Lp := Lp) (k := p + 1) (lyc Lp - (p + 1))
        have e : p + 1 + (lyc Lp - (p + 1)) = lyc Lp := by omega
        rw [e] at hle2
        unfold stepL
        rw [hle2, evs_succ, List.append_assoc]
        refine runL_none g6 ?_
        rw [runL_app, n1]; rfl
end LAYER
