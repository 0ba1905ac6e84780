/-! ===== a state of the class, as a whole ===== -/
def WN (N : Nat → Nat → Int32) (m : Nat) : Prop := ∀ i, i < m → (N i 5 = 0 ∨ N i 5 = 1) ∧ (N i 6 = 0 ∨ N i 6 = 1)
def AOK (c r : Nat) (N : Nat → Nat → Int32) (P0 : Nat → Nat) (m : Nat) : Prop := szs c r ∧ WFP (c * r) P0 ∧ m ≤ 10 ∧ okN c (c * r) N P0 m ∧ WN N m
def ARep (G : Mem) (a l K c r : Nat) (N : Nat → Nat → Int32) (P0 : Nat → Nat) (m : Nat) : Prop := SS G a l K ∧ (mI G (a + 1) 0 = nW c ∧ mI G (a + 1) 1 = nW r) ∧ BOff c r (mI G) (a + 1) ∧ mI G a 1 = nW m ∧ (∀ i, i < m → ∀ j, j < 7 → mI G (a + 11 + i) j = N i j) ∧ LRep G a l c (c * r) N P0 m ∧ ofs c (c * r) N P0 m ≤ 250 * 2 ^ K
section STATE
variable {G : Mem} {a l K a2 l2 K2 c r m : Nat} {N : Nat → Nat → Int32} {P0 : Nat → Nat}
theorem LRep.copy {n : Nat} {G' : Mem} {l' : Nat} (W : WFP n P0) (hok : okN c n N P0 m) (h : LRep G a2 l2 c n N P0 m) (h5 : ∀ j, j ≤ m → mI G' (a + 5) j = mI G (a2 + 5) j) (h6 : ∀ k, k < (m + 1) * 40 → mJ G' (a + 6) k = mJ G (a2 + 6) k) (h7 : ∀ k, k < (m + 1) * 120 → mJ G' (a + 7) k = mJ G (a2 + 7) k) (h9 : ∀ j, j ≤ m → mI G' (a + 9) j = mI G (a2 + 9) j) (hl : ∀ j, j < ofs c n N P0 m → mI G' l' j = mI G l2 j) : LRep G' a l' c n N P0 m := by
  refine ⟨fun i hi => ?_, fun i hi e he => ?_⟩
  · obtain ⟨⟨q1, q2⟩, q3⟩ := h.1 i hi
    have h40 := (lyN_run W (hok.mono hi)).1.1
    refine ⟨⟨(h5 i hi).trans q1, fun p hp => ⟨(h6 _ ?_).trans (q2 p hp).1, PK_cong (q2 p hp).2 fun j hj => h7 _ ?_⟩⟩, (h9 i hi).trans q3⟩
    · omega
    · omega
  · have hm : ofs c n N P0 (i + 1) ≤ ofs c n N P0 m := ofs_mono hi
    have : ofs c n N P0 (i + 1) = ofs c n N P0 i + egc (lyN c n N P0 (i + 1)).2 := rfl
    rw [hl _ (by omega)]
    exact h.2 i hi e he
/-- a state lives on while others change -/
theorem ARep.frame {G' : Mem} {K0 K' : Nat} {b : Nat} {ch : Nat → Prop} (hA : AOK c r N P0 m) (h : ARep G a l K c r N P0 m) (hF : Frsh G) (hg : Gro b ch G G' K0 K') (hb : b < a ∨ a + 21 ≤ b) (hch : ∀ z, CHa a l z → ¬ ch z) : ARep G' a l K c r N P0 m := by
  obtain ⟨h1, h2, h3, h4, h5, h6, h7⟩ := h
  obtain ⟨lt1, lt2⟩ := h1.1.lts hF
  have hlp := h1.2.2
  have rw1 : ∀ z, a ≤ z → z < a + 21 → mI G' z = mI G z ∧ mJ G' z = mJ G z := fun z q1 q2 => hg.2.2 z (by omega) (hch z (Or.inl ⟨q1, q2⟩))
  have rl : mI G' l = mI G l := (hg.2.2 l lt2 (hch l (Or.inr rfl))).1
  have hS : SS G' a l K := h1.relink hF (fun z hz => (hg.2.1 z hz).1) (fun z hz => (hg.2.1 z hz).2.1) (fun z j q1 q2 _ => (hg.2.1 z (by omega)).2.2 j (by omega)) (by rw [(hg.2.1 a (by omega)).2.2 8 (by omega)]; exact h1.1.1.2.2.2.2.2.2.2.2) ⟨by rw [(hg.2.1 l lt2).1]; exact h1.1.lt, by rw [(hg.2.1 l lt2).2.1]; exact h1.1.ll⟩ h1.2.1 hlp
  refine ⟨hS, ?_, ?_, ?_, fun i hi j hj => ?_, ?_, h7⟩
  · rw [(rw1 (a + 1) (by omega) (by omega)).1]; exact h2
  · intro p hp ho
    rw [(rw1 (a + 1 + 2) (by omega) (by omega)).1]; exact h3 p hp ho
  · rw [(rw1 a (by omega) (by omega)).1]; exact h4
  · have := hA.2.2.1
    rw [(rw1 (a + 11 + i) (by omega) (by omega)).1]; exact h5 i hi j hj
  · exact h6.copy hA.2.1 hA.2.2.2.1 (fun j _ => by rw [(rw1 (a + 5) (by omega) (by omega)).1]) (fun k _ => by rw [(rw1 (a + 6) (by omega) (by omega)).2]) (fun k _ => by rw [(rw1 (a + 7) (by omega) (by omega)).2]) (fun j _ => by rw [(rw1 (a + 9) (by omega) (by omega)).1]) (fun j _ => by rw [rl])
theorem copyFrom_ok (h : SS G a l K) (hA : AOK c r N P0 m) (h2 : ARep G a2 l2 K2 c r N P0 m) (hD : Dis a l a2 l2) (hF : Frsh G) (hr : Rm G K) :
    ∃ G' l' K', fX3_copyFrom a a2 G = some ((), G') ∧ ARep G' a l' K' c r N P0 m ∧ Frsh G' ∧ Rm G' K' ∧ Gro a (CHa a l) G G' K K' ∧ (l' = l ∨ mz G ≤ l') := by
  obtain ⟨hs, W, hm, hok, hwn⟩ := hA
  obtain ⟨g1, g2, g3, g4, g5, g6, g7⟩ := h2
  have hS := h.1
  have hS2 := g1.1
  obtain ⟨lt1, lt2⟩ := hS.lts hF
  obtain ⟨lt3, lt4⟩ := hS2.lts hF
  have hlp := h.2.2
  have hlp2 := g1.2.2
  obtain ⟨D1, D2, D3, D4⟩ := id hD
  obtain ⟨x1, e1, e2, e3⟩ := resize_ok (x := mI G) (y := mJ G) hS.b hs
  rw [wij_self] at e1
  generalize hx2 : u2 x1 a 1 (nW m) = x2
  have x2o : ∀ b, b ≠ a → b ≠ a + 1 → b ≠ a + 3 → x2 b = mI G b := fun b q1 q2 q3 => by
    funext j
    rw [← hx2, u2_apart q1]
    exact e2 b j (by omega) (by omega)
  let xs : Nat → Nat → Nat → Int32 := fun i b j => if (a + 11 ≤ b ∧ b < a + 11 + i) ∧ j < 7 then x2 (a2 + 11 + (b - (a + 11))) j else x2 b j
  have xso : ∀ i b, (b < a + 11 ∨ a + 11 + i ≤ b) → xs i b = x2 b := fun i b hb => funext fun j => if_neg (by omega)
  have hncp : ∀ i, i < m → ncp (xs i) (a + 11 + i) (a2 + 11 + i) = xs (i + 1) := fun i hi => by
    funext b j
    show (if b = a + 11 + i ∧ j < 7 then xs i (a2 + 11 + i) j else xs i b j) = _
    rw [xso i (a2 + 11 + i) (by omega)]
    show _ = if (a + 11 ≤ b ∧ b < a + 11 + (i + 1)) ∧ j < 7 then x2 (a2 + 11 + (b - (a + 11))) j else x2 b j
    by_cases hb : b = a + 11 + i
    · subst hb
      rw [show a + 11 + i - (a + 11) = i by omega]
      by_cases hj : j < 7
      · rw [if_pos ⟨rfl, hj⟩, if_pos ⟨by omega, hj⟩]
      · rw [if_neg (fun q => hj q.2), if_neg (fun q => hj q.2), xso i _ (by omega)]
    · rw [if_neg (fun q => hb q.1)]
      show (if (a + 11 ≤ b ∧ b < a + 11 + i) ∧ j < 7 then _ else _) = _
      by_cases hq : (a + 11 ≤ b ∧ b < a + 11 + i) ∧ j < 7
      · rw [if_pos hq, if_pos (by omega)]
      · rw [if_neg hq, if_neg (by omega)]
  have n2 : ∀ i, i < m → ∀ j, j < 7 → x2 (a2 + 11 + i) j = N i j := fun i hi j hj => by
    rw [x2o _ (by omega) (by omega) (by omega)]; exact g5 i hi j hj
  have a1 : ∀ i, xs i a 1 = nW m := fun i => by
    rw [xso i a (by omega), ← hx2, u2_same]
  -- the end
  obtain ⟨G', l', K', c1, c2, c3, c4, c5, c6, c7, c8, c9, c10, c11, c12, c13⟩ := copy60_ok (x := xs m) (y := mJ G) h g1 hD hF hr hm (a1 m) g7 (by rw [xso m _ (by omega), x2o _ (by omega) (by omega) (by omega)]; exact (g6.1 m (Nat.le_refl _)).2)
  have loop := loop_to (f := fun (s : Int32) G => fX3_copyFrom_31 a a2 s G) (fun i => nW i) (fun i => wIJ G (xs i) (mJ G)) m () G' (fun i hi => by
    show fX3_copyFrom_31 _ _ _ _ = _
    unfold fX3_copyFrom_31
    have hw := hwn i hi
    rw [gF_wij hS.t, Option.bind_some, a1, if_neg (by rw [nW_le (by omega) (by omega)]; omega), gR_wij, hS.g2, Option.bind_some, gQ_wij, hS.nt (by omega), Option.bind_some, gR_wij, hS2.g2, Option.bind_some, gQ_wij, hS2.nt (by omega), Option.bind_some, ck_wij, ck_ok (hS.nk (by omega)), noteCopy_ok (hS.nk (by omega)) (hS2.nk (by omega)) (by omega) (by rw [xso i _ (by omega), n2 i hi 5 (by decide)]; exact hw.1) (by rw [xso i _ (by omega), n2 i hi 6 (by decide)]; exact hw.2), Option.bind_some, hncp i hi]
    simp only [lits, nW_add]) (by
    show fX3_copyFrom_31 _ _ _ _ = _
    unfold fX3_copyFrom_31
    rw [gF_wij hS.t, Option.bind_some, a1, if_pos (by rw [nW_le (by omega) (by omega)]; omega), c1]
    rfl) m 0 FU (by omega) (by show m < 100000; omega)
  have xs0 : xs 0 = x2 := funext fun b => xso 0 b (by omega)
  have body : fX3_copyFrom a a2 G = some ((), G') := by
    unfold fX3_copyFrom fX3_copyFrom_0
    have d0 : gF G 10 (a2 + 1) 0 = some (nW c) := by
      have := gF_wij (x := mI G) (y := mJ G) hS2.b.1 (k := 0)
      rw [wij_self, g2.1] at this; exact this
    have d1 : gF G 10 (a2 + 1) 1 = some (nW r) := by
      have := gF_wij (x := mI G) (y := mJ G) hS2.b.1 (k := 1)
      rw [wij_self, g2.2] at this; exact this
    rw [hS.g0, Option.bind_some, hS2.g0, Option.bind_some, d0, Option.bind_some, Option.bind_some, d1, Option.bind_some, ck_ok hS.b.1, e1, Option.bind_some, gF_wij hS2.t, e2 a2 1 (by omega) (by omega), g4, Option.bind_some, pI_wij hS.t, Option.bind_some, hx2]
    simp only [lits]
    rw [xs0] at loop
    exact loop
  have rest : ∀ b, b < mz G → b ≠ a + 5 → b ≠ a + 9 → b ≠ l → mI G' b = xs m b := c13
  refine ⟨G', l', K', body, ⟨c2, ?_, ?_, ?_, fun i hi j hj => ?_, ?_, c7⟩, c3, c4, ?_, c6⟩
  · rw [rest _ (by omega) (by omega) (by omega) (by omega), xso m _ (by omega), ← hx2, u2_arow (by omega)]; exact e3.1
  · intro p hp ho
    rw [rest _ (by omega) (by omega) (by omega) (by omega), xso m _ (by omega), ← hx2, u2_arow (by omega)]; exact e3.2.1 p hp ho
  · rw [rest _ (by omega) (by omega) (by omega) (by omega)]; exact a1 m
  · rw [rest _ (by omega) (by omega) (by omega) (by omega)]
    show (if (a + 11 ≤ a + 11 + i ∧ a + 11 + i < a + 11 + m) ∧ j < 7 then x2 (a2 + 11 + (a + 11 + i - (a + 11))) j else _) = _
    rw [if_pos (by omega), show a + 11 + i - (a + 11) = i by omega]
    exact n2 i hi j hj
  · refine g6.copy W hok (fun j hj => ?_) c9 c10 (fun j hj => ?_) (fun j hj => ?_)
    · rw [c8 j hj, xso m _ (by omega), x2o _ (by omega) (by omega) (by omega)]
    · rw [c11 j hj, xso m _ (by omega), x2o _ (by omega) (by omega) (by omega)]
    · rw [c12 j hj, xso m _ (by omega), x2o _ (by omega) (by omega) (by omega)]
  · refine ⟨c5.1, c5.2.1, fun b hb hn => ?_⟩
    obtain ⟨q1, q2⟩ := c5.2.2 b hb hn
    refine ⟨q1.trans ?_, q2⟩
    show xs m b = mI G b
    unfold CHa at hn
    rw [xso m b (by omega), x2o b (by omega) (by omega) (by omega)]
end STATE
