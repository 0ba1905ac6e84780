/-! ===== the layers behind a start position and notes ===== -/
def Lst (P : Nat → Nat) : Lay := (1, fun _ => P, fun _ => 1)
def lyN (c n : Nat) (N : Nat → Nat → Int32) (P0 : Nat → Nat) : Nat → Lay × Edg
  | 0 => (Lst P0, Eg0)
  | i + 1 => (stepL c n (N i) (i % 2) (lyN c n N P0 i).1).getD (Ly0, Eg0)
def okN (c n : Nat) (N : Nat → Nat → Int32) (P0 : Nat → Nat) (m : Nat) : Prop := ∀ i, i < m → stepL c n (N i) (i % 2) (lyN c n N P0 i).1 = some (lyN c n N P0 (i + 1)) ∧ lyc (lyN c n N P0 (i + 1)).1 ≠ 0
def ofs (c n : Nat) (N : Nat → Nat → Int32) (P0 : Nat → Nat) (i : Nat) : Nat := sumN i fun j => egc (lyN c n N P0 (j + 1)).2
def folV (c n : Nat) (N : Nat → Nat → Int32) (P0 : Nat → Nat) : Nat → Nat → Int32
  | 0, i => nW (lyc (lyN c n N P0 i).1)
  | d + 1, i => match stepL c n (N i) (i % 2) (lyN c n N P0 i).1 with
    | none => -nW 1
    | some q => if lyc q.1 = 0 then nW 0 else folV c n N P0 d (i + 1)
section LYN
variable {c n : Nat} {N : Nat → Nat → Int32} {P0 : Nat → Nat}
theorem okN.mono {m k : Nat} (h : okN c n N P0 m) (hk : k ≤ m) : okN c n N P0 k := fun i hi => h i (by omega)
theorem okN_zero : okN c n N P0 0 := fun i hi => absurd hi (Nat.not_lt_zero _)
theorem okN_succ {m : Nat} : okN c n N P0 (m + 1) ↔ okN c n N P0 m ∧ stepL c n (N m) (m % 2) (lyN c n N P0 m).1 = some (lyN c n N P0 (m + 1)) ∧ lyc (lyN c n N P0 (m + 1)).1 ≠ 0 := by
  constructor
  · intro h; exact ⟨h.mono (Nat.le_succ _), h m (Nat.lt_succ_self _)⟩
  · rintro ⟨h1, h2⟩ i hi
    by_cases e : i = m
    · rw [e]; exact h2
    · exact h1 i (by omega)
theorem lyN_of {i : Nat} {q : Lay × Edg} (h : stepL c n (N i) (i % 2) (lyN c n N P0 i).1 = some q) : lyN c n N P0 (i + 1) = q := by
  show (stepL c n (N i) (i % 2) (lyN c n N P0 i).1).getD (Ly0, Eg0) = q
  rw [h]; rfl
theorem lyN_run (W : WFP n P0) : ∀ {i : Nat}, okN c n N P0 i → (lyc (lyN c n N P0 i).1 ≤ 40 ∧ ∀ p, p < lyc (lyN c n N P0 i).1 → WFP n (lyp (lyN c n N P0 i).1 p)) ∧ ∀ j, j < i → RI c n (j % 2) (lyN c n N P0 j).1 (evs c n (N j) (j % 2) (lyN c n N P0 j).1 (lyc (lyN c n N P0 j).1)) (lyN c n N P0 (j + 1)) := by
  intro i
  induction i with
  | zero => intro _; exact ⟨⟨(show 1 ≤ 40 by decide), fun p _ => W⟩, fun j hj => absurd hj (Nat.not_lt_zero _)⟩
  | succ i ih =>
    intro h
    obtain ⟨h1, h2, h3⟩ := okN_succ.mp h
    obtain ⟨⟨a1, a2⟩, a3⟩ := ih h1
    have hRI := evs_RI (Nat.mod_lt i (by decide)) a2 (Nat.le_refl _) h2
    refine ⟨⟨hRI.2.1, fun p hp => (hRI.2.2.1 p hp).1⟩, fun j hj => ?_⟩
    by_cases e : j = i
    · rw [e]; exact hRI
    · exact a3 j (by omega)
theorem lyN_egc (W : WFP n P0) (hn : n ≤ 36) {i : Nat} (h : okN c n N P0 (i + 1)) : egc (lyN c n N P0 (i + 1)).2 ≤ 1600 := by
  have hr := (lyN_run W h).2 i (Nat.lt_succ_self _)
  have := hr.len (lyN_run W (h.mono (Nat.le_succ _))).1.1 (evs_sorted hn)
  have := hr.1
  omega
theorem ofs_le (W : WFP n P0) (hn : n ≤ 36) : ∀ {i : Nat}, okN c n N P0 i → ofs c n N P0 i ≤ 1600 * i := by
  intro i
  induction i with
  | zero => intro _; exact Nat.le_refl _
  | succ i ih =>
    intro h
    have h1 := ih (h.mono (Nat.le_succ _))
    have h2 := lyN_egc W hn h
    show ofs c n N P0 i + egc (lyN c n N P0 (i + 1)).2 ≤ _
    omega
theorem ofs_mono : ∀ {i j : Nat}, i ≤ j → ofs c n N P0 i ≤ ofs c n N P0 j := by
  intro i j h
  induction j with
  | zero => have : i = 0 := by omega
            rw [this]; exact Nat.le_refl _
  | succ j ih =>
    by_cases e : i = j + 1
    · rw [e]; exact Nat.le_refl _
    · exact Nat.le_trans (ih (by omega)) (Nat.le_add_right _ _)
theorem fv_ok : ∀ (d : Nat) {i : Nat}, okN c n N P0 i → okN c n N P0 (i + d) → folV c n N P0 d i = nW (lyc (lyN c n N P0 (i + d)).1) := by
  intro d
  induction d with
  | zero => intro i _ _; rfl
  | succ d ih =>
    intro i h1 h2
    have hs := h2 i (by omega)
    show (match stepL c n (N i) (i % 2) (lyN c n N P0 i).1 with
      | none => -nW 1
      | some q => if lyc q.1 = 0 then nW 0 else folV c n N P0 d (i + 1)) = _
    rw [hs.1]
    show (if lyc (lyN c n N P0 (i + 1)).1 = 0 then nW 0 else folV c n N P0 d (i + 1)) = _
    rw [if_neg hs.2, ih (okN_succ.mpr ⟨h1, hs⟩) (by rw [show i + 1 + d = i + (d + 1) by omega]; exact h2), show i + 1 + d = i + (d + 1) by omega]
theorem fv_bad : ∀ (d : Nat) {i : Nat}, okN c n N P0 i → ¬ okN c n N P0 (i + d) → folV c n N P0 d i = -nW 1 ∨ folV c n N P0 d i = nW 0 := by
  intro d
  induction d with
  | zero => intro i h1 h2; exact absurd h1 h2
  | succ d ih =>
    intro i h1 h2
    cases hq : stepL c n (N i) (i % 2) (lyN c n N P0 i).1 with
    | none =>
      left
      show (match stepL c n (N i) (i % 2) (lyN c n N P0 i).1 with
        | none => -nW 1
        | some q => if lyc q.1 = 0 then nW 0 else folV c n N P0 d (i + 1)) = _
      rw [hq]
    | some q =>
      have hf : folV c n N P0 (d + 1) i = if lyc q.1 = 0 then nW 0 else folV c n N P0 d (i + 1) := by
        show (match stepL c n (N i) (i % 2) (lyN c n N P0 i).1 with
          | none => -nW 1
          | some q => if lyc q.1 = 0 then nW 0 else folV c n N P0 d (i + 1)) = _
        rw [hq]
      rw [hf]
      by_cases hz : lyc q.1 = 0
      · rw [if_pos hz]; exact Or.inr rfl
      · rw [if_neg hz]
        have e := lyN_of hq
        exact ih (okN_succ.mpr ⟨h1, by rw [e]; exact hq, by rw [e]; exact hz⟩) (by rw [show i + 1 + d = i + (d + 1) by omega]; exact h2)
end LYN
/-- the memory holds the layers and links up to a number of notes -/
def LRep (G : Mem) (a l c n : Nat) (N : Nat → Nat → Int32) (P0 : Nat → Nat) (m : Nat) : Prop := (∀ i, i ≤ m → SLay G a i (lyN c n N P0 i).1 ∧ mI G (a + 9) i = nW (ofs c n N P0 i)) ∧ ∀ i, i < m → ∀ e, e < egc (lyN c n N P0 (i + 1)).2 → mI G l (ofs c n N P0 i + e) = nW (lnk (egd (lyN c n N P0 (i + 1)).2 e))
section FOLL
variable {c r a : Nat} {N : Nat → Nat → Int32} {P0 : Nat → Nat}
theorem LRep.step {n i l l' : Nat} {G G' : Mem} (W : WFP n P0) (h : LRep G a l c n N P0 i) (hok : okN c n N P0 i) (hl : Low a i l l' (ofs c n N P0 i) G G') (hL : SLay G' a (i + 1) (lyN c n N P0 (i + 1)).1) (hE : SEdg G' a l' i (ofs c n N P0 i) (lyN c n N P0 (i + 1)).2) : LRep G' a l' c n N P0 (i + 1) := by
  refine ⟨fun j hj => ?_, fun j hj e he => ?_⟩
  · by_cases ej : j = i + 1
    · rw [ej]; exact ⟨hL, hE.2.1⟩
    · obtain ⟨h1, h2⟩ := h.1 j (by omega)
      exact ⟨h1.low (lyN_run W (hok.mono (by omega))).1.1 (by omega) hl, (hl.2.2.2.1 j ej).trans h2⟩
  · by_cases ej : j = i
    · rw [ej] at he ⊢; exact hE.2.2 e he
    · have hm : ofs c n N P0 (j + 1) ≤ ofs c n N P0 i := ofs_mono (by omega)
      have : ofs c n N P0 (j + 1) = ofs c n N P0 j + egc (lyN c n N P0 (j + 1)).2 := rfl
      rw [hl.2.2.2.2 _ (by omega)]
      exact h.2 j (by omega) e he
theorem follow_ok (hs : szs c r) {G0 : Mem} {l0 K0 m first : Nat} (hFG : FG c r a G0 l0 K0 G0 l0 K0) (hm : m ≤ 10) (hmc : mI G0 a 1 = nW m) (hN : ∀ i, i < m → mI G0 (a + 11 + i) = N i) (W : WFP (c * r) P0) (hf : first ≤ m) (hok : okN c (c * r) N P0 first) (hrep : LRep G0 a l0 c (c * r) N P0 first) (hle : ofs c (c * r) N P0 first ≤ 250 * 2 ^ K0) :
    ∃ Gf, fX3_follow a (nW first) G0 = some (folV c (c * r) N P0 (m - first) first, Gf) ∧ ∃ l K, FG c r a G0 l0 K0 Gf l K ∧ (okN c (c * r) N P0 m → LRep Gf a l c (c * r) N P0 m ∧ ofs c (c * r) N P0 m ≤ 250 * 2 ^ K) := by
  have hn : c * r ≤ 36 := szs36 hs
  have main := loop_by (f := fun (s : Int32) G => fX3_follow_6 a s G)
    (fun k s G => ∃ i l K, k = m - i ∧ first ≤ i ∧ i ≤ m ∧ s = nW i ∧ FG c r a G0 l0 K0 G l K ∧ okN c (c * r) N P0 i ∧ LRep G a l c (c * r) N P0 i ∧ ofs c (c * r) N P0 i ≤ 250 * 2 ^ K ∧ folV c (c * r) N P0 (m - first) first = folV c (c * r) N P0 (m - i) i)
    (fun res Gf => res = folV c (c * r) N P0 (m - first) first ∧ ∃ l K, FG c r a G0 l0 K0 Gf l K ∧ (okN c (c * r) N P0 m → LRep Gf a l c (c * r) N P0 m ∧ ofs c (c * r) N P0 m ≤ 250 * 2 ^ K)) ?_ FU (m - first) (nW first) G0 (by show m - first < 100000; omega)
    ⟨first, l0, K0, rfl, Nat.le_refl _, hf, rfl, hFG, hok, hrep, hle, rfl⟩
  · obtain ⟨res, Gf, e, rfl, h⟩ := main
    refine ⟨Gf, ?_, h⟩
    unfold fX3_follow fX3_follow_0
    rw [if_neg (show ¬ nW first < (0 : Int32) from nW_neg_lt (by omega))]
    exact e
  · rintro k s G ⟨i, l, K, rfl, hfi, him, rfl, g1, g2, g3, g4, g5⟩
    obtain ⟨s1, s2, s3, s4, s5, s6, s7, s8⟩ := g1.start
    obtain ⟨lt1, lt2⟩ := s1.1.lts s2
    obtain ⟨lt3, lt4⟩ := hFG.1.1.lts hFG.2.1
    have hlp := s1.2.2
    have hca : mI G a 1 = nW m := by rw [(g1.row (b := a) (by omega) (CHf.not hFG.1.2.2 (Or.inl rfl))).1]; exact hmc
    have hcount : gF G 13 a 1 = some (nW m) := by
      have := s1.1.f (x := mI G) (y := mJ G) (k := 1)
      rw [wij_self, hca] at this
      exact this
    obtain ⟨⟨b1, b2⟩, b3⟩ := lyN_run W g2
    by_cases hend : i = m
    · left
      subst hend
      refine ⟨nW (lyc (lyN c (c * r) N P0 i).1), G, ?_, ?_, l, K, g1, fun _ => ⟨g3, g4⟩⟩
      · show fX3_follow_6 _ _ _ = _
        unfold fX3_follow_6 fX3_follow_137
        have h5 := s1.1.r5 (x := mI G) (y := mJ G) (i := i) (by omega)
        rw [wij_self, (g3.1 i (Nat.le_refl _)).1.1] at h5
        rw [hcount, Option.bind_some, if_pos (by rw [nW_le (by omega) (by omega)]; omega), s1.1.g3, Option.bind_some, Option.bind_some, h5]
        rfl
      · rw [g5, Nat.sub_self]; rfl
    · have him : i < m := by omega
      have hi : i < 10 := by omega
      have ho := ofs_le W hn g2
      generalize hG1 : wIJ G (u2 (u2 (mI G) (a + 5) (i + 1) (nW 0)) (a + 9) (i + 1) (nW (ofs c (c * r) N P0 i))) (mJ G) = G1
      have rowI : ∀ b, b ≠ a + 5 → b ≠ a + 9 → mI G1 b = mI G b := fun b h1 h2 => by
        rw [← hG1]
        show u2 _ _ _ _ b = _
        rw [u2_arow h2, u2_arow h1]
      have r5 : ∀ j, mI G1 (a + 5) j = if j = i + 1 then nW 0 else mI G (a + 5) j := fun j => by
        rw [← hG1]
        show u2 (u2 _ _ _ _) _ _ _ (a + 5) j = _
        rw [u2_apart (by omega)]
        by_cases e : j = i + 1
        · rw [if_pos e, e, u2_same]
        · rw [if_neg e, u2_other (fun q => e q.2)]
      have r9 : ∀ j, mI G1 (a + 9) j = if j = i + 1 then nW (ofs c (c * r) N P0 i) else mI G (a + 9) j := fun j => by
        rw [← hG1]
        show u2 (u2 _ _ _ _) _ _ _ (a + 9) j = _
        by_cases e : j = i + 1
        · rw [if_pos e, e, u2_same]
        · rw [if_neg e, u2_other (fun q => e q.2), u2_apart (by omega)]
      have hFG1 : FG c r a G l K G1 l K := by
        rw [← hG1]
        refine g1.start.wij (fun b hb => ⟨?_, rfl⟩) ?_ ?_ ?_
        · rw [u2_arow (fun q => hb (Or.inl (Or.inr (Or.inr (Or.inr (Or.inr (Or.inr q))))))), u2_arow (fun q => hb (Or.inl (Or.inr (Or.inl q))))]
        · rw [u2_arow (by omega), u2_arow (by omega)]; exact s6
        · intro p hp ho
          rw [u2_arow (by omega), u2_arow (by omega)]; exact s7 p hp ho
        · rw [u2_other (by omega), u2_apart (by omega)]
      have hLow1 : Low a i l l (ofs c (c * r) N P0 i) G G1 := by
        refine ⟨fun j hj => by rw [r5, if_neg hj], fun k _ => ?_, fun k _ => ?_, fun j hj => by rw [r9, if_neg hj], fun j _ => by rw [rowI l (by omega) (by omega)]⟩
        · rw [← hG1]; rfl
        · rw [← hG1]; rfl
      have hrep1 := g3.1 i (Nat.le_refl _)
      obtain ⟨res, Gf, m1, l', K', m2, m3⟩ := layer_loop hs hi b1 b2 hFG1.start (hrep1.1.low b1 (Nat.le_refl i) hLow1) (by rw [r5, if_pos rfl]) (by rw [r9, if_neg (by omega)]; exact hrep1.2) (by rw [r9, if_pos rfl]) ho g4
      have hNi : mI G1 (a + 11 + i) = N i := by
        rw [rowI _ (by omega) (by omega), (g1.row (b := a + 11 + i) (by omega) (CHf.not hFG.1.2.2 (by omega))).1]
        exact hN i him
      rw [hNi] at m3
      have body : fX3_follow_6 a (nW i) G = some (res, Gf) := by
        unfold fX3_follow_6
        simp only [lits, nW_add]
        have w5 := s1.1.w5 (x := mI G) (y := mJ G) (i := i + 1) (v := nW 0) (by omega)
        rw [wij_self] at w5
        rw [hcount, Option.bind_some, if_neg (by rw [nW_le (by omega) (by omega)]; omega), s1.1.g3, Option.bind_some, w5, Option.bind_some, gR_wij, s1.1.g7, Option.bind_some, Option.bind_some, s1.1.r9 (by omega), Option.bind_some, s1.1.w9 (by omega), Option.bind_some, u2_apart (by omega), hrep1.2, hG1]
        exact m1
      rcases m3 with ⟨st', n1, n2, n3, n4, n5, n6, n7⟩ | ⟨n1, n2⟩ | ⟨st', n1, n2, n3⟩
      · right
        have e := lyN_of n1
        rw [← e] at n1 n2 n5 n6 n7
        have hstep : folV c (c * r) N P0 (m - i) i = folV c (c * r) N P0 (m - (i + 1)) (i + 1) := by
          rw [show m - i = m - (i + 1) + 1 by omega]
          show (match stepL c (c * r) (N i) (i % 2) (lyN c (c * r) N P0 i).1 with
            | none => -nW 1
            | some q => if lyc q.1 = 0 then nW 0 else folV c (c * r) N P0 (m - (i + 1)) (i + 1)) = _
          rw [n1]
          exact if_neg n2
        refine ⟨m - (i + 1), nW (i + 1), Gf, by omega, ?_, i + 1, l', K', rfl, by omega, him, rfl, (g1.trans hFG1).trans m2, okN_succ.mpr ⟨g2, n1, n2⟩, g3.step W g2 (hLow1.trans n4) n5 n6, n7, g5.trans hstep⟩
        show fX3_follow_6 _ _ _ = _
        rw [body, n3]
      · left
        refine ⟨-nW 1, Gf, ?_, ?_, l', K', (g1.trans hFG1).trans m2, fun q => ?_⟩
        · show fX3_follow_6 _ _ _ = _
          rw [body, n2]
        · rw [g5, show m - i = m - (i + 1) + 1 by omega]
          show _ = (match stepL c (c * r) (N i) (i % 2) (lyN c (c * r) N P0 i).1 with
            | none => -nW 1
            | some q => if lyc q.1 = 0 then nW 0 else folV c (c * r) N P0 (m - (i + 1)) (i + 1))
          rw [n1]
        · have := (q i him).1
          rw [n1] at this; cases this
      · left
        refine ⟨nW 0, Gf, ?_, ?_, l', K', (g1.trans hFG1).trans m2, fun q => ?_⟩
        · show fX3_follow_6 _ _ _ = _
          rw [body, n3]
        · rw [g5, show m - i = m - (i + 1) + 1 by omega]
          show _ = (match stepL c (c * r) (N i) (i % 2) (lyN c (c * r) N P0 i).1 with
            | none => -nW 1
            | some q => if lyc q.1 = 0 then nW 0 else folV c (c * r) N P0 (m - (i + 1)) (i + 1))
          rw [n1]
          exact (if_pos n2).symm
        · have h := q i him
          rw [lyN_of n1] at h
          exact absurd n2 h.2
end FOLL
