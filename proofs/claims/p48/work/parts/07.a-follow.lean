/-! ===== following ===== -/
/-- what following may change of the contents -/
def CHf (a l b : Nat) : Prop := CHs a l b ∨ b = a + 1 ∨ b = a + 2 ∨ b = a + 3
def FG (c r a : Nat) (G0 : Mem) (l0 K0 : Nat) (G : Mem) (l K : Nat) : Prop := SS G a l K ∧ Frsh G ∧ Rm G K ∧ Gro a (CHf a l0) G0 G K0 K ∧ (l = l0 ∨ mz G0 ≤ l) ∧ (mI G (a + 1) 0 = nW c ∧ mI G (a + 1) 1 = nW r) ∧ BOff c r (mI G) (a + 1) ∧ mI G (a + 9) 0 = mI G0 (a + 9) 0
theorem FG.start {c r a : Nat} {G0 G : Mem} {l0 K0 l K : Nat} (h : FG c r a G0 l0 K0 G l K) : FG c r a G l K G l K := by
  obtain ⟨k1, k2, k3, k4, k5, k6, k7, k8⟩ := h
  exact ⟨k1, k2, k3, Gro.rfl', Or.inl rfl, k6, k7, rfl⟩
theorem FG.trans {c r a : Nat} {G0 G G2 : Mem} {l0 K0 l K l2 K2 : Nat} (h : FG c r a G0 l0 K0 G l K) (h2 : FG c r a G l K G2 l2 K2) : FG c r a G0 l0 K0 G2 l2 K2 := by
  obtain ⟨-, -, -, h4, h5, -, -, h8⟩ := h
  obtain ⟨k1, k2, k3, k4, k5, k6, k7, k8⟩ := h2
  have hm := h4.1.1
  refine ⟨k1, k2, k3, h4.trans k4 (fun b q => q) (fun b hb q => ?_), ?_, k6, k7, k8.trans h8⟩
  · rcases h5 with h5 | h5
    · rw [← h5]; exact q
    · rcases q with q | q
      · rcases q with q | q
        · omega
        · exact Or.inl (Or.inr q)
      · exact Or.inr q
  · rcases k5 with e | e
    · rw [e]; exact h5
    · exact Or.inr (by omega)
/-- what following leaves alone -/
theorem FG.row {c r a : Nat} {G0 G : Mem} {l0 K0 l K b : Nat} (h : FG c r a G0 l0 K0 G l K) (hb : b < mz G0) (hn : ¬ CHf a l0 b) : mI G b = mI G0 b ∧ mJ G b = mJ G0 b := h.2.2.2.1.2.2 b hb hn
theorem CHf.not {a l b : Nat} (h : l = a + 10 ∨ a + 21 ≤ l) (hb : b = a ∨ (a + 11 ≤ b ∧ b < a + 21)) : ¬ CHf a l b := by
  unfold CHf CHs
  omega
theorem FG.wij {c r a : Nat} {G : Mem} {l K : Nat} (h : FG c r a G l K G l K) {x : Nat → Nat → Int32} {y : Nat → Nat → Int64} (hx : ∀ b, ¬ CHf a l b → x b = mI G b ∧ y b = mJ G b) (h1 : x (a + 1) 0 = nW c ∧ x (a + 1) 1 = nW r) (h2 : BOff c r x (a + 1)) (h3 : x (a + 9) 0 = mI G (a + 9) 0) : FG c r a G l K (wIJ G x y) l K := by
  obtain ⟨k1, k2, k3, k4, k5, k6, k7, k8⟩ := h
  exact ⟨k1, k2, k3, Gro.of_wij (fun b _ hb => hx b hb), Or.inl rfl, h1, h2, h3⟩
theorem Low.rfl' {a i l o : Nat} {G : Mem} : Low a i l l o G G := ⟨fun _ _ => rfl, fun _ _ => rfl, fun _ _ => rfl, fun _ _ => rfl, fun _ _ => rfl⟩
theorem Low.trans {a i l l1 l2 o : Nat} {G G1 G2 : Mem} (h : Low a i l l1 o G G1) (h2 : Low a i l1 l2 o G1 G2) : Low a i l l2 o G G2 :=
  ⟨fun j hj => (h2.1 j hj).trans (h.1 j hj), fun j hj => (h2.2.1 j hj).trans (h.2.1 j hj), fun j hj => (h2.2.2.1 j hj).trans (h.2.2.1 j hj), fun j hj => (h2.2.2.2.1 j hj).trans (h.2.2.2.1 j hj), fun j hj => (h2.2.2.2.2 j hj).trans (h.2.2.2.2 j hj)⟩
theorem SLay.low {a i l l' o q : Nat} {G G' : Mem} {L : Lay} (h : SLay G a q L) (hL : lyc L ≤ 40) (hq : q ≤ i) (hl : Low a i l l' o G G') : SLay G' a q L := by
  obtain ⟨h1, h2⟩ := h
  refine ⟨(hl.1 q (by omega)).trans h1, fun p hp => ⟨(hl.2.1 _ (by omega)).trans (h2 p hp).1, PK_cong (h2 p hp).2 fun j hj => hl.2.2.1 _ (by omega)⟩⟩
theorem SEdg.low {a i l l' o q oq : Nat} {G G' : Mem} {E : Edg} (h : SEdg G a l q oq E) (hq : q < i) (ho : oq + egc E ≤ o) (hl : Low a i l l' o G G') : SEdg G' a l' q oq E := by
  obtain ⟨h1, h2, h3⟩ := h
  exact ⟨(hl.2.2.2.1 q (by omega)).trans h1, (hl.2.2.2.1 (q + 1) (by omega)).trans h2, fun e he => (hl.2.2.2.2 _ (by omega)).trans (h3 e he)⟩
theorem mvl_len {c n : Nat} (hn : n ≤ 36) {N : Nat → Int32} {P : Nat → Nat} (W : WFP n P) {col : Nat} (hcol : col < 2) : (mvl c n N P col).length ≤ 315 := by
  have := lstF_cnt (c := c) (N := N) (P := P) (col := col) hn n (Nat.le_refl _)
  have := W.2.2.2.2 col hcol
  unfold mvl
  omega
theorem EvOK.wfp {c n : Nat} {N : Nat → Int32} {col : Nat} {Lp : Lay} {m : Nat × Nat × Nat} (W : WFP n (lyp Lp m.1)) (hm : EvOK c n N col Lp m) : WFP n (mvd (lyp Lp m.1) m.2.1 m.2.2) := by
  obtain ⟨m1, m2, m3, m4, m5, m6⟩ := hm
  unfold tgtB at m6
  simp only [Bool.and_eq_true, Bool.or_eq_true, Bool.not_eq_true', beq_iff_eq, decide_eq_false_iff_not] at m6
  obtain ⟨t1, t2, t3, t4, t5, t6⟩ := m6
  exact WFP_mvd W m2 m3 (rch_ne t1) (by have := (own_iff.mp m4).1; omega) (t2.elim (fun q => Or.inr q) (fun q => Or.inl q.2))
theorem evP_ok {c n : Nat} {N : Nat → Int32} {col : Nat} {Lp : Lay} {p : Nat} (hp : p < lyc Lp) : ∀ m ∈ evP c n N col Lp p, EvOK c n N col Lp m := by
  intro m hm
  unfold evP at hm
  rw [List.mem_map] at hm
  obtain ⟨q, hq, rfl⟩ := hm
  exact ⟨hp, mem_mvl.mp hq⟩
theorem evs_ok {c n : Nat} {N : Nat → Int32} {col : Nat} {Lp : Lay} {k : Nat} (hk : k ≤ lyc Lp) : ∀ m ∈ evs c n N col Lp k, EvOK c n N col Lp m := by
  intro m hm
  unfold evs at hm
  rw [List.mem_flatMap] at hm
  obtain ⟨p, hp, h⟩ := hm
  exact evP_ok (by have := List.mem_range.mp hp; omega) m h
theorem evs_RI {c n : Nat} {N : Nat → Int32} {col : Nat} (hcol : col < 2) {Lp : Lay} (hW : ∀ p, p < lyc Lp → WFP n (lyp Lp p)) {k : Nat} (hk : k ≤ lyc Lp) {st : Lay × Edg} (h : runL n Lp (evs c n N col Lp k) (Ly0, Eg0) = some st) : RI c n col Lp (evs c n N col Lp k) st := by
  have := RI.run hcol hW _ [] _ _ RI.nil (evs_ok hk) h
  rwa [List.nil_append] at this
theorem mover_ok {a i : Nat} {G : Mem} (hi : i < 2147483648) : fX3_mover a (nW i) G = some (nW (i % 2), G) := by
  unfold fX3_mover fX3_mover_0 fX3_mover_11
  simp only [lits]
  rw [nW_rem hi (by decide)]
  by_cases h : i % 2 = 0
  · rw [h, if_pos rfl]
  · have : i % 2 = 1 := by omega
    rw [this, if_neg (by decide)]
theorem getD_take {α : Type} (l : List α) (d : α) {j : Nat} (hj : j < l.length) : l.take (j + 1) = l.take j ++ [l.getD j d] := by
  rw [List.take_succ, List.getElem?_eq_getElem hj, List.getD_eq_getElem?_getD, List.getElem?_eq_getElem hj]
  rfl
section FOLLOW
variable {c r a i o : Nat} {N : Nat → Int32}
/-- the moves of one position -/
theorem moves_loop (hs : szs c r) (hi : i < 10) {p : Nat} {Lp : Lay} (hp : p < lyc Lp) (hp40 : lyc Lp ≤ 40) (hW : ∀ p, p < lyc Lp → WFP (c * r) (lyp Lp p)) {G1 : Mem} {l1 K1 : Nat} (hFG : FG c r a G1 l1 K1 G1 l1 K1) (hLp : SLay G1 a i Lp) {st1 : Lay × Edg}
    (hR : runL (c * r) Lp (evs c (c * r) N (i % 2) Lp p) (Ly0, Eg0) = some st1) (hL : SLay G1 a (i + 1) st1.1) (hE : SEdg G1 a l1 i o st1.2) (hle : o + egc st1.2 ≤ 250 * 2 ^ K1) (ho : o ≤ 1600 * i) (hM : MVL (mI G1) (a + 1) (mvl c (c * r) N (lyp Lp p) (i % 2))) :
    ∃ res Gf, loopM (fun (s : Int32) G => fX3_follow_78 a (nW i) (nW p) (nW (mvl c (c * r) N (lyp Lp p) (i % 2)).length) s G) FU (nW 0) G1 = some (res, Gf) ∧ ∃ l K, FG c r a G1 l1 K1 Gf l K ∧
      ((∃ st', runL (c * r) Lp (evP c (c * r) N (i % 2) Lp p) st1 = some st' ∧ res = .inl (nW (p + 1)) ∧ Low a i l1 l o G1 Gf ∧ SLay Gf a (i + 1) st'.1 ∧ SEdg Gf a l i o st'.2 ∧ o + egc st'.2 ≤ 250 * 2 ^ K) ∨
       (runL (c * r) Lp (evP c (c * r) N (i % 2) Lp p) st1 = none ∧ res = .inr (.inr (-nW 1)))) := by
  have hcol : i % 2 < 2 := Nat.mod_lt _ (by decide)
  have hn : c * r ≤ 36 := szs36 hs
  have W := hW p hp
  have ml := mvl_len (c := c) (N := N) hn W hcol
  have hRI := evs_RI hcol hW (Nat.le_of_lt hp) hR
  generalize hms : mvl c (c * r) N (lyp Lp p) (i % 2) = ms at *
  have hev : evP c (c * r) N (i % 2) Lp p = ms.map fun m => (p, m.1, m.2) := by unfold evP; rw [hms]
  have inb : ∀ j, j ≤ ms.length → ∀ m ∈ (ms.take j).map (fun m : Nat × Nat => (p, m.1, m.2)), EvOK c (c * r) N (i % 2) Lp m := fun j _ m hm => evP_ok hp m (by
    rw [hev]
    exact (List.Sublist.map _ (List.take_sublist _ _)).subset hm)
  have run : ∀ j st, j ≤ ms.length → runL (c * r) Lp ((ms.take j).map fun m => (p, m.1, m.2)) st1 = some st → RI c (c * r) (i % 2) Lp (evs c (c * r) N (i % 2) Lp p ++ (ms.take j).map fun m => (p, m.1, m.2)) st := fun j st hj h => RI.run hcol hW _ _ _ _ hRI (inb j hj) h
  have srt : ∀ j, (evs c (c * r) N (i % 2) Lp p ++ (ms.take j).map fun m => (p, m.1, m.2)).Pairwise fun a b => evc a < evc b := fun j => by
    refine List.Pairwise.sublist ?_ (evs_sorted (c := c) hn (N := N) (col := i % 2) (Lp := Lp) (k := p + 1))
    rw [evs_succ, hev]
    exact List.Sublist.append (List.Sublist.refl _) (List.Sublist.map _ (List.take_sublist _ _))
  refine loop_by (f := fun (s : Int32) G => fX3_follow_78 a (nW i) (nW p) (nW ms.length) s G)
    (fun k s G => ∃ j l K st, k = ms.length - j ∧ j ≤ ms.length ∧ s = nW j ∧ FG c r a G1 l1 K1 G l K ∧ Low a i l1 l o G1 G ∧ mI G (a + 1) = mI G1 (a + 1) ∧ mI G (a + 2) = mI G1 (a + 2) ∧ SLay G a (i + 1) st.1 ∧ SEdg G a l i o st.2 ∧ o + egc st.2 ≤ 250 * 2 ^ K ∧ runL (c * r) Lp ((ms.take j).map fun m => (p, m.1, m.2)) st1 = some st) _ ?_ FU ms.length (nW 0) G1 (by show ms.length < 100000; omega)
    ⟨0, l1, K1, st1, rfl, Nat.zero_le _, rfl, hFG, Low.rfl', rfl, rfl, hL, hE, hle, rfl⟩
  rintro k s G ⟨j, l, K, st, rfl, hj, rfl, g1, g2, g3, g4, g5, g6, g7, g8⟩
  by_cases hend : j = ms.length
  · left
    subst hend
    rw [List.take_length, ← hev] at g8
    refine ⟨.inl (nW (p + 1)), G, ?_, l, K, g1, Or.inl ⟨st, g8, rfl, g2, g5, g6, g7⟩⟩
    show fX3_follow_78 _ _ _ _ _ _ = _
    unfold fX3_follow_78 fX3_follow_112
    rw [if_pos (by rw [nW_le (by omega) (by omega)]; omega)]
    simp only [lits, nW_add]
    rfl
  · have hj : j < ms.length := by omega
    have hm := inb (j + 1) hj (p, (ms.getD j (0, 0)).1, (ms.getD j (0, 0)).2) (by rw [getD_take ms (0, 0) hj, List.map_append]; exact List.mem_append.mpr (Or.inr List.mem_cons_self))
    have hRj := run j st (by omega) g8
    have hLp' := hLp.low hp40 (Nat.le_refl i) g2
    obtain ⟨s1, s2, s3, s4, s5, s6, s7, s8⟩ := g1.start
    obtain ⟨lt1, lt2⟩ := s1.1.lts s2
    have hlp := s1.2.2
    obtain ⟨G', l', K', v, e1, e2, e3, e4, e5, e6, e7, e8⟩ := makeMove_ok s1 s2 s3 hn hi hLp' hp hp40 W hm.2.1 hm.2.2.1 (EvOK.wfp (W := W) hm) g5 hRj.2.1 (fun q hq => (hRj.2.2.1 q hq).1) g6 (fun hne => by
      obtain ⟨st', e⟩ := Option.ne_none_iff_exists'.mp hne
      have hR' := RI.step hcol hW hRj hm e
      have hlen := hR'.len hp40 (by
        have := srt (j + 1)
        rw [getD_take ms (0, 0) hj, List.map_append, ← List.append_assoc] at this
        exact this)
      rw [List.length_append] at hlen
      have h1 : ([(p, (ms.getD j (0, 0)).1, (ms.getD j (0, 0)).2)] : List (Nat × Nat × Nat)).length = 1 := rfl
      have := hRj.1
      omega) g7
    have hFG' : FG c r a G l K G' l' K' := by
      have k : ∀ b, b = a + 1 ∨ b = a + 2 ∨ b = a + 3 → mI G' b = mI G b := fun b hb => (e5.2.2 b (by omega) (by unfold CHs; omega)).1
      refine ⟨e2, e3, e4, ⟨e5.1, e5.2.1, fun b hb hn => e5.2.2 b hb (fun q => hn (Or.inl q))⟩, e6, ?_, ?_, e7⟩
      · rw [k _ (by omega)]; exact s6
      · intro q hq ho
        rw [k _ (by omega)]; exact s7 q hq ho
    have hval : gA G 1 (a + 2) (nW j) = some (nW ((ms.getD j (0, 0)).1 * 64 + (ms.getD j (0, 0)).2)) := by
      have hb := s1.1.b
      have := gA_wij (x := mI G) (y := mJ G) hb.2.2.2.1 (i := j) (by rw [hb.2.2.2.2.1]; omega) (by rw [hb.2.2.2.2.1]; omega)
      rw [wij_self, g4, hM.2 j hj] at this
      exact this
    have body : fX3_follow_78 a (nW i) (nW p) (nW ms.length) (nW j) G = if v = nW 0 then some (.inr (.inr (.inr (-nW 1))), G') else some (.inl (nW (j + 1)), G') := by
      unfold fX3_follow_78 fX3_follow_104
      rw [if_neg (by rw [nW_le (by omega) (by omega)]; omega), s1.1.g0, Option.bind_some, gR_ok s1.1.b.1 s1.1.b.2.1, Option.bind_some]
      rw [hval, Option.bind_some, ck_ok s1.1.t, e1, Option.bind_some]
      simp only [lits, nW_add]
      rfl
    rcases e8 with ⟨x1, x2⟩ | ⟨st', x1, x2, x3, x4, x5, x6⟩
    · left
      refine ⟨.inr (.inr (-nW 1)), G', ?_, l', K', g1.trans hFG', Or.inr ⟨?_, rfl⟩⟩
      · show fX3_follow_78 _ _ _ _ _ _ = _
        rw [body, x2, if_pos rfl]
      · rw [hev, ← List.take_append_drop (j + 1) ms, getD_take ms (0, 0) hj, List.map_append, List.map_append, List.append_assoc, runL_app, g8]
        show ((amv (c * r) Lp (p, (ms.getD j (0, 0)).1, (ms.getD j (0, 0)).2) st).bind _) = none
        rw [x1]; rfl
    · right
      have k : ∀ b, b = a + 1 ∨ b = a + 2 → mI G' b = mI G b := fun b hb => (e5.2.2 b (by omega) (by unfold CHs; omega)).1
      refine ⟨ms.length - (j + 1), nW (j + 1), G', by omega, ?_, j + 1, l', K', st', rfl, hj, rfl, g1.trans hFG', g2.trans x3, (k _ (by omega)).trans g3, (k _ (by omega)).trans g4, x4, x5, x6, ?_⟩
      · show fX3_follow_78 _ _ _ _ _ _ = _
        rw [body, x2, if_neg (by decide)]
      · rw [getD_take ms (0, 0) hj, List.map_append, runL_app, g8]
        show ((amv (c * r) Lp (p, (ms.getD j (0, 0)).1, (ms.getD j (0, 0)).2) st).bind _) = some st'
        rw [x1]; rfl
end FOLLOW
