/-! ===== following in a state, whose notes are known by their seven fields ===== -/
section CONG
variable {c n m : Nat} {N N' : Nat → Nat → Int32} {P0 : Nat → Nat}
theorem mvl_cong {M M' : Nat → Int32} (h : ∀ j, j < 7 → M j = M' j) {P : Nat → Nat} {col : Nat} : mvl c n M P col = mvl c n M' P col := by
  unfold mvl lstF lstT orgB tgtB
  rw [h 0 (by decide), h 1 (by decide), h 2 (by decide), h 3 (by decide), h 4 (by decide), h 5 (by decide), h 6 (by decide)]
theorem stepL_cong {M M' : Nat → Int32} (h : ∀ j, j < 7 → M j = M' j) {col : Nat} {L : Lay} : stepL c n M col L = stepL c n M' col L := by
  unfold stepL evs
  have : evP c n M col L = evP c n M' col L := by
    funext p
    unfold evP
    rw [mvl_cong h]
  rw [this]
theorem lyN_cong : ∀ {i : Nat}, (∀ k, k < i → ∀ j, j < 7 → N k j = N' k j) → lyN c n N P0 i = lyN c n N' P0 i := by
  intro i
  induction i with
  | zero => intro _; rfl
  | succ i ih =>
    intro h
    show (stepL c n (N i) (i % 2) (lyN c n N P0 i).1).getD (Ly0, Eg0) = (stepL c n (N' i) (i % 2) (lyN c n N' P0 i).1).getD (Ly0, Eg0)
    rw [ih (fun k hk => h k (by omega)), stepL_cong (h i (Nat.lt_succ_self _))]
theorem okN_cong (h : ∀ k, k < m → ∀ j, j < 7 → N k j = N' k j) (hok : okN c n N P0 m) : okN c n N' P0 m := by
  intro i hi
  have := hok i hi
  rw [lyN_cong (N' := N') (fun k hk => h k (by omega)), lyN_cong (N' := N') (fun k hk => h k (by omega)), stepL_cong (h i hi)] at this
  exact this
theorem ofs_cong (h : ∀ k, k < m → ∀ j, j < 7 → N k j = N' k j) : ∀ {i : Nat}, i ≤ m → ofs c n N P0 i = ofs c n N' P0 i := by
  intro i hi
  refine sumN_cong _ (fun k hk => ?_)
  rw [lyN_cong (N' := N') (fun q hq => h q (by omega))]
theorem LRep.cong {G : Mem} {a l : Nat} (h : ∀ k, k < m → ∀ j, j < 7 → N k j = N' k j) (hr : LRep G a l c n N P0 m) : LRep G a l c n N' P0 m := by
  refine ⟨fun i hi => ?_, fun i hi e he => ?_⟩
  · have := hr.1 i hi
    rw [lyN_cong (N' := N') (fun k hk => h k (by omega)), ofs_cong h hi] at this
    exact this
  · rw [← lyN_cong (N := N) (fun k hk => h k (by omega))] at he ⊢
    rw [← ofs_cong h (by omega)]
    exact hr.2 i hi e he
theorem folV_cong (h : ∀ k, k < m → ∀ j, j < 7 → N k j = N' k j) : ∀ (d : Nat) {i : Nat}, i + d ≤ m → folV c n N P0 d i = folV c n N' P0 d i := by
  intro d
  induction d with
  | zero =>
    intro i hi
    show nW (lyc (lyN c n N P0 i).1) = nW (lyc (lyN c n N' P0 i).1)
    rw [lyN_cong (N' := N') (fun k hk => h k (by omega))]
  | succ d ih =>
    intro i hi
    show (match stepL c n (N i) (i % 2) (lyN c n N P0 i).1 with
      | none => -nW 1
      | some q => if lyc q.1 = 0 then nW 0 else folV c n N P0 d (i + 1)) = (match stepL c n (N' i) (i % 2) (lyN c n N' P0 i).1 with
      | none => -nW 1
      | some q => if lyc q.1 = 0 then nW 0 else folV c n N' P0 d (i + 1))
    rw [lyN_cong (N' := N') (fun k hk => h k (by omega)), stepL_cong (h i (by omega)), ih (by omega)]
end CONG
section REFOL
variable {G : Mem} {a l K c r m : Nat} {N : Nat → Nat → Int32} {P0 : Nat → Nat}
theorem refollow_ok (hs : szs c r) (W : WFP (c * r) P0) (h : SS G a l K) (hF : Frsh G) (hr : Rm G K) (hdim : mI G (a + 1) 0 = nW c ∧ mI G (a + 1) 1 = nW r) (hoff : BOff c r (mI G) (a + 1)) {first : Nat} (hm : m ≤ 10) (hmc : mI G a 1 = nW m) (hN : ∀ i, i < m → ∀ j, j < 7 → mI G (a + 11 + i) j = N i j) (hf : first ≤ m) (hok : okN c (c * r) N P0 first) (hrep : LRep G a l c (c * r) N P0 first) (hle : ofs c (c * r) N P0 first ≤ 250 * 2 ^ K) :
    ∃ Gf l' K', fX3_follow a (nW first) G = some (folV c (c * r) N P0 (m - first) first, Gf) ∧ SS Gf a l' K' ∧ Frsh Gf ∧ Rm Gf K' ∧ Gro a (CHf a l) G Gf K K' ∧ (l' = l ∨ mz G ≤ l') ∧ mI Gf (a + 9) 0 = nW 0 ∧ (okN c (c * r) N P0 m → ARep Gf a l' K' c r N P0 m) := by
  have cg : ∀ k, k < m → ∀ j, j < 7 → (fun i => mI G (a + 11 + i)) k j = N k j := hN
  have cg' : ∀ k, k < m → ∀ j, j < 7 → N k j = (fun i => mI G (a + 11 + i)) k j := fun k hk j hj => (hN k hk j hj).symm
  have cf' : ∀ k, k < first → ∀ j, j < 7 → N k j = (fun i => mI G (a + 11 + i)) k j := fun k hk j hj => cg' k (by omega) j hj
  have hFG : FG c r a G l K G l K := ⟨h, hF, hr, Gro.rfl', Or.inl rfl, hdim, hoff, rfl⟩
  obtain ⟨Gf, e1, l', K', e2, e3⟩ := follow_ok (N := fun i => mI G (a + 11 + i)) hs hFG hm hmc (fun _ _ => rfl) W hf (okN_cong cf' hok) (hrep.cong cf') (by rw [← ofs_cong cf' (Nat.le_refl _)]; exact hle)
  rw [folV_cong cg _ (by omega)] at e1
  obtain ⟨lt1, lt2⟩ := h.1.lts hF
  have hlp := h.2.2
  have h0 : mI G (a + 9) 0 = nW 0 := (hrep.1 0 (Nat.zero_le _)).2
  refine ⟨Gf, l', K', e1, e2.1, e2.2.1, e2.2.2.1, e2.2.2.2.1, e2.2.2.2.2.1, e2.2.2.2.2.2.2.2.trans h0, fun hokm => ?_⟩
  obtain ⟨f1, f2⟩ := e3 (okN_cong cg' hokm)
  refine ⟨e2.1, e2.2.2.2.2.2.1, e2.2.2.2.2.2.2.1, ?_, fun i hi j hj => ?_, f1.cong cg, by rw [← ofs_cong cg (Nat.le_refl _)]; exact f2⟩
  · rw [(e2.row (b := a) (by omega) (CHf.not hlp (Or.inl rfl))).1]; exact hmc
  · rw [(e2.row (b := a + 11 + i) (by omega) (CHf.not hlp (by omega))).1]; exact hN i hi j hj
/-- what a state is after a note more -/
def addN (N : Nat → Nat → Int32) (m : Nat) (nt : Nat → Int32) : Nat → Nat → Int32 := updF N m nt
theorem addN_low {nt : Nat → Int32} : ∀ k, k < m → ∀ j, j < 7 → N k j = addN N m nt k j := fun k hk j _ => by
  unfold addN updF
  rw [if_neg (by omega)]
/-- a note more, if there is room, and what follows -/
theorem addLast_ok (hA : AOK c r N P0 m) (h : ARep G a l K c r N P0 m) (hF : Frsh G) {nt : Nat} (hnt : mt G nt = 11) (hn1 : nt < a ∨ a + 21 ≤ nt) (h5 : mI G nt 5 = 0 ∨ mI G nt 5 = 1) (h6 : mI G nt 6 = 0 ∨ mI G nt 6 = 1) :
    fX3_addLast a nt G = if m < 10 then some (nW 1, wIJ G (ncp (u2 (mI G) a 1 (nW (m + 1))) (a + 11 + m) nt) (mJ G)) else some (nW 0, G) := by
  obtain ⟨g1, g2, g3, g4, g5, g6, g7⟩ := h
  have hm := hA.2.2.1
  have hS := g1.1
  have f1 : gF G 13 a 1 = some (nW m) := by
    have := gF_wij (x := mI G) (y := mJ G) hS.t (k := 1)
    rw [wij_self, g4] at this; exact this
  have p1 : ∀ v, pI G 13 a 1 v = some (wIJ G (u2 (mI G) a 1 v) (mJ G)) := fun v => by
    have := pI_wij (x := mI G) (y := mJ G) hS.t (k := 1) (v := v)
    rw [wij_self] at this; exact this
  unfold fX3_addLast fX3_addLast_0
  simp only [lits]
  rw [f1, Option.bind_some]
  by_cases hc : m < 10
  · rw [if_pos (by rw [nW_lt (by omega) (by omega)]; exact hc), if_pos hc, hS.g2, Option.bind_some, Option.bind_some, p1, Option.bind_some, gQ_wij, hS.nt hc, Option.bind_some, ck_wij, ck_ok (hS.nk hc), nW_add, noteCopy_ok (hS.nk hc) hnt (by omega) (by rw [u2_apart (by omega)]; exact h5) (by rw [u2_apart (by omega)]; exact h6), Option.bind_some]
  · rw [if_neg (by rw [nW_lt (by omega) (by omega)]; exact hc), if_neg hc]
theorem addFollow_ok (hA : AOK c r N P0 m) (h : ARep G a l K c r N P0 m) (hF : Frsh G) (hr : Rm G K) (hc : m < 10) {nt : Nat} (hn1 : nt < a ∨ a + 21 ≤ nt) :
    ∃ Gf l' K', fX3_follow a (nW m) (wIJ G (ncp (u2 (mI G) a 1 (nW (m + 1))) (a + 11 + m) nt) (mJ G)) = some (folV c (c * r) (addN N m (mI G nt)) P0 1 m, Gf) ∧ SS Gf a l' K' ∧ Frsh Gf ∧ Rm Gf K' ∧ Gro a (CHa a l) G Gf K K' ∧ (l' = l ∨ mz G ≤ l') ∧ mI Gf (a + 9) 0 = nW 0 ∧ (okN c (c * r) (addN N m (mI G nt)) P0 (m + 1) → ARep Gf a l' K' c r (addN N m (mI G nt)) P0 (m + 1)) := by
  obtain ⟨g1, g2, g3, g4, g5, g6, g7⟩ := h
  obtain ⟨hs, W, hm, hok, hwn⟩ := hA
  obtain ⟨lt1, lt2⟩ := g1.1.lts hF
  have hlp := g1.2.2
  generalize hx : ncp (u2 (mI G) a 1 (nW (m + 1))) (a + 11 + m) nt = x
  have xo : ∀ b, b ≠ a → b ≠ a + 11 + m → x b = mI G b := fun b q1 q2 => by
    funext j
    rw [← hx]
    unfold ncp
    rw [if_neg (fun q => q2 q.1), u2_apart q1]
  have xa : x a 1 = nW (m + 1) := by
    rw [← hx]
    unfold ncp
    rw [if_neg (by omega), u2_same]
  have xn : ∀ j, j < 7 → x (a + 11 + m) j = mI G nt j := fun j hj => by
    rw [← hx]
    unfold ncp
    rw [if_pos ⟨rfl, hj⟩, u2_apart (by omega)]
  have low := addN_low (m := m) (N := N) (nt := mI G nt)
  have hrep : LRep (wIJ G x (mJ G)) a l c (c * r) N P0 m := g6.copy W hok (fun j _ => by show x (a + 5) j = _; rw [xo _ (by omega) (by omega)]) (fun _ _ => rfl) (fun _ _ => rfl) (fun j _ => by show x (a + 9) j = _; rw [xo _ (by omega) (by omega)]) (fun j _ => by show x l j = _; rw [xo _ (by omega) (by omega)])
  obtain ⟨Gf, l', K', e1, e2, e3, e4, e5, e6, e7, e8⟩ := refollow_ok (G := wIJ G x (mJ G)) (N := addN N m (mI G nt)) (m := m + 1) (first := m) hs W g1 hF hr (by show x (a + 1) 0 = _ ∧ x (a + 1) 1 = _; rw [xo _ (by omega) (by omega)]; exact g2) (by show BOff c r x _; intro p hp ho; rw [xo _ (by omega) (by omega)]; exact g3 p hp ho) (by omega) xa (fun i hi j hj => by
    show x (a + 11 + i) j = _
    unfold addN updF
    by_cases e : i = m
    · rw [if_pos e, e]; exact xn j hj
    · rw [if_neg e, xo _ (by omega) (by omega)]; exact g5 i (by omega) j hj) (Nat.le_succ _) (okN_cong low hok) (hrep.cong low) (by rw [← ofs_cong low (Nat.le_refl _)]; exact g7)
  rw [show m + 1 - m = 1 by omega] at e1
  refine ⟨Gf, l', K', e1, e2, e3, e4, ?_, e6, e7, e8⟩
  refine ⟨e5.1, e5.2.1, fun b hb hn => ?_⟩
  obtain ⟨q1, q2⟩ := e5.2.2 b hb (fun q => hn q.cha)
  refine ⟨q1.trans ?_, q2⟩
  show x b = mI G b
  unfold CHa at hn
  exact xo b (by omega) (by omega)
end REFOL
