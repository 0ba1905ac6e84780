/-! ===== an origin is set; a note is dropped; what is read of a state ===== -/
section ORG
variable {G : Mem} {a l K c r m : Nat} {N : Nat → Nat → Int32} {P0 : Nat → Nat}
theorem LRep.mono {n k : Nat} (h : LRep G a l c n N P0 m) (hk : k ≤ m) : LRep G a l c n N P0 k := ⟨fun i hi => h.1 i (by omega), fun i hi => h.2 i (by omega)⟩
theorem AOK.mono {k : Nat} (h : AOK c r N P0 m) (hk : k ≤ m) : AOK c r N P0 k := ⟨h.1, h.2.1, Nat.le_trans hk h.2.2.1, h.2.2.2.1.mono hk, fun i hi => h.2.2.2.2 i (by omega)⟩
def orgN (N : Nat → Nat → Int32) (k : Nat) (cx ry : Int32) : Nat → Nat → Int32 := updF N k fun j => if j = 1 then cx else if j = 2 then ry else N k j
theorem setOrigin_ok (h : SS G a l K) (hm : m ≤ 10) (hmc : mI G a 1 = nW m) {k : Nat} (hk : k < m) {cx ry : Int32} : fX3_setOrigin a (nW k) cx ry G = some ((), wIJ G (u2 (u2 (mI G) (a + 11 + k) 1 cx) (a + 11 + k) 2 ry) (mJ G)) := by
  have hS := h.1
  have f1 : gF G 13 a 1 = some (nW m) := by
    have := gF_wij (x := mI G) (y := mJ G) hS.t (k := 1)
    rw [wij_self, hmc] at this; exact this
  have p1 : ∀ v, pI G 11 (a + 11 + k) 1 v = some (wIJ G (u2 (mI G) (a + 11 + k) 1 v) (mJ G)) := fun v => by
    have := pI_wij (x := mI G) (y := mJ G) (hS.nk (i := k) (by omega)) (k := 1) (v := v)
    rw [wij_self] at this; exact this
  unfold fX3_setOrigin fX3_setOrigin_0 fX3_setOrigin_32
  simp only [lits]
  rw [if_neg (nW_neg_lt (by omega)), f1, Option.bind_some, if_neg (by rw [nW_le (by omega) (by omega)]; omega), hS.g2, Option.bind_some, hS.nt (by omega), Option.bind_some, p1, Option.bind_some, gR_wij, hS.g2, Option.bind_some, gQ_wij, hS.nt (by omega), Option.bind_some, pI_wij (hS.nk (by omega)), Option.bind_some]
theorem orgN_low {k : Nat} {cx ry : Int32} : ∀ i, i < k → ∀ j, j < 7 → N i j = orgN N k cx ry i j := fun i hi j _ => by
  unfold orgN updF
  rw [if_neg (by omega)]
theorem orgFollow_ok (hA : AOK c r N P0 m) (h : ARep G a l K c r N P0 m) (hF : Frsh G) (hr : Rm G K) {k : Nat} (hk : k < m) {cx ry : Int32} :
    ∃ Gf l' K', fX3_follow a (nW k) (wIJ G (u2 (u2 (mI G) (a + 11 + k) 1 cx) (a + 11 + k) 2 ry) (mJ G)) = some (folV c (c * r) (orgN N k cx ry) P0 (m - k) k, Gf) ∧ SS Gf a l' K' ∧ Frsh Gf ∧ Rm Gf K' ∧ Gro a (CHa a l) G Gf K K' ∧ (l' = l ∨ mz G ≤ l') ∧ mI Gf (a + 9) 0 = nW 0 ∧ (okN c (c * r) (orgN N k cx ry) P0 m → ARep Gf a l' K' c r (orgN N k cx ry) P0 m) := by
  obtain ⟨g1, g2, g3, g4, g5, g6, g7⟩ := h
  obtain ⟨hs, W, hm, hok, hwn⟩ := hA
  obtain ⟨lt1, lt2⟩ := g1.1.lts hF
  have hlp := g1.2.2
  generalize hx : u2 (u2 (mI G) (a + 11 + k) 1 cx) (a + 11 + k) 2 ry = x
  have xo : ∀ b, b ≠ a + 11 + k → x b = mI G b := fun b q1 => by
    rw [← hx, u2_arow q1, u2_arow q1]
  have low := orgN_low (N := N) (k := k) (cx := cx) (ry := ry)
  have hrep : LRep (wIJ G x (mJ G)) a l c (c * r) N P0 m := g6.copy W hok (fun j _ => by show x (a + 5) j = _; rw [xo _ (by omega)]) (fun _ _ => rfl) (fun _ _ => rfl) (fun j _ => by show x (a + 9) j = _; rw [xo _ (by omega)]) (fun j _ => by show x l j = _; rw [xo _ (by omega)])
  have hof : ofs c (c * r) N P0 k ≤ ofs c (c * r) N P0 m := ofs_mono (by omega)
  obtain ⟨Gf, l', K', e1, e2, e3, e4, e5, e6, e7, e8⟩ := refollow_ok (G := wIJ G x (mJ G)) (N := orgN N k cx ry) (m := m) (first := k) hs W g1 hF hr (by show x (a + 1) 0 = _ ∧ x (a + 1) 1 = _; rw [xo _ (by omega)]; exact g2) (by show BOff c r x _; intro p hp ho; rw [xo _ (by omega)]; exact g3 p hp ho) hm (by show x a 1 = _; rw [xo _ (by omega)]; exact g4) (fun i hi j hj => by
    show x (a + 11 + i) j = _
    unfold orgN updF
    by_cases e : i = k
    · rw [if_pos e, e, ← hx]
      by_cases h2 : j = 2
      · rw [h2, u2_same, if_neg (by decide), if_pos rfl]
      · rw [u2_other (fun q => h2 q.2)]
        by_cases h1 : j = 1
        · rw [h1, u2_same, if_pos rfl]
        · rw [u2_other (fun q => h1 q.2), if_neg h1, if_neg h2]; exact g5 k hk j hj
    · rw [if_neg e, xo _ (by omega)]; exact g5 i hi j hj) (by omega) (okN_cong low (hok.mono (by omega))) ((hrep.mono (by omega)).cong low) (by rw [← ofs_cong low (Nat.le_refl _)]; omega)
  refine ⟨Gf, l', K', e1, e2, e3, e4, ?_, e6, e7, e8⟩
  refine ⟨e5.1, e5.2.1, fun b hb hn => ?_⟩
  obtain ⟨q1, q2⟩ := e5.2.2 b hb (fun q => hn q.cha)
  refine ⟨q1.trans ?_, q2⟩
  show x b = mI G b
  unfold CHa at hn
  exact xo b (by omega)
theorem drop_ok (hA : AOK c r N P0 m) (h : ARep G a l K c r N P0 m) {k : Nat} (hk : k ≤ m) : ARep (wIJ G (u2 (mI G) a 1 (nW k)) (mJ G)) a l K c r N P0 k := by
  obtain ⟨g1, g2, g3, g4, g5, g6, g7⟩ := h
  obtain ⟨hs, W, hm, hok, hwn⟩ := hA
  have hlp := g1.2.2
  have xo : ∀ b, b ≠ a → u2 (mI G) a 1 (nW k) b = mI G b := fun b q1 => u2_arow q1
  have hof : ofs c (c * r) N P0 k ≤ ofs c (c * r) N P0 m := ofs_mono hk
  refine ⟨g1, ?_, ?_, u2_same, fun i hi j hj => ?_, ?_, by omega⟩
  · show u2 _ _ _ _ _ _ = _ ∧ u2 _ _ _ _ _ _ = _
    rw [xo _ (by omega)]; exact g2
  · intro p hp ho
    show u2 _ _ _ _ _ _ = _
    rw [xo _ (by omega)]; exact g3 p hp ho
  · show u2 _ _ _ _ _ _ = _
    rw [xo _ (by omega)]; exact g5 i (by omega) j hj
  · exact (g6.mono hk).copy W (hok.mono hk) (fun j _ => by show u2 _ _ _ _ (a + 5) j = _; rw [xo _ (by omega)]) (fun _ _ => rfl) (fun _ _ => rfl) (fun j _ => by show u2 _ _ _ _ (a + 9) j = _; rw [xo _ (by omega)]) (fun j _ => by show u2 _ _ _ _ l j = _; rw [xo _ (by omega)])
/-! reads -/
/-- positions after the last note -/
abbrev pcn (c n : Nat) (N : Nat → Nat → Int32) (P0 : Nat → Nat) (m : Nat) : Nat := lyc (lyN c n N P0 m).1
theorem pcn_pos {n : Nat} (hok : okN c n N P0 m) : 0 < pcn c n N P0 m := by
  cases m with
  | zero => exact Nat.one_pos
  | succ m => exact Nat.pos_of_ne_zero (hok m (Nat.lt_succ_self _)).2
theorem ARep.cnt1 (h : ARep G a l K c r N P0 m) : gF G 13 a 1 = some (nW m) := by
  have := gF_wij (x := mI G) (y := mJ G) h.1.1.t (k := 1)
  rw [wij_self, h.2.2.2.1] at this; exact this
theorem ARep.poss (hA : AOK c r N P0 m) (h : ARep G a l K c r N P0 m) {i : Nat} (hi : i ≤ m) : gA G 1 (a + 5) (nW i) = some (nW (lyc (lyN c (c * r) N P0 i).1)) := by
  have hm := hA.2.2.1
  have := h.1.1.r5 (x := mI G) (y := mJ G) (i := i) (by omega)
  rw [wij_self, (h.2.2.2.2.2.1.1 i hi).1.1] at this; exact this
theorem positionCount_ok (hA : AOK c r N P0 m) (h : ARep G a l K c r N P0 m) : fX3_positionCount a G = some (nW (pcn c (c * r) N P0 m), G) := by
  unfold fX3_positionCount fX3_positionCount_0
  rw [h.1.1.g3, Option.bind_some, h.cnt1, Option.bind_some, h.poss hA (Nat.le_refl _)]; rfl
theorem contentAt_ok (hA : AOK c r N P0 m) (h : ARep G a l K c r N P0 m) {p q : Nat} (hp : p < pcn c (c * r) N P0 m) (hq : q < 48) : fX3_contentAt a (nW p) (nW q) G = some (nW (enc (lyp (lyN c (c * r) N P0 m).1 p q)), G) := by
  have hm := hA.2.2.1
  have h40 := (lyN_run hA.2.1 hA.2.2.2.1).1.1
  have hp : p < lyc (lyN c (c * r) N P0 m).1 := hp
  unfold fX3_contentAt fX3_contentAt_0
  have := read_ok (x := mI G) (y := mJ G) h.1.1 (i := m) (p := p) (q := q) (by omega) (by omega) hq
  rw [wij_self, ((h.2.2.2.2.2.1.1 m (Nat.le_refl _)).1.2 p hp).2 q hq] at this
  rw [h.cnt1, Option.bind_some, ck_ok h.1.1.t, this]; rfl
theorem gamesToLast_ok (hA : AOK c r N P0 m) (h : ARep G a l K c r N P0 m) {p : Nat} (hp : p < pcn c (c * r) N P0 m) : fX3_gamesToLast a (nW p) G = some (Int64.ofNat (lyg (lyN c (c * r) N P0 m).1 p), G) := by
  have hm := hA.2.2.1
  have h40 := (lyN_run hA.2.1 hA.2.2.2.1).1.1
  have hp : p < lyc (lyN c (c * r) N P0 m).1 := hp
  unfold fX3_gamesToLast fX3_gamesToLast_0
  have := gamesAt_ok (x := mI G) (y := mJ G) h.1.1 (i := m) (p := p) (by omega) (by omega)
  rw [wij_self, ((h.2.2.2.2.2.1.1 m (Nat.le_refl _)).1.2 p hp).1] at this
  rw [h.cnt1, Option.bind_some, ck_ok h.1.1.t, this]; rfl
/-- the games of a layer, up to a position -/
def gsm (L : Lay) (k : Nat) : Nat := sumN k (lyg L)
theorem gameTotal_ok (hA : AOK c r N P0 m) (h : ARep G a l K c r N P0 m) : fX3_gameTotal a G = some (Int64.ofNat (gsm (lyN c (c * r) N P0 m).1 (pcn c (c * r) N P0 m)), G) := by
  have h40 : pcn c (c * r) N P0 m ≤ 40 := (lyN_run hA.2.1 hA.2.2.2.1).1.1
  have hp : lyc (lyN c (c * r) N P0 m).1 = pcn c (c * r) N P0 m := rfl
  unfold fX3_gameTotal fX3_gameTotal_0
  simp only [lits]
  exact loop_to (f := fun (s : Int64 × Int32) G => fX3_gameTotal_4 a s.1 s.2 G) (fun i => (Int64.ofNat (gsm (lyN c (c * r) N P0 m).1 i), nW i)) (fun _ => G) (pcn c (c * r) N P0 m) _ G (fun i hi => by
    show fX3_gameTotal_4 _ _ _ _ = _
    unfold fX3_gameTotal_4
    rw [h.1.1.g3, Option.bind_some, h.cnt1, Option.bind_some, h.poss hA (Nat.le_refl _), Option.bind_some, if_neg (by rw [nW_le (by omega) (by omega)]; omega), ck_ok h.1.1.t, gamesToLast_ok hA h hi, Option.bind_some, ← Int64.ofNat_add]
    simp only [lits, nW_add]
    rfl) (by
    show fX3_gameTotal_4 _ _ _ _ = _
    unfold fX3_gameTotal_4 fX3_gameTotal_31
    rw [h.1.1.g3, Option.bind_some, h.cnt1, Option.bind_some, h.poss hA (Nat.le_refl _), Option.bind_some, if_pos (by rw [nW_le (by omega) (by omega)]; omega)]
    rfl) (pcn c (c * r) N P0 m) 0 FU (by omega) (by show _ < 100000; omega)
/-- the same content on a square in all positions of a layer -/
def smE (L : Lay) (q : Nat) : Bool := allN (lyc L) fun p => decide (lyp L p q = lyp L 0 q)
theorem encW_inj : ∀ m, m < 11 → ∀ m', m' < 11 → (nW (enc m) = nW (enc m') ↔ m = m') := by decide +kernel
end ORG
