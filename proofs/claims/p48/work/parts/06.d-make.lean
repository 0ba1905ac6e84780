/-! ===== a move is noted down ===== -/
theorem cnt_up {g : Nat → Bool} {k : Nat} {b : Bool} : ∀ n, k < n → cnt n (fun j => if j = k then b else g j) + (if g k = true then 1 else 0) = cnt n g + (if b = true then 1 else 0) := by
  have low : ∀ n, n ≤ k → cnt n (fun j => if j = k then b else g j) = cnt n g := by
    intro n
    induction n with
    | zero => intro _; rfl
    | succ n ih =>
      intro h
      show cnt n _ + (if (if n = k then b else g n) = true then 1 else 0) = cnt n g + _
      rw [ih (by omega), if_neg (show ¬ n = k by omega)]
  intro n
  induction n with
  | zero => intro h; omega
  | succ n ih =>
    intro h
    show cnt n _ + (if (if n = k then b else g n) = true then 1 else 0) + _ = cnt n g + (if g n = true then 1 else 0) + _
    by_cases e : n = k
    · subst e
      rw [if_pos rfl, low n (Nat.le_refl _)]; omega
    · rw [if_neg e]
      have := ih (by omega)
      omega
theorem WFP_mvd {n : Nat} {P : Nat → Nat} (W : WFP n P) {f t : Nat} (hf : f < n) (ht : t < n) (hne : f ≠ t) (hpf : P f ≠ 0) (htk : (P t - 1) % 5 ≠ 0 ∨ P t = 0) : WFP n (mvd P f t) := by
  refine ⟨mvd_lt W.1, fun k hk => ?_, ?_, ?_, fun col hcol => ?_⟩
  · show (if k = f then 0 else if k = t then P f else P k) = 0
    rw [if_neg (by omega), if_neg (by omega)]; exact W.2.1 k hk
  · obtain ⟨k, a1, a2, a3, -, -, a6⟩ := king_mvd W hf ht hne htk (show 0 < 2 by decide) hpf
    exact ⟨k, a1, a3, a6⟩
  · obtain ⟨k, a1, a2, a3, -, -, a6⟩ := king_mvd W hf ht hne htk (show 1 < 2 by decide) hpf
    exact ⟨k, a1, a3, a6⟩
  · have h1 := cnt_up (g := fun j => own (P j) col) (k := t) (b := own (P f) col) n ht
    have h2 := cnt_up (g := fun j => if j = t then own (P f) col else own (P j) col) (k := f) (b := false) n hf
    have e : (fun k => own (mvd P f t k) col) = fun j => if j = f then false else (if j = t then own (P f) col else own (P j) col) := by
      funext j
      show own (if j = f then 0 else if j = t then P f else P j) col = _
      by_cases h : j = f
      · rw [if_pos h, if_pos h]; rfl
      · rw [if_neg h, if_neg h]
        by_cases h2 : j = t
        · rw [if_pos h2, if_pos h2]
        · rw [if_neg h2, if_neg h2]
    rw [e]
    have := W.2.2.2.2 col hcol
    simp only [if_neg hne] at h2
    have hb : (if false = true then 1 else 0) = 0 := rfl
    rw [hb] at h2
    omega
def lnk (e : Nat × Nat × Nat × Nat) : Nat := (e.2.1 * 64 + e.1) * 4096 + (e.2.2.1 * 64 + e.2.2.2)
def SLay (G : Mem) (a i : Nat) (L : Lay) : Prop := mI G (a + 5) i = nW (lyc L) ∧ ∀ p, p < lyc L → mJ G (a + 6) (i * 40 + p) = Int64.ofNat (lyg L p) ∧ PK (mJ G (a + 7)) ((i * 40 + p) * 3) (lyp L p)
def SEdg (G : Mem) (a l i o : Nat) (E : Edg) : Prop := mI G (a + 9) i = nW o ∧ mI G (a + 9) (i + 1) = nW (o + egc E) ∧ ∀ e, e < egc E → mI G l (o + e) = nW (lnk (egd E e))
/-- what a move leaves of the layers and links below -/
def Low (a i l l' o : Nat) (G G' : Mem) : Prop := (∀ j, j ≠ i + 1 → mI G' (a + 5) j = mI G (a + 5) j) ∧ (∀ k, k < (i + 1) * 40 → mJ G' (a + 6) k = mJ G (a + 6) k) ∧ (∀ k, k < (i + 1) * 120 → mJ G' (a + 7) k = mJ G (a + 7) k) ∧ (∀ j, j ≠ i + 1 → mI G' (a + 9) j = mI G (a + 9) j) ∧ ∀ j, j < o → mI G' l' j = mI G l j
def CHs (a l b : Nat) : Prop := b = l ∨ b = a + 5 ∨ b = a + 6 ∨ b = a + 7 ∨ b = a + 8 ∨ b = a + 9
section MAKE
variable {G : Mem} {a l K : Nat}
theorem cpJ_row {α : Type} {f g : Nat → α} {p j : Nat} (hj : j < 3) : va_cpy f g p 0 3 j = f (p + j) := by
  rw [cpy_in (Nat.zero_le _) (by omega), Nat.sub_zero]
theorem PK_cong {v w : Nat → Int64} {o o' : Nat} {P : Nat → Nat} (h : PK v o P) (he : ∀ j, j < 3 → w (o' + j) = v (o + j)) : PK w o' P := fun q hq => by rw [he _ (by omega)]; exact h q hq
theorem makeMove_ok (h : SS G a l K) (hF : Frsh G) (hr : Rm G K) {n : Nat} (hn : n ≤ 36) {Lp : Lay} {i p f t o : Nat} {st : Lay × Edg} (hi : i < 10) (hLp : SLay G a i Lp) (hp : p < lyc Lp) (hp40 : lyc Lp ≤ 40) (W : WFP n (lyp Lp p)) (hf : f < n) (ht : t < n) (hW' : WFP n (mvd (lyp Lp p) f t))
    (hL : SLay G a (i + 1) st.1) (hL40 : lyc st.1 ≤ 40) (hLW : ∀ p, p < lyc st.1 → WFP n (lyp st.1 p)) (hE : SEdg G a l i o st.2) (ho : amv n Lp (p, f, t) st ≠ none → o + egc st.2 < 16000) (hle : o + egc st.2 ≤ 250 * 2 ^ K) :
    ∃ G' l' K' v, fX3_makeMove a (nW i) (nW p) (nW (f * 64 + t)) G = some (v, G') ∧ SS G' a l' K' ∧ Frsh G' ∧ Rm G' K' ∧ Gro a (CHs a l) G G' K K' ∧ (l' = l ∨ mz G ≤ l') ∧ mI G' (a + 9) 0 = mI G (a + 9) 0 ∧
      ((amv n Lp (p, f, t) st = none ∧ v = nW 0) ∨ ∃ st', amv n Lp (p, f, t) st = some st' ∧ v = nW 1 ∧ Low a i l l' o G G' ∧ SLay G' a (i + 1) st'.1 ∧ SEdg G' a l' i o st'.2 ∧ o + egc st'.2 ≤ 250 * 2 ^ K') := by
  have hS := h.1
  obtain ⟨lt1, lt2⟩ := hS.lts hF
  have hlp := h.2.2
  have h8 := hS.2.2.2.2.2.2.2.1
  have h7 := hS.2.2.2.2.2.2.1
  -- up to the position that was reached
  let y1 : Nat → Nat → Int64 := ur (mJ G) (a + 8) (va_cpy (mJ G (a + 7)) (mJ G (a + 8)) ((i * 40 + p) * 3) 0 3)
  have hy7 : y1 (a + 7) = mJ G (a + 7) := ur_arow (by omega)
  have pk1 : PK (y1 (a + 8)) 0 (lyp Lp p) := PK_cong (hLp.2 p hp).2 (fun j hj => by
    show ur (mJ G) (a + 8) _ (a + 8) (0 + j) = _
    rw [ur_same, Nat.zero_add, cpJ_row hj])
  have e1 : cpJ G (a + 7) (nW ((i * 40 + p) * 3)) (a + 8) (nW 0) (nW 3) = some (wIJ G (mI G) y1) := by
    have := cpJ_wij (G := G) (x := mI G) (y := mJ G) (a := a + 7) (b := a + 8) (p := (i * 40 + p) * 3) (q := 0) (n := 3) h7.1 h8.1 (by rw [h7.2]; omega) (by rw [h8.2]; omega) (by omega)
    rw [wij_self] at this
    exact this
  let y2 : Nat → Nat → Int64 := u2 y1 (a + 8) (t / 16) ((y1 (a + 8) (t / 16) &&& (((15 : Int64) <<< ((nW (t % 16 * 4)).toInt64 &&& 63)) ^^^ (-1 : Int64))) ||| ((nW (enc (lyp Lp p f))).toInt64 <<< ((nW (t % 16 * 4)).toInt64 &&& 63)))
  let y3 : Nat → Nat → Int64 := u2 y2 (a + 8) (f / 16) ((y2 (a + 8) (f / 16) &&& (((15 : Int64) <<< ((nW (f % 16 * 4)).toInt64 &&& 63)) ^^^ (-1 : Int64))) ||| ((nW 0).toInt64 <<< ((nW (f % 16 * 4)).toInt64 &&& 63)))
  have hel : enc (lyp Lp p f) < 16 := by
    have := W.1 f
    unfold enc
    split <;> omega
  have pk2 : PK (y2 (a + 8)) 0 (upN (lyp Lp p) t (lyp Lp p f)) := by
    have := setReached_PK pk1 (q := t) (by omega) hel rfl
    show PK (u2 y1 (a + 8) _ _ (a + 8)) 0 _
    rw [u2_eq]; exact this
  have pk3 : PK (y3 (a + 8)) 0 (mvd (lyp Lp p) f t) := by
    have := setReached_PK pk2 (q := f) (e := 0) (m := 0) (by omega) (by omega) rfl
    show PK (u2 y2 (a + 8) _ _ (a + 8)) 0 _
    rw [u2_eq]; exact this
  have y3o : ∀ b, b ≠ a + 8 → y3 b = mJ G b := fun b hb => by
    show u2 y2 (a + 8) _ _ b = _
    rw [u2_arow hb]
    show u2 y1 (a + 8) _ _ b = _
    rw [u2_arow hb]
    exact ur_arow hb
  have fr := findReached_ok (x := mI G) (y := y3) hS (i1 := i + 1) (by omega) (L := st.1) (Q := mvd (lyp Lp p) f t) hn hL40 hL.1 (fun q hq => by rw [y3o _ (by omega)]; exact (hL.2 q hq).2) pk3 (fun q hq => ⟨(hLW q hq).1, (hLW q hq).2.1⟩) ⟨hW'.1, hW'.2.1⟩
  have head : fX3_makeMove a (nW i) (nW p) (nW (f * 64 + t)) G = (ck (wIJ G (mI G) y3) 13 a <| (fX3_findReached a (nW (i + 1)) (wIJ G (mI G) y3)).bind fun q7 => (fX3_cellOf (nW (i + 1)) q7.1 q7.2).bind fun q10 =>
      if q10.1 = -nW 1 then some (nW 0, q10.2) else
      (gR q10.2 13 a 4).bind fun v9 => (gJ q10.2 v9 q10.1).bind fun v10 => (gR q10.2 13 a 4).bind fun v11 => (gJ q10.2 v11 (nW (i * 40 + p))).bind fun v12 =>
      (pJ q10.2 v9 q10.1 (v10 + v12)).bind fun G13 => ck G13 13 a <| (fX3_addLink a (nW i) ((((q7.1 <<< (nW 6 &&& nW 31)) ||| nW p) <<< (nW 12 &&& nW 31)) ||| nW (f * 64 + t)) G13).bind fun q14 => some (nW 1, q14.2)) := by
    unfold fX3_makeMove fX3_makeMove_0
    rw [cellOf_ok (by omega) (by omega), Option.bind_some]
    simp only [lits]
    rw [if_neg (nW_m1 (by omega)), hS.g5, Option.bind_some, hS.g6, Option.bind_some, nW_mul, e1, Option.bind_some]
    have sh1 : nW (f * 64 + t) >>> (nW 6 &&& nW 31) = nW f := by
      rw [nW_shr (by omega) (by decide)]
      congr 1
      show (f * 64 + t) / 64 = f
      omega
    have sh2 : nW (f * 64 + t) &&& nW 63 = nW t := by
      rw [nW_and63]; congr 1; omega
    have hread := read_ok (x := mI G) (y := y1) hS (i := i) (p := p) (q := f) (by omega) (by omega) (by omega)
    have hnib : nib (y1 (a + 7) ((i * 40 + p) * 3 + f / 16)) (f % 16) = enc (lyp Lp p f) := by
      rw [hy7]; exact (hLp.2 p hp).2 f (by omega)
    rw [hnib] at hread
    rw [sh1, sh2, ck_wij, ck_ok hS.t, hread, Option.bind_some, ck_wij, ck_ok hS.t]
    have s1 := setReached_ok (x := mI G) (y := y1) hS (q := t) (e := enc (lyp Lp p f)) (by omega) hel
    rw [s1, Option.bind_some, ck_wij, ck_ok hS.t]
    have s2 := setReached_ok (x := mI G) (y := y2) hS (q := f) (e := 0) (by omega) (by decide)
    show ((fX3_setReached a (nW f) (nW 0) (wIJ G (mI G) y2)).bind _) = _
    rw [s2, Option.bind_some]
    simp only [nW_add]
    rfl
  rw [head, ck_wij, ck_ok hS.t]
  have grow0 : ∀ (x' : Nat → Nat → Int32) (y' : Nat → Nat → Int64), (∀ b, ¬ CHs a l b → x' b = mI G b ∧ y' b = mJ G b) → Gro a (CHs a l) G (wIJ G x' y') K K := fun x' y' hh => Gro.of_wij (fun b _ hb => hh b hb)
  obtain ⟨f1, f2, f3⟩ := fxi_spec (n := n) (L := st.1) (Q := mvd (lyp Lp p) f t)
  by_cases h40 : fxi n st.1 (mvd (lyp Lp p) f t) = 40
  · rw [if_pos h40] at fr
    rw [fr, Option.bind_some, cellOf_m1 (by omega), Option.bind_some]
    simp only [if_pos]
    have ea : amv n Lp (p, f, t) st = none := by unfold amv; exact if_pos h40
    refine ⟨_, l, K, nW 0, rfl, h, hF, hr, grow0 _ _ (fun b hb => ⟨rfl, y3o b (fun q => hb (Or.inr (Or.inr (Or.inr (Or.inr (Or.inl q))))))⟩), Or.inl rfl, rfl, Or.inl ⟨ea, rfl⟩⟩
  · rw [if_neg h40] at fr
    -- the position's number, and the memory behind it
    obtain ⟨x5, y5, e5, k5a, k5b, k5c, k5d, k5e, k5f⟩ : ∃ (x5 : Nat → Nat → Int32) (y5 : Nat → Nat → Int64), fX3_findReached a (nW (i + 1)) (wIJ G (mI G) y3) = some (nW (fxi n st.1 (mvd (lyp Lp p) f t)), wIJ G x5 y5) ∧
        (∀ b, b ≠ a + 5 → x5 b = mI G b) ∧ (∀ b, b ≠ a + 6 → b ≠ a + 7 → b ≠ a + 8 → y5 b = mJ G b) ∧ (x5 (a + 5) = updF (mI G (a + 5)) (i + 1) (nW (lyc (addP st.1 (mvd (lyp Lp p) f t) (fxi n st.1 (mvd (lyp Lp p) f t)) (lyg Lp p))))) ∧
        (∀ k, k ≠ (i + 1) * 40 + fxi n st.1 (mvd (lyp Lp p) f t) → y5 (a + 6) k = mJ G (a + 6) k) ∧ (y5 (a + 6) ((i + 1) * 40 + fxi n st.1 (mvd (lyp Lp p) f t)) = if fxi n st.1 (mvd (lyp Lp p) f t) = lyc st.1 then 0 else mJ G (a + 6) ((i + 1) * 40 + fxi n st.1 (mvd (lyp Lp p) f t))) ∧
        ((∀ k, k < ((i + 1) * 40 + lyc st.1) * 3 → y5 (a + 7) k = mJ G (a + 7) k) ∧ (fxi n st.1 (mvd (lyp Lp p) f t) = lyc st.1 → PK (y5 (a + 7)) (((i + 1) * 40 + lyc st.1) * 3) (mvd (lyp Lp p) f t))) := by
      by_cases hnew : fxi n st.1 (mvd (lyp Lp p) f t) = lyc st.1
      · rw [if_pos hnew] at fr
        refine ⟨_, _, by rw [fr, hnew], fun b hb => u2_arow hb, fun b h1 h2 h3 => ?_, ?_, fun k hk => ?_, ?_, fun k hk => ?_, fun _ => ?_⟩
        · rw [u2_arow h1, ur_arow h2]; exact y3o b h3
        · rw [u2_eq]
          unfold addP
          rw [if_pos hnew]
          rfl
        · rw [u2_other (fun q => hk (by rw [hnew]; exact q.2)), ur_apart (by omega), y3o _ (by omega)]
        · rw [if_pos hnew, hnew, u2_same]
        · rw [u2_apart (by omega), ur_same, cpy_out (by omega), y3o _ (by omega)]
        · refine PK_cong pk3 (fun j hj => ?_)
          rw [u2_apart (by omega), ur_same, cpy_in (by omega) (by omega)]
          congr 1; omega
      · rw [if_neg hnew] at fr
        refine ⟨_, _, fr, fun b hb => rfl, fun b h1 h2 h3 => y3o b h3, ?_, fun k hk => by rw [y3o _ (by omega)], by rw [if_neg hnew, y3o _ (by omega)], fun k hk => by rw [y3o _ (by omega)], fun q => absurd q hnew⟩
        funext j
        unfold updF addP
        rw [if_neg hnew]
        by_cases hj : j = i + 1
        · rw [if_pos hj, hj]; exact hL.1
        · rw [if_neg hj]
    have hidx : fxi n st.1 (mvd (lyp Lp p) f t) < 40 := by omega
    generalize hid : fxi n st.1 (mvd (lyp Lp p) f t) = idx at *
    rw [e5, Option.bind_some, cellOf_ok (by omega) hidx, Option.bind_some]
    have ea : amv n Lp (p, f, t) st = some (addP st.1 (mvd (lyp Lp p) f t) idx (lyg Lp p), addE st.2 (p, idx, f, t)) := by
      unfold amv
      show (if fxi n st.1 (mvd (lyp Lp p) f t) = 40 then none else _) = _
      rw [hid, if_neg h40]
    have ho := ho (by rw [ea]; exact fun q => by cases q)
    simp only [nW_mul, nW_add]
    rw [if_neg (nW_m1 (by omega)), gR_wij, hS.g4, Option.bind_some, hS.r6 (by omega), Option.bind_some, Option.bind_some, hS.r6 (by omega), Option.bind_some, hS.w6 (by omega), Option.bind_some, ck_wij, ck_ok hS.t]
    have ev : ((((nW idx <<< (nW 6 &&& nW 31)) ||| nW p) <<< (nW 12 &&& nW 31)) ||| nW (f * 64 + t)) = nW (lnk (p, idx, f, t)) := by
      rw [nW_shl _ (by decide), nW_or 6 (by omega) (by omega), nW_shl _ (by decide), nW_or 12 (by omega) (by omega)]
      rfl
    rw [ev]
    -- the link
    have he9 : x5 (a + 9) (i + 1) = nW (o + egc st.2) := by rw [k5a _ (by omega)]; exact hE.2.1
    obtain ⟨G', l', K', g1, g2, g3, g4, g5, g6, g7, g8, g9, g10⟩ := addLink_ok (G := wIJ G x5 (u2 y5 (a + 6) ((i + 1) * 40 + idx) (y5 (a + 6) ((i + 1) * 40 + idx) + y5 (a + 6) (i * 40 + p)))) (a := a) (l := l) (K := K) (lk := nW (lnk (p, idx, f, t))) h hF hr (i := i) (e := o + egc st.2) hi he9 ho hle
    rw [g1, Option.bind_some]
    have la5 : l ≠ a + 5 := by omega
    have gI : ∀ b, b < mz G → b ≠ l → b ≠ a + 9 → mI G' b = x5 b := fun b hb h1 h2 => (g5.2.2 b hb (fun q => q.elim h1 h2)).1
    have gJ' : ∀ b, b < mz G → b ≠ l → b ≠ a + 9 → mJ G' b = u2 y5 (a + 6) ((i + 1) * 40 + idx) (y5 (a + 6) ((i + 1) * 40 + idx) + y5 (a + 6) (i * 40 + p)) b := fun b hb h1 h2 => (g5.2.2 b hb (fun q => q.elim h1 h2)).2
    have z5 : mI G' (a + 5) = x5 (a + 5) := gI _ (by omega) (by omega) (by omega)
    have z6 : mJ G' (a + 6) = u2 y5 (a + 6) ((i + 1) * 40 + idx) (y5 (a + 6) ((i + 1) * 40 + idx) + y5 (a + 6) (i * 40 + p)) (a + 6) := gJ' _ (by omega) (by omega) (by omega)
    have z7 : mJ G' (a + 7) = y5 (a + 7) := by rw [gJ' _ (by omega) (by omega) (by omega), u2_arow (by omega)]
    have hlx : ∀ j, x5 l j = mI G l j := fun j => by rw [k5a _ la5]
    refine ⟨G', l', K', nW 1, rfl, g2, g3, g4, ?_, g6, ?_, Or.inr ⟨_, ea, rfl, ⟨fun j hj => ?_, fun k hk => ?_, fun k hk => ?_, fun j hj => ?_, fun j hj => ?_⟩, ⟨?_, fun q hq => ⟨?_, ?_⟩⟩, ⟨?_, ?_, fun e he => ?_⟩, ?_⟩⟩
    · refine Gro.trans (grow0 x5 (u2 y5 (a + 6) ((i + 1) * 40 + idx) (y5 (a + 6) ((i + 1) * 40 + idx) + y5 (a + 6) (i * 40 + p))) (fun b hb => ⟨k5a b (fun q => hb (Or.inr (Or.inl q))), ?_⟩)) g5 (fun b q => q) (fun b _ q => q.elim Or.inl (fun q => Or.inr (Or.inr (Or.inr (Or.inr (Or.inr q))))))
      have n6 : b ≠ a + 6 := fun q => hb (Or.inr (Or.inr (Or.inl q)))
      rw [u2_arow n6]
      exact k5b b n6 (fun q => hb (Or.inr (Or.inr (Or.inr (Or.inl q))))) (fun q => hb (Or.inr (Or.inr (Or.inr (Or.inr (Or.inl q))))))
    · rw [g8]
      show (if 0 = i + 1 then _ else x5 (a + 9) 0) = _
      rw [if_neg (by omega), k5a _ (by omega)]
    · rw [z5, k5c]
      show (if j = i + 1 then _ else _) = _
      rw [if_neg hj]
    · rw [z6, u2_other (by omega), k5d _ (by omega)]
    · rw [z7, k5f.1 k (by omega)]
    · rw [g8]
      show (if j = i + 1 then _ else x5 (a + 9) j) = _
      rw [if_neg hj, k5a _ (by omega)]
    · rw [g9 j (by omega)]; exact hlx j
    · rw [z5, k5c]
      show (if i + 1 = i + 1 then _ else _) = _
      rw [if_pos rfl]
    · rw [z6]
      have hq2 : q < lyc st.1 ∨ (q = lyc st.1 ∧ idx = lyc st.1) := by
        have hq : q < lyc (addP st.1 (mvd (lyp Lp p) f t) idx (lyg Lp p)) := hq
        unfold addP at hq
        by_cases hn2 : idx = lyc st.1
        · rw [if_pos hn2] at hq
          have hq : q < lyc st.1 + 1 := hq
          omega
        · rw [if_neg hn2] at hq
          exact Or.inl hq
      have e12 : y5 (a + 6) (i * 40 + p) = Int64.ofNat (lyg Lp p) := by rw [k5d _ (by omega)]; exact (hLp.2 p hp).1
      show _ = Int64.ofNat (lyg (addP st.1 (mvd (lyp Lp p) f t) idx (lyg Lp p)) q)
      by_cases hqi : q = idx
      · rw [hqi, u2_same, k5e, e12]
        unfold addP
        by_cases hn2 : idx = lyc st.1
        · rw [if_pos hn2, if_pos hn2]
          show (0 : Int64) + Int64.ofNat (lyg Lp p) = Int64.ofNat (if idx = idx then lyg Lp p else _)
          rw [if_pos rfl]
          exact Int64.zero_add _
        · rw [if_neg hn2, if_neg hn2, (hL.2 idx (by omega)).1, ← Int64.ofNat_add]
          show _ = Int64.ofNat (if idx = idx then lyg st.1 idx + lyg Lp p else _)
          rw [if_pos rfl]
      · have hq3 : q < lyc st.1 := by omega
        rw [u2_other (by omega), k5d _ (by omega), (hL.2 q hq3).1]
        unfold addP
        by_cases hn2 : idx = lyc st.1
        · rw [if_pos hn2]
          show _ = Int64.ofNat (if q = idx then _ else lyg st.1 q)
          rw [if_neg hqi]
        · rw [if_neg hn2]
          show _ = Int64.ofNat (if q = idx then _ else lyg st.1 q)
          rw [if_neg hqi]
    · rw [z7]
      have hq : q < lyc (addP st.1 (mvd (lyp Lp p) f t) idx (lyg Lp p)) := hq
      show PK _ _ (lyp (addP st.1 (mvd (lyp Lp p) f t) idx (lyg Lp p)) q)
      unfold addP at hq ⊢
      by_cases hn2 : idx = lyc st.1
      · rw [if_pos hn2] at hq ⊢
        have hq : q < lyc st.1 + 1 := hq
        show PK _ _ (if q = idx then mvd (lyp Lp p) f t else lyp st.1 q)
        by_cases hqi : q = idx
        · rw [if_pos hqi, hqi, hn2]; exact k5f.2 hn2
        · rw [if_neg hqi]
          exact PK_cong (hL.2 q (by omega)).2 (fun j hj => k5f.1 _ (by omega))
      · rw [if_neg hn2] at hq ⊢
        have hq : q < lyc st.1 := hq
        exact PK_cong (hL.2 q hq).2 (fun j hj => k5f.1 _ (by omega))
    · rw [g8]
      show (if i = i + 1 then _ else x5 (a + 9) i) = _
      rw [if_neg (by omega), k5a _ (by omega)]; exact hE.1
    · rw [g8]
      show (if i + 1 = i + 1 then nW (o + egc st.2 + 1) else _) = nW (o + (egc st.2 + 1))
      rw [if_pos rfl]; rfl
    · have he : e < egc st.2 + 1 := he
      show mI G' l' (o + e) = nW (lnk (if e = egc st.2 then (p, idx, f, t) else egd st.2 e))
      by_cases ee : e = egc st.2
      · rw [if_pos ee, ee]; exact g10
      · rw [if_neg ee, g9 _ (by omega)]
        rw [← hE.2.2 e (by omega)]; exact hlx _
    · show o + (egc st.2 + 1) ≤ _; omega
end MAKE
