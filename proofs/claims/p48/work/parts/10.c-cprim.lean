/-! ===== the class's parser: its smallest steps ===== -/
/-- a number between lo and below hb: error, or the number and where it goes on -/
def pNum (T : Nat → Nat) (L s lo hb : Nat) : (Nat × Nat) ⊕ (Nat × Nat) := if srt T L s = 3 then (if vlN T L s < lo ∨ hb ≤ vlN T L s then .inl (2, s) else .inr (vlN T L s, nx T L s)) else .inl (1, s)
/-- the kind whose word stands at s -/
def knd (T : Nat → Nat) (L s : Nat) : Int32 := if isw T L s 3 = true then nW 0 else if isw T L s 4 = true then nW 1 else if isw T L s 5 = true then nW 2 else if isw T L s 6 = true then nW 3 else if isw T L s 7 = true then nW 4 else -nW 1
theorem pNum_lt {T : Nat → Nat} {L s lo hb k s' : Nat} (h : pNum T L s lo hb = .inr (k, s')) : lo ≤ k ∧ k < hb ∧ s < s' ∧ s' = nx T L s := by
  unfold pNum at h
  by_cases e : srt T L s = 3
  · rw [if_pos e] at h
    by_cases e2 : vlN T L s < lo ∨ hb ≤ vlN T L s
    · rw [if_pos e2] at h; cases h
    · rw [if_neg e2] at h
      cases h
      have := nx_gt (T := T) (L := L) (s := s) (by omega)
      exact ⟨by omega, by omega, this, rfl⟩
  · rw [if_neg e] at h; cases h
section CPRIM
variable {G : Mem} {x : Nat → Nat → Int32} {y : Nat → Nat → Int64} {T : Nat → Nat} {L : Nat}
theorem is_ok (h : PSh G) (hb : CBy x T L) {s w : Nat} (hk : CTk x T L s) (hw : w < 16) : fX5_is 2 w (wIJ G x y) = some (bI (isw T L s w), wIJ G x y) := by
  have hL := hb.1
  obtain ⟨sL, c1, c2, -, c4⟩ := hk
  have hge := stp_ge (T := T) (L := L) s
  have hle := stp_le (T := T) (L := L) sL
  have hw38 : w < 37 := by omega
  have h4 := srt_le (T := T) (L := L) s
  have hl := (wd_at hw).1.2
  unfold fX5_is fX5_is_0 fX5_is_24 isw
  simp only [lits]
  rw [gF_wij h.2.1.1, c1, Option.bind_some]
  by_cases e2 : srt T L s = 2
  · rw [if_pos (by rw [e2]), gF_wij h.2.1.1, c4, Option.bind_some, gF_wij h.2.1.1, c2, Option.bind_some, ckS_ok hw38, wlen_ok hw, Option.bind_some, nW_sub hge, decide_eq_true e2]
    by_cases el : stp T L s - s = wdl w
    · rw [if_pos (by rw [el]), decide_eq_true el]
      have step : ∀ i, i < wdl w → fX5_is_28 2 w (nW i) (wIJ G x y) = if T (s + i) = wdb w i then some (.inl (nW (i + 1)), wIJ G x y) else some (.inr (nW 0), wIJ G x y) := by
        intro i hi
        have b1 := ((wd_at hw).2 i hi).2
        have b2 := (hb.2.2 (s + i) (by omega)).1
        unfold fX5_is_28 fX5_is_54
        simp only [lits]
        rw [ckS_ok hw38, wlen_ok hw, Option.bind_some, if_neg (by rw [nW_le (by omega) (by omega)]; omega), gF_wij h.2.1.1, c2, Option.bind_some, ck_wij, ck_ok h.2.1.1, nW_add, byteAt_ok h hb (by omega), Option.bind_some, ckS_ok hw38, wchr_ok hw hi, Option.bind_some]
        have ebt : btW T L (s + i) = nW (T (s + i)) := if_pos (by omega)
        rw [ebt]
        by_cases e : T (s + i) = wdb w i
        · rw [if_pos (by rw [e]), if_pos e, nW_add]
        · rw [if_neg (by rw [nW_eq (by omega) (by omega)]; exact e), if_neg e]; rfl
      rcases eqP_scan (n := wdl w) (P := fun i => T (s + i)) (Q := wdb w) with ⟨q1, q2⟩ | ⟨q1, d, d1, d2, d3⟩
      · rw [q1]
        exact loop_to (f := fun (s : Int32) G => fX5_is_28 2 w s G) (fun i => nW i) (fun _ => wIJ G x y) (wdl w) _ _ (fun i hi => by
          show fX5_is_28 _ _ _ _ = _
          rw [step i hi, if_pos (q2 i hi)]) (by
          show fX5_is_28 _ _ _ _ = _
          unfold fX5_is_28 fX5_is_62
          rw [ckS_ok hw38, wlen_ok hw, Option.bind_some, if_pos (by rw [nW_le (by omega) (by omega)]; omega)]
          rfl) (wdl w) 0 FU (by omega) (by show _ < 100000; omega)
      · rw [q1]
        exact loop_to (f := fun (s : Int32) G => fX5_is_28 2 w s G) (fun i => nW i) (fun _ => wIJ G x y) d _ _ (fun i hi => by
          show fX5_is_28 _ _ _ _ = _
          rw [step i (by omega), if_pos (d3 i hi)]) (by
          show fX5_is_28 _ _ _ _ = _
          rw [step d d1, if_neg d2]
          rfl) d 0 FU (by omega) (by show _ < 100000; omega)
    · rw [if_neg (by rw [nW_eq (by omega) (by omega)]; exact el), decide_eq_false el]
      rfl
  · rw [if_neg (by rw [nW_eq (by omega) (by decide)]; exact e2), decide_eq_false e2]
    rfl
theorem reject_ok (h : PSh G) {s k : Nat} (hk : CTk x T L s) : fX2_reject 1 (nW k) (wIJ G x y) = some (nW 0, wIJ G (u2 (u2 x 1 1 (nW k)) 1 2 (nW s)) y) := by
  unfold fX2_reject fX2_reject_0 fX2_rejectAt fX2_rejectAt_0
  simp only [lits]
  rw [gR_wij, h.g0, Option.bind_some, gF_wij h.2.1.1, hk.2.2.1, Option.bind_some, ck_wij, ck_ok h.1.1, pI_wij h.1.1, Option.bind_some, pI_wij h.1.1, Option.bind_some, Option.bind_some, rz0]
theorem cnext_ok (h : PSh G) (hb : CBy x T L) {s : Nat} (hk : CTk x T L s) :
    ∃ x', fX5_readNext 2 (wIJ G x y) = some ((), wIJ G x' y) ∧ (∀ b j, ¬ (b = 2 ∧ 1 ≤ j ∧ j ≤ 4) → x' b j = x b j) ∧ CTk x' T L (nx T L s) := readNext_ok h hb (stp_le hk.1) hk.2.2.2.2
theorem CBy.next {x' : Nat → Nat → Int32} (hb : CBy x T L) (hf : ∀ b j, ¬ (b = 2 ∧ 1 ≤ j ∧ j ≤ 4) → x' b j = x b j) : CBy x' T L := hb.frame (hf 2 0 (by omega)) (funext fun j => hf 3 j (by omega))
/-- what a step of the parser that met a wrong token leaves -/
def CEr (x x' : Nat → Nat → Int32) (e : Nat × Nat) : Prop := x' 1 1 = nW e.1 ∧ x' 1 2 = nW e.2
theorem readNumber_ok (h : PSh G) (hb : CBy x T L) {s lo hb' : Nat} (hk : CTk x T L s) (hlo : lo < 100) (hhb : hb' < 100) :
    ∃ v x', fX2_readNumber 1 (nW lo) (nW hb' - nW 1) (wIJ G x y) = some (v, wIJ G x' y) ∧ (∀ b j, ¬ (b = 2 ∧ 1 ≤ j ∧ j ≤ 4) → ¬ (b = 1 ∧ 1 ≤ j ∧ j ≤ 2) → x' b j = x b j) ∧
      ((∃ e, pNum T L s lo hb' = .inl e ∧ v = -nW 1 ∧ CEr x x' e) ∨ (∃ k s', pNum T L s lo hb' = .inr (k, s') ∧ v = nW k ∧ CTk x' T L s' ∧ x' 1 = x 1)) := by
  have h4 := srt_le (T := T) (L := L) s
  unfold fX2_readNumber fX2_readNumber_0 fX2_readNumber_41 pNum
  simp only [lits]
  rw [gR_wij, h.g0, Option.bind_some, gF_wij h.2.1.1, hk.2.1, Option.bind_some]
  have fr : ∀ k, ∀ b j, ¬ (b = 2 ∧ 1 ≤ j ∧ j ≤ 4) → ¬ (b = 1 ∧ 1 ≤ j ∧ j ≤ 2) → u2 (u2 x 1 1 (nW k)) 1 2 (nW s) b j = x b j := fun k b j q1 q2 => by
    rw [u2_other (by omega), u2_other (by omega)]
  have er : ∀ k, CEr x (u2 (u2 x 1 1 (nW k)) 1 2 (nW s)) (k, s) := fun k => ⟨by rw [u2_other (by omega), u2_same], u2_same⟩
  by_cases e3 : srt T L s = 3
  · rw [if_pos (by rw [e3]), if_pos e3, Option.bind_some, gF_wij h.2.1.1, hk.2.2.2.1 e3, Option.bind_some]
    by_cases e1 : vlN T L s < lo
    · rw [if_pos (by rw [nW_lt (by omega) (by omega)]; omega), ck_wij, ck_ok h.1.1, reject_ok h hk, Option.bind_some]
      exact ⟨_, _, rfl, fr 2, Or.inl ⟨_, if_pos (Or.inl e1), rfl, er 2⟩⟩
    · rw [if_neg (by rw [nW_lt (by omega) (by omega)]; omega), Option.bind_some, gF_wij h.2.1.1, hk.2.2.2.1 e3, Option.bind_some]
      by_cases e2 : hb' ≤ vlN T L s
      · have : ¬ nW (min (vlN T L s) 1000) ≤ nW hb' - nW 1 := by
          by_cases h0 : hb' = 0
          · rw [h0, Int32.le_iff_toInt_le, nW_int (by omega), show (nW 0 - nW 1).toInt = -1 from by decide]; omega
          · rw [nW_sub (by omega), nW_le (by omega) (by omega)]; omega
        rw [if_neg this, ck_wij, ck_ok h.1.1, reject_ok h hk, Option.bind_some]
        exact ⟨_, _, rfl, fr 2, Or.inl ⟨_, if_pos (Or.inr e2), rfl, er 2⟩⟩
      · obtain ⟨x', q1, q2, q3⟩ := cnext_ok (y := y) h hb hk
        rw [if_pos (show nW (min (vlN T L s) 1000) ≤ nW hb' - nW 1 by rw [nW_sub (by omega), nW_le (by omega) (by omega)]; omega), Option.bind_some, gF_wij h.2.1.1, hk.2.2.2.1 e3, Option.bind_some, Option.bind_some, ck_wij, ck_ok h.2.1.1, q1, Option.bind_some]
        refine ⟨_, x', rfl, fun b j p1 _ => q2 b j p1, Or.inr ⟨_, _, if_neg (by omega), ?_, q3, funext fun j => q2 1 j (by omega)⟩⟩
        rw [Nat.min_eq_left (by omega)]
  · rw [if_neg (by rw [nW_eq (by omega) (by decide)]; exact e3), if_neg e3, ck_wij, ck_ok h.1.1, reject_ok h hk, Option.bind_some]
    exact ⟨_, _, rfl, fr 1, Or.inl ⟨_, rfl, rfl, er 1⟩⟩
theorem isPassed_ok (h : PSh G) (hb : CBy x T L) {s w : Nat} (hk : CTk x T L s) (hw : w < 16) :
    ∃ x', fX2_isPassed 1 w (wIJ G x y) = some (bI (isw T L s w), wIJ G x' y) ∧ (∀ b j, ¬ (b = 2 ∧ 1 ≤ j ∧ j ≤ 4) → x' b j = x b j) ∧ CTk x' T L (if isw T L s w = true then nx T L s else s) := by
  unfold fX2_isPassed fX2_isPassed_0
  simp only [lits]
  rw [gR_wij, h.g0, Option.bind_some, ck_wij, ck_ok h.2.1.1, is_ok h hb hk hw, Option.bind_some]
  cases isw T L s w with
  | false => exact ⟨x, by rw [if_pos (show bI false = nW 0 from rfl)]; rfl, fun _ _ _ => rfl, hk⟩
  | true =>
    obtain ⟨x', q1, q2, q3⟩ := cnext_ok (y := y) h hb hk
    refine ⟨x', ?_, q2, q3⟩
    rw [if_neg bIt, gR_wij, h.g0, Option.bind_some, ck_wij, ck_ok h.2.1.1, q1, Option.bind_some]
    rfl
theorem isSemicolon_ok (h : PSh G) {s : Nat} (hk : CTk x T L s) :
    ∃ x', fX2_isSemicolon 1 (wIJ G x y) = some (bI (decide (srt T L s = 4)), wIJ G x' y) ∧ (∀ b j, ¬ (b = 1 ∧ 1 ≤ j ∧ j ≤ 2) → x' b j = x b j) ∧ ((srt T L s = 4 ∧ x' = x) ∨ (srt T L s ≠ 4 ∧ CEr x x' (1, s))) := by
  have h4 := srt_le (T := T) (L := L) s
  unfold fX2_isSemicolon fX2_isSemicolon_0 fX2_isSemicolon_19 fX2_isSemicolon_24
  simp only [lits]
  rw [gR_wij, h.g0, Option.bind_some, gF_wij h.2.1.1, hk.2.1, Option.bind_some]
  by_cases e : srt T L s = 4
  · rw [if_pos (by rw [e]), decide_eq_true e, rz1]
    exact ⟨x, rfl, fun _ _ _ => rfl, Or.inl ⟨e, rfl⟩⟩
  · rw [if_neg (by rw [nW_eq (by omega) (by decide)]; exact e), decide_eq_false e, ck_wij, ck_ok h.1.1, reject_ok h hk, Option.bind_some, if_pos rfl, rz0]
    exact ⟨_, rfl, fun b j q => by rw [u2_other (by omega), u2_other (by omega)], Or.inr ⟨e, by rw [u2_other (by omega), u2_same], u2_same⟩⟩
theorem ckindHere_ok (h : PSh G) (hb : CBy x T L) {s : Nat} (hk : CTk x T L s) : fX2_kindHere 1 (wIJ G x y) = some (knd T L s, wIJ G x y) := by
  unfold fX2_kindHere fX2_kindHere_0 fX2_kindHere_73 knd
  simp only [lits]
  rw [gR_wij, h.g0, Option.bind_some, ck_wij, ck_ok h.2.1.1, is_ok h hb hk (by decide), Option.bind_some]
  cases isw T L s 3 with
  | true => rw [if_neg bIt, if_pos rfl]
  | false =>
    rw [if_pos bIf, if_neg (by decide), gR_wij, h.g0, Option.bind_some, ck_wij, ck_ok h.2.1.1, is_ok h hb hk (by decide), Option.bind_some]
    cases isw T L s 4 with
    | true => rw [if_neg bIt, if_pos rfl]
    | false =>
      rw [if_pos bIf, if_neg (by decide), gR_wij, h.g0, Option.bind_some, ck_wij, ck_ok h.2.1.1, is_ok h hb hk (by decide), Option.bind_some]
      cases isw T L s 5 with
      | true => rw [if_neg bIt, if_pos rfl]
      | false =>
        rw [if_pos bIf, if_neg (by decide), gR_wij, h.g0, Option.bind_some, ck_wij, ck_ok h.2.1.1, is_ok h hb hk (by decide), Option.bind_some]
        cases isw T L s 6 with
        | true => rw [if_neg bIt, if_pos rfl]
        | false =>
          rw [if_pos bIf, if_neg (by decide), gR_wij, h.g0, Option.bind_some, ck_wij, ck_ok h.2.1.1, is_ok h hb hk (by decide), Option.bind_some]
          cases isw T L s 7 with
          | true => rw [if_neg bIt, if_pos rfl]
          | false => rw [if_pos bIf, if_neg (by decide)]
end CPRIM
