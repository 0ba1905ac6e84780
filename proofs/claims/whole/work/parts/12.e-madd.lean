/-! ===== the reference's public methods: notes and texts ===== -/
section MADD2
variable {G : Mem} {W : WSt} {x x' : Nat → Nat → Int32} {y y' : Nat → Nat → Int64} {hs : Nat → Int32}
abbrev MSX6 (x x' : Nat → Nat → Int32) : Prop := ∀ b j, ¬ (b = 265 ∧ (j = 5 ∨ j = 6 ∨ j = 9 ∨ j = 11 ∨ j = 12 ∨ 21 ≤ j)) → b ≠ 265 + 1 → b ≠ 265 + 2 → b ≠ 265 + 4 → (b < 265 + 8 ∨ 265 + 12 < b) → x' b j = x b j
theorem mfin_fm (f : MSX6 x x') (g : MCY 265 y y') : MFm x x' y y' := fun b hb => ⟨funext fun j => f b j (by omega) (by omega) (by omega) (by omega) (by omega), g b (by omega)⟩
theorem mfin_rq (hR : RQ x y W) (f : MSX6 x x') {A : ASt} {l : List ASt} {er : Int32 × Int32} (h9 : x' 265 9 = nW 0) (hA : MRa x' y' 265 A) (hK : KRep x' 265 l) (h11 : x' 265 11 = er.1) (h12 : x' 265 12 = er.2) : RQ x' y' (A, l, W.2.2.1, (W.2.2.2.1.1, 0), er, W.2.2.2.2.2) := by
  obtain ⟨-, -, s1, -, -, o1⟩ := hR
  have R : ∀ b, b = 268 ∨ b = 270 ∨ b = 272 → x' b = x b := fun b hb => funext fun j => f b j (by omega) (by omega) (by omega) (by omega) (by omega)
  refine ⟨hA, hK, fun j hj => ⟨by rw [R 270 (by omega)]; exact (s1 j hj).1, fun A hA => ⟨((s1 j hj).2 A hA).1.same (R 268 (by omega)), ((s1 j hj).2 A hA).2⟩⟩, ⟨Nat.zero_le _, h9, fun i hi => absurd hi (Nat.not_lt_zero _)⟩, ⟨h11, h12⟩, ?_⟩
  rw [f 265 10 (by omega) (by decide) (by decide) (by decide) (by decide), R 272 (by omega)]; exact o1
theorem mplay2_ok (h : MSh G 265) (hA : AAOK W.1) (hR : RQ x y W) : MOu G x y (fX7_play 265 (wIJ G x y)) (oPlay W) := by
  obtain ⟨v, x', y', e1, e2, e3, e4, ⟨e5, e6⟩, e7⟩ := mplay_ok h hA hR.1 hR.2.2.2.1 hR.2.1
  unfold oPlay
  rcases e6 with ⟨e, p1, p2, p3, p4, p5⟩ | ⟨A', n', p1, p2, p3, p4, p5, p6⟩
  · rcases e7 with ⟨e', q1, q2⟩ | ⟨A', n', q1, q2⟩
    · rw [p1]
      exact ⟨x', y', by rw [e1, q2], mfin_fm e2 e4, mfin_rq hR e2 e5 p2 p3 p4 p5⟩
    · rw [p1] at q1; cases q1
  · rcases e7 with ⟨e', q1, q2⟩ | ⟨A2, n2, q1, q2⟩
    · rw [p1] at q1; cases q1
    · rw [p1] at q1
      have q3 := Sum.inr.inj q1
      have q4 : n' = n2 := congrArg Prod.snd q3
      rw [p1]
      exact ⟨x', y', by rw [e1, q2, ← q4], mfin_fm e2 e4, mfin_rq (er := (nW 0, -nW 1)) hR e2 e5 p3 p4 p5 p6⟩
theorem mload2_ok (h : MSh G 265) (hA : AAOK W.1) (hR : RQ x y W) : MOu G x y (fX7_load 265 (wIJ G x y)) (oLoad W) := by
  obtain ⟨v, x', y', e1, e2, e3, e4, ⟨e5, e6⟩, e7⟩ := mload_ok h hA hR.1 hR.2.2.2.1 hR.2.1
  unfold oLoad
  rcases e6 with ⟨e, p1, p2, p3, p4, p5⟩ | ⟨A', n', p1, p2, p3, p4, p5, p6⟩
  · rcases e7 with ⟨e', q1, q2⟩ | ⟨A', n', q1, q2⟩
    · rw [p1]
      exact ⟨x', y', by rw [e1, q2], mfin_fm e2 e4, mfin_rq hR e2 e5 p2 p3 p4 p5⟩
    · rw [p1] at q1; cases q1
  · rcases e7 with ⟨e', q1, q2⟩ | ⟨A2, n2, q1, q2⟩
    · rw [p1] at q1; cases q1
    · rw [p1] at q1
      have q3 := Sum.inr.inj q1
      have q4 : A' = A2 := congrArg Prod.fst q3
      rw [p1]
      exact ⟨x', y', by rw [e1, q2, ← q4], mfin_fm e2 e4, mfin_rq (er := (nW 0, -nW 1)) hR e2 e5 p3 p4 p5 p6⟩
theorem b01_id {v : Int32} (h : v = 0 ∨ v = 1) : b01 v = v := by
  rcases h with rfl | rfl <;> decide
theorem KRep.rows {l : List ASt} (h : KRep x 265 l) (h5 : x' 265 = x 265) (h2 : x' 267 = x 267) : KRep x' 265 l := h.same (by rw [h5]) h2
theorem madd_ok (h : MSh G 265) (hA : AAOK W.1) (hR : RQ x y W) {k fx tx ty tk hk : Int32} (h5 : tk = 0 ∨ tk = 1) (h6 : hk = 0 ∨ hk = 1) (h0 : hs 0 = nW 1) (h1 : hs 1 = nW 2) : MOut G x y (fX7_addNote 265 k fx tx ty tk hk (wIJ G x y)) (oAdd W k fx tx ty tk hk) hs := by
  have hm := hA.2.2.1
  have fC : ∀ (x : Nat → Nat → Int32) (y : Nat → Nat → Int64), fX7_fails 265 (nW 0) (nW 1) (nW 0) (wIJ G x y) = some (nW 1, wIJ G (u2 x 265 6 (nW 2)) y) := fun x y => fails_ok (a := false) (b := true) (c := false) h
  have fB : fX7_fails 265 (bI true) (nW 0) (nW 0) (wIJ G x y) = some (nW 1, wIJ G (u2 x 265 6 (nW 1)) y) := fails1_ok (a := true) h
  unfold fX7_addNote fX7_addNote_0 oAdd
  simp only [lits]
  rw [ck_wij, ck_ok h.t, isBad_ok h hA hR, Option.bind_some]
  cases hok : okNote W.1 k fx tx ty with
  | false =>
    unfold fX7_addNote_46 fX7_addNote_65 fX7_addNote_66
    simp only [lits]
    rw [if_neg (show ¬ bI (!false) = nW 0 from bIt), if_neg (show ¬ bI (!false) = nW 0 from bIt), ck_wij, ck_ok h.t]
    show MOut G x y ((fX7_fails 265 (bI true) (nW 0) (nW 0) (wIJ G x y)).bind fun q1 => _) _ hs
    rw [fB, Option.bind_some, if_neg (show ¬ nW 1 = nW 0 by decide), if_pos trivial]
    exact MOut.bad hR h0
  | true =>
    rw [if_pos (show bI (!true) = nW 0 from rfl), gR_wij, h.g0, Option.bind_some, hR.m2 h, Option.bind_some, if_neg (show ¬ true = false by decide)]
    by_cases hm10 : W.1.2.2.2.2 < 10
    · obtain ⟨x1, l1, v, x2, y2, l2, l3, l4, l5, l6⟩ := layPoss_ok h hA hR.1 hm10 k fx tx ty tk hk
      rw [b01_id h5, b01_id h6] at l6
      have R2 : ∀ b, b ≠ 266 → (b < 273 ∨ 277 < b) → x2 b = x b := fun b q1 q2 => l3 b q1 q2
      have Q2 : RQ x2 y2 W := hR.state l5 (hR.2.1.rows (R2 265 (by decide) (by decide)) (R2 267 (by decide) (by decide))) (fun j _ _ => by rw [R2 265 (by decide) (by decide)]) (fun b hb => R2 b (by omega) (by omega))
      have M2 : MFm x x2 y y2 := fun b hb => ⟨R2 b (by omega) (by omega), l4 b (by omega)⟩
      rw [if_neg (by rw [nW_le (by decide) (by omega)]; omega), Option.bind_some, hR.m2 h, Option.bind_some, ck_wij, ck_ok h.t, l1, Option.bind_some]
      show MOut G x y (fX7_addNote_46 265 (nW 0) (wIJ G x1 y)) _ hs
      unfold fX7_addNote_46 fX7_addNote_65 fX7_addNote_66
      simp only [lits]
      rw [if_pos trivial, ck_wij, ck_ok h.t, l2, Option.bind_some]
      rcases l6 with ⟨k1, rfl, k3, k4, k5, k6⟩ | ⟨k1, rfl⟩
      · have ea : aAdd W.1 (ntF k fx tx ty tk hk) = some (W.1.1, W.1.2.1, addN W.1.2.2.1 W.1.2.2.2.2 (ntF k fx tx ty tk hk), W.1.2.2.2.1, W.1.2.2.2.2 + 1) := aAdd_some (c := W.1.1) (r := W.1.2.1) (N := W.1.2.2.1) (P0 := W.1.2.2.2.1) (m := W.1.2.2.2.2) ⟨hm10, k1⟩
        obtain ⟨x3, r1, r2, r3, r4, r5⟩ := mrem_ok h hA (Q2.six (v := nW 0))
        have S3 : ∀ b, b ≠ 265 → b ≠ 267 → x3 b = x2 b := fun b q1 q2 => by rw [r2 b q1 q2, u2_arow q1]
        obtain ⟨x4, y4, d1, d2, d3, d4⟩ := adds_ok h rfl k3 (k4.frame (S3 266 (by decide) (by decide))) (fun i hi j hj => by rw [show x3 (265 + 1) = x2 (265 + 1) from S3 266 (by decide) (by decide)]; exact k5 i hi j hj) (k6.same (S3 273 (by decide) (by decide)) (S3 274 (by decide) (by decide)) (S3 275 (by decide) (by decide)) (S3 276 (by decide) (by decide)) rfl)
        rw [if_neg (show ¬ nW 1 = nW 0 by decide), ck_wij, ck_ok h.t, failsF h, Option.bind_some, if_pos (show nW 0 = nW 0 from rfl), gR_wij, h.g0, Option.bind_some, ck_wij, ck_ok h.t, r1, Option.bind_some, ck_wij, ck_ok h.t, d1, Option.bind_some, ea]
        have R4 : ∀ b, b ≠ 265 → b ≠ 266 → b ≠ 267 → (b < 273 ∨ 277 < b) → x4 b = x b := fun b q1 q2 q3 q4 => by rw [d2 b q2, S3 b q1 q3, R2 b q2 q4]
        exact MOut.mk' (fun b hb => ⟨R4 b (by omega) (by omega) (by omega) (by omega), by rw [d3 b (by omega), l4 b (by omega)]⟩) (hR.state (A := (W.1.1, W.1.2.1, addN W.1.2.2.1 W.1.2.2.2.2 (ntF k fx tx ty tk hk), W.1.2.2.2.1, W.1.2.2.2.2 + 1)) d4 (r4.rows (d2 265 (by decide)) (d2 267 (by decide))) (fun j q1 q2 => by rw [d2 265 (by decide), r3 j q1, u2_other (fun z => q2 z.2), R2 265 (by decide) (by decide)]) (fun b hb => R4 b (by omega) (by omega) (by omega) (by omega))) (by rw [d2 265 (by decide), r3 6 (by decide), u2_same])
      · have ea : aAdd W.1 (ntF k fx tx ty tk hk) = none := aAdd_none (c := W.1.1) (r := W.1.2.1) (N := W.1.2.2.1) (P0 := W.1.2.2.2.1) (m := W.1.2.2.2.2) (fun z => k1 z.2)
        rw [if_pos (show nW 0 = nW 0 from rfl), ck_wij, ck_ok h.t, fC, Option.bind_some, if_neg (show ¬ nW 1 = nW 0 by decide), ea]
        exact MOut.no (M2.trans MFm.u2) Q2.six (u2_same.trans h1.symm)
    · have e10 : W.1.2.2.2.2 = 10 := by omega
      have ea : aAdd W.1 (ntF k fx tx ty tk hk) = none := aAdd_none (c := W.1.1) (r := W.1.2.1) (N := W.1.2.2.1) (P0 := W.1.2.2.2.1) (m := W.1.2.2.2.2) (fun z => hm10 z.1)
      rw [if_pos (by rw [nW_le (by decide) (by omega)]; omega)]
      show MOut G x y (fX7_addNote_46 265 (nW 0) (wIJ G x y)) _ hs
      have ip : fX7_isPossible 265 (wIJ G x y) = some (nW 0, wIJ G x y) := by
        unfold fX7_isPossible fX7_isPossible_0
        simp only [lits]
        rw [gR_wij, h.g0, Option.bind_some, hR.m2 h, Option.bind_some, if_pos (by rw [e10])]
      unfold fX7_addNote_46 fX7_addNote_66
      simp only [lits]
      rw [if_pos trivial, ck_wij, ck_ok h.t, ip, Option.bind_some, if_pos (show nW 0 = nW 0 from rfl), ck_wij, ck_ok h.t, fC, Option.bind_some, if_neg (show ¬ nW 1 = nW 0 by decide), ea]
      exact MOut.bad hR h1
end MADD2
