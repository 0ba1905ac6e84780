/-! ===== the class finds nothing inconsistent ===== -/
section CCONS
variable {G : Mem} {ro l K : Nat → Nat} {W : WSt} {d : Nat} {x : Nat → Nat → Int32} {y : Nat → Nat → Int64}
theorem ccnt_ok {b c r : Nat} {P : Nat → Nat} (h : BSh G b) (hs : szs c r) (hW : WFP (c * r) P) (hb : BR c r P x b) {col : Nat} (hcol : col < 2) : fX0_count b (nW (enc (kgc col))) (wIJ G x y) = some (nW 1, wIJ G x y) := by
  obtain ⟨k, k1, k2, k3⟩ := hW.king hcol
  have pk := pl_ok hs k1
  have hk11 : kgc col < 11 := by unfold kgc; omega
  have h15 : ∀ col, col < 2 → nW 15 ≠ nW (enc (kgc col)) := by decide
  have g1 : decide (bct c r P (pl c k) = nW (enc (kgc col))) = true := decide_eq_true (by
    unfold bct
    rw [if_pos pk.2.2.1, pk.2.2.2, k2])
  have g2 : ∀ j, decide (bct c r P j = nW (enc (kgc col))) = true → j = pl c k := fun j hj => by
    have hj := of_decide_eq_true hj
    unfold bct at hj
    by_cases q : onb c r j = true
    · rw [if_pos q] at hj
      have j88 : j < 88 := by
        have q := q
        unfold onb at q
        rw [Bool.and_eq_true, Bool.and_eq_true] at q
        have q1 := of_decide_eq_true q.1
        have q3 := of_decide_eq_true q.2.2
        obtain ⟨-, -, -, s4⟩ := hs
        omega
      have ps := pl_sqp hs j88 q
      have := k3 _ ((encW_inj _ (hW.1 _) _ hk11).mp hj)
      rw [← ps.2, this]
    · rw [if_neg q] at hj
      exact absurd hj (h15 col hcol)
  have one : cnt 88 (fun p => decide (bct c r P p = nW (enc (kgc col)))) = 1 := by
    rw [cnt_uniq g1 g2 88, if_pos (by omega)]
  have g4 : gR (wIJ G x y) 10 b 4 = some (b + 2) := gR_ok h.1 h.2.2.1
  have gl : gL (wIJ G x y) (b + 2) = some (nW 88) := by
    rw [gL_wij, gL_ok (Or.inl h.2.2.2.2.2.1), h.2.2.2.2.2.2]
  unfold fX0_count fX0_count_0
  simp only [lits]
  have lp := loop_to (f := fun (s : Int32 × Int32) G => fX0_count_4 b (nW (enc (kgc col))) s.1 s.2 G) (fun q => (nW (cnt q fun p => decide (bct c r P p = nW (enc (kgc col)))), nW q)) (fun _ => wIJ G x y) 88 (nW (cnt 88 fun p => decide (bct c r P p = nW (enc (kgc col))))) (wIJ G x y) (fun q hq => by
    show fX0_count_4 _ _ _ _ _ = _
    unfold fX0_count_4 fX0_count_26
    simp only [lits]
    rw [g4, Option.bind_some, gl, Option.bind_some, if_neg (by rw [nW_le (by decide) (by omega)]; omega), Option.bind_some, gA_wij h.2.2.2.2.2.1 (by rw [h.2.2.2.2.2.2]; exact hq) (by rw [h.2.2.2.2.2.2]; decide), Option.bind_some, hb.2.2 q hq, nW_add, nW_add]
    show _ = some (Sum.inl (nW (cnt q _ + if decide (bct c r P q = nW (enc (kgc col))) = true then 1 else 0), nW (q + 1)), _)
    by_cases e : bct c r P q = nW (enc (kgc col))
    · rw [if_pos e, decide_eq_true e]; rfl
    · rw [if_neg e, decide_eq_false e]; rfl) (by
    show fX0_count_4 _ _ _ _ _ = _
    unfold fX0_count_4 fX0_count_32
    rw [g4, Option.bind_some, gl, Option.bind_some, if_pos (show nW 88 ≤ nW 88 from (nW_le (by decide) (by decide)).mpr (Nat.le_refl _))]
    rfl) 88 0 FU rfl (by decide)
  rw [one] at lp
  exact lp
theorem ckings_ok (h : CSh G ro l K) (hA : ARk G ro l K 0 W.1) {i : Nat} (hi : i < pcA W.1) (hb : BR W.1.1 W.1.2.1 (lyp (lyA W.1) i) (mI G) (fa (ro 0) + 1)) (hk : BK W.1.1 (W.1.1 * W.1.2.1) (lyp (lyA W.1) i) (mI G) (fa (ro 0) + 1)) : fX6_areKingsInOrder 0 G = some (nW 1, G) := by
  obtain ⟨b0, b1, b2, b3⟩ := h.bd hA
  have hrun := lyN_run hA.2.2.1 hA.2.2.2.2.1
  have w := hrun.1.2 i hi
  have hm := hA.2.2.2.1
  have hs := hA.2.1
  have B := hA.1.1.1.b
  have ct : ∀ col, col < 2 → fX0_count (fa (ro 0) + 1) (nW (enc (kgc col))) G = some (nW 1, G) := fun col hcol => by
    have := ccnt_ok (y := mJ G) B hs w hb hcol
    rw [wij_self] at this; exact this
  have c0 : fX0_count (fa (ro 0) + 1) (nW 1) G = some (nW 1, G) := ct 0 (by decide)
  have c1 : fX0_count (fa (ro 0) + 1) (nW 9) G = some (nW 1, G) := ct 1 (by decide)
  unfold fX6_areKingsInOrder fX6_areKingsInOrder_0 fX6_areKingsInOrder_76
  simp only [lits]
  rw [h.f3, Option.bind_some, b0, Option.bind_some, ck_ok B.1, c0, Option.bind_some, if_pos (show (nW 1, G).1 = nW 1 from rfl), ck_ok B.1, c1, Option.bind_some, if_pos (show (nW 1, G).1 = nW 1 from rfl), h.f3, Option.bind_some, b3, Option.bind_some]
  by_cases q : W.1.2.2.2.2 = 0
  · rw [if_pos (by rw [q])]
  · have hg := (hrun.2 (W.1.2.2.2.2 - 1) (by omega)).2.2.1
    rw [show W.1.2.2.2.2 - 1 + 1 = W.1.2.2.2.2 by omega] at hg
    have hg := (hg i hi).2
    have cc : (W.1.2.2.2.2 - 1) % 2 < 2 := Nat.mod_lt _ (by decide)
    have ce : 1 - W.1.2.2.2.2 % 2 = (W.1.2.2.2.2 - 1) % 2 := by omega
    have cf : 1 - (W.1.2.2.2.2 - 1) % 2 = W.1.2.2.2.2 % 2 := by omega
    have kp : fX0_kingPlace (fa (ro 0) + 1) (nW ((W.1.2.2.2.2 - 1) % 2)) G = some (nW (pl W.1.1 (fnd (W.1.1 * W.1.2.1) (lyp (lyA W.1) i) (kgc ((W.1.2.2.2.2 - 1) % 2)))), G) := by
      have := kingPlace_ok (x := mI G) (y := mJ G) B cc
      rw [wij_self] at this
      rw [this]
      obtain ⟨k, k1, k2, k3⟩ := w.king cc
      rw [fnd_uniq k1 k2 k3]
      have := hk k k1
      rcases (show (W.1.2.2.2.2 - 1) % 2 = 0 ∨ (W.1.2.2.2.2 - 1) % 2 = 1 by omega) with e | e
      · rw [e] at k2 ⊢; rw [this.1 k2]
      · rw [e] at k2 ⊢; rw [this.2 k2]
    have ir := isReached_ok (x := mI G) (y := mJ G) B hs w.1 hb (w.fnd cc) (show W.1.2.2.2.2 % 2 < 2 by omega)
    rw [wij_self, ← cf, hg] at ir
    rw [if_neg (by rw [nW_eq (by omega) (by decide)]; exact q), Option.bind_some, Option.bind_some, b3, Option.bind_some, ck_ok hA.1.1.1.t, mover_ok (by omega), Option.bind_some, nW_sub (by omega), ce, ck_ok B.1, kp, Option.bind_some, ck_ok B.1, ← cf, ir, Option.bind_some, if_pos (show bI false = nW 0 from rfl)]
    exact rz1
theorem ccons2_ok (hC : CI G d W) : ∃ G', fX6_inconsistencies_59 0 (nW 0) (Int64.ofNat (gmA W.1)) G = some (nW 0, G') ∧ CI G' d W ∧ RKp G G' := by
  obtain ⟨r, G', e, rfl, p⟩ := loop_by (f := fun (s : Int32 × Int32) G => fX6_inconsistencies_62 0 s.1 (Int64.ofNat (gmA W.1)) s.2 G) (fun k s G' => (∃ i, k + i = pcA W.1 ∧ s = (nW 0, nW i)) ∧ CI G' d W ∧ RKp G G') (fun r G' => r = nW 0 ∧ CI G' d W ∧ RKp G G') (by
    rintro k s G1 ⟨⟨i, hi, rfl⟩, hC1, hk⟩
    obtain ⟨ro, l, K, h1, h2, h3⟩ := id hC1
    obtain ⟨p1, p2, p3, p4⟩ := h3.split
    obtain ⟨b0, b1, b2, b3⟩ := h1.bd p1
    have h40 : pcA W.1 ≤ 40 := (lyN_run p1.2.2.1 p1.2.2.2.2.1).1.1
    show (∃ r G', fX6_inconsistencies_62 0 (nW 0) (Int64.ofNat (gmA W.1)) (nW i) G1 = some (.inr r, G') ∧ _) ∨ (∃ k' s' G', k' < k ∧ fX6_inconsistencies_62 0 (nW 0) (Int64.ofNat (gmA W.1)) (nW i) G1 = some (.inl s', G') ∧ _)
    unfold fX6_inconsistencies_62 fX6_inconsistencies_106 fX6_inconsistencies_125 fX6_inconsistencies_100
    simp only [lits]
    by_cases q : i < pcA W.1
    · right
      obtain ⟨x', e1, ⟨s2, s3, s4, s5⟩, s6, s7, -⟩ := cshow_ok h1 h2 h3 q
      have ka := ckings_ok s2 s4.1 q s6 s7
      refine ⟨k - 1, (nW 0, nW (i + 1)), wIJ G1 x' (mJ G1), by omega, ?_, ⟨i + 1, by omega, rfl⟩, ⟨ro, l, K, s2, s3, s4⟩, hk.trans s5⟩
      rw [h1.f3, Option.bind_some, ck_ok p1.1.1.1.t, positionCount_ok p1.2 p1.1, Option.bind_some, if_neg (show ¬ nW (pcA W.1) ≤ nW i by rw [nW_le (by omega) (by omega)]; omega), h1.f3, Option.bind_some, Option.bind_some, b3, Option.bind_some, ck_ok p1.1.1.1.t, e1, Option.bind_some, ck_ok s2.t, ka, Option.bind_some, if_neg (show ¬ nW 1 = nW 0 by decide), nW_add]
    · left
      have ei : i = pcA W.1 := by omega
      subst ei
      have g2 : gR G1 14 5 2 = some 7 := gR_ok h1.ta.1.1 h1.ta.1.2.2
      have gj : gJ G1 7 (nW 0) = some (Int64.ofNat (gmA W.1)) := by
        have := gJ_wij (x := mI G1) (y := mJ G1) h1.ta.2.2.1.1 (i := 0) (by rw [h1.ta.2.2.1.2]; decide) (by rw [h1.ta.2.2.1.2]; decide)
        rw [wij_self] at this
        rw [this]
        have hc : mJ G1 7 0 = _ := p3 0 (Nat.zero_le _) 0 (by decide)
        rw [hc]
        have T := Tot_all p1.2.2.1 (szs36 p1.2.1) p1.2.2.2.2.1 (Nat.zero_le _)
        have T0 : Tot W.1.1 (W.1.1 * W.1.2.1) W.1.2.2.1 W.1.2.2.2.1 W.1.2.2.2.2 0 = ctD W.1.1 (W.1.1 * W.1.2.1) W.1.2.2.1 W.1.2.2.2.1 W.1.2.2.2.2 (W.1.2.2.2.2 - 0) 0 := by
          unfold Tot
          show 0 + 1 * _ = _
          rw [Nat.zero_add, Nat.one_mul]
        rw [← T0, T]
      have gs : fX4_gamesFromStart 5 G1 = some (Int64.ofNat (gmA W.1), G1) := by
        unfold fX4_gamesFromStart fX4_gamesFromStart_0
        simp only [lits]
        rw [g2, Option.bind_some, gj, Option.bind_some]
      refine ⟨nW 0, G1, ?_, rfl, hC1, hk⟩
      rw [h1.f3, Option.bind_some, ck_ok p1.1.1.1.t, positionCount_ok p1.2 p1.1, Option.bind_some, if_pos (show nW (pcA W.1) ≤ nW (pcA W.1) from (nW_le (by omega) (by omega)).mpr (Nat.le_refl _)), h1.f1, Option.bind_some, ck_ok h1.ta.1.1, gs, Option.bind_some, if_pos ((lgc_0 _ _).mpr rfl)]
      rfl) FU (pcA W.1) (nW 0, nW 0) G (by
    obtain ⟨ro, l, K, h1, h2, h3⟩ := id hC
    obtain ⟨p1, -⟩ := h3.split
    have h40 : pcA W.1 ≤ 40 := (lyN_run p1.2.2.1 p1.2.2.2.2.1).1.1
    show pcA W.1 < 100000
    omega) ⟨⟨0, rfl, rfl⟩, hC, RKp.rfl'⟩
  exact ⟨G', e, p⟩
theorem ccons_ok (hC : CI G d W) : COu G d (fX6_inconsistencies 0 G) (nW 0, W) := by
  obtain ⟨ro, l, K, h1, h2, h3⟩ := id hC
  obtain ⟨p1, -⟩ := h3.split
  have hm := p1.2.2.2.1
  unfold fX6_inconsistencies fX6_inconsistencies_0
  simp only [lits]
  rw [h1.f3, Option.bind_some, ck_ok p1.1.1.1.t, gameTotal_ok p1.2 p1.1, Option.bind_some]
  obtain ⟨r, G', e, rfl, p⟩ := loop_by (f := fun (s : Int32 × Int32) G => fX6_inconsistencies_13 0 s.1 (Int64.ofNat (gmA W.1)) s.2 G) (fun k s G' => (∃ i, k + i = W.1.2.2.2.2 ∧ s = (nW 0, nW i)) ∧ CI G' d W ∧ RKp G G') (fun r G' => r = nW 0 ∧ CI G' d W ∧ RKp G G') (by
    rintro k s G1 ⟨⟨i, hi, rfl⟩, hC1, hk⟩
    obtain ⟨ro, l, K, h1, h2, h3⟩ := id hC1
    obtain ⟨p1, p2, p3, p4⟩ := h3.split
    obtain ⟨b0, b1, b2, b3⟩ := h1.bd p1
    have hn := szs36 p1.2.1
    show (∃ r G', fX6_inconsistencies_13 0 (nW 0) (Int64.ofNat (gmA W.1)) (nW i) G1 = some (.inr r, G') ∧ _) ∨ (∃ k' s' G', k' < k ∧ fX6_inconsistencies_13 0 (nW 0) (Int64.ofNat (gmA W.1)) (nW i) G1 = some (.inl s', G') ∧ _)
    unfold fX6_inconsistencies_13 fX6_inconsistencies_53
    simp only [lits]
    by_cases q : i < W.1.2.2.2.2
    · right
      obtain ⟨x', y', f1, f2, f3, f4, f5⟩ := ccg_ok h1 h3 q
      have tt := total_ok (x := x') (y := y') (G := G1) h1.ta f4 (by omega) f5
      rw [gmv_tot p1.2.2.1 hn p1.2.2.2.2.1 q] at tt
      have g1' : gR (wIJ G1 x' y') 16 0 1 = some 5 := h1.f1
      refine ⟨k - 1, (nW 0, nW (i + 1)), wIJ G1 x' y', by omega, ?_, ⟨i + 1, by omega, rfl⟩, ⟨ro, l, K, h1, h2, f2⟩, hk.trans f3⟩
      rw [h1.f3, Option.bind_some, b3, Option.bind_some, if_neg (by rw [nW_le (by omega) (by omega)]; omega), h1.f1, Option.bind_some, Option.bind_some, ck_ok h1.ta.1.1, f1, Option.bind_some, g1', Option.bind_some, ck_wij, ck_ok h1.ta.1.1, tt, Option.bind_some, if_pos ((lgc_0 _ _).mpr rfl), nW_add]
    · left
      have ei : i = W.1.2.2.2.2 := by omega
      subst ei
      obtain ⟨G', e, c1, c2⟩ := ccons2_ok hC1
      refine ⟨nW 0, G', ?_, rfl, c1, hk.trans c2⟩
      rw [h1.f3, Option.bind_some, b3, Option.bind_some, if_pos ((nW_le (by omega) (by omega)).mpr (Nat.le_refl _)), e]
      rfl) FU W.1.2.2.2.2 (nW 0, nW 0) G (by show W.1.2.2.2.2 < 100000; omega) ⟨⟨0, rfl, rfl⟩, hC, RKp.rfl'⟩
  exact ⟨G', e, p⟩
end CCONS
