/-! ===== the class's further changes ===== -/
section COPS2
variable {G : Mem} {ro l K : Nat → Nat} {W : WSt} {d : Nat}
theorem cgamesIf_ok (hC : CI G (d + 1) W) {k fx tx ty tk hk : Int32} (h5 : tk = 0 ∨ tk = 1) (h6 : hk = 0 ∨ hk = 1) : COut G (d + 1) (fX6_gamesIfNoted 0 k fx tx ty tk hk G) (oIf W k fx tx ty tk hk) := by
  obtain ⟨ro, l, K, h1, h2, h3⟩ := hC
  obtain ⟨p1, p2, p3, p4⟩ := h3.split
  unfold fX6_gamesIfNoted fX6_gamesIfNoted_0 fX6_gamesIfNoted_50 oIf
  simp only [lits]
  rw [ck_ok h1.t, reqStat_ok h1 h2 p1, Option.bind_some]
  cases hok : okNote W.1 k fx tx ty with
  | false => exact ⟨G, rfl, ⟨ro, l, K, h1, h2, h3⟩, RKp.rfl'⟩
  | true =>
    obtain ⟨x', e1, e2, e3, e4, e5, e6⟩ := asked_ok (k := k) (fx := fx) (tx := tx) (ty := ty) h1 h2 h3 h5 h6
    obtain ⟨q1, q2, q3, q4⟩ := e3.split
    obtain ⟨v, G', l1, K1, f1, f2, f3⟩ := followAsked_ok e2 (h2.wij (x := x')) q4.2.2.2 (c := W.1.1) (r := W.1.2.1) (N := W.1.2.2.1) (P0 := W.1.2.2.2.1) (m := W.1.2.2.2.2) q1 (nt := ntF k fx tx ty tk hk) e6 h5 h6
    have D' := e3.work rfl f2
    have K2 : RKp G G' := e4.trans f2.2.2.2.1
    rw [if_neg (by decide), if_neg (by decide)]
    show COut G (d + 1) ((gR G 16 0 2).bind fun v3 => _) _
    rw [h1.f2, Option.bind_some, ck_ok h1.as, e1, Option.bind_some, ck_ok e2.t, f1, Option.bind_some]
    have eW : W.1 = (W.1.1, W.1.2.1, W.1.2.2.1, W.1.2.2.2.1, W.1.2.2.2.2) := rfl
    have n1 : ¬ nW 1 ≤ -nW 1 := by decide
    have n0 : ¬ nW 1 ≤ nW 0 := by decide
    have l1' : (-nW 1).toInt64 = (-1 : Int64) := by decide
    have l0' : (nW 0).toInt64 = (0 : Int64) := by decide
    rcases f3 with ⟨g1, g2⟩ | ⟨g1, g2, g3⟩
    · have ea : aAdd W.1 (ntF k fx tx ty tk hk) = none := by rw [eW]; exact aAdd_none (fun z => g1 z.1)
      rw [g2, if_neg (show ¬ nW 1 ≤ (-nW 1, G').1 from n1), ea]
      refine ⟨G', ?_, ⟨ro, l1, K1, f2.1, f2.2.1, D'⟩, K2⟩
      show some (Sum.inl (-nW 1).toInt64, G') = some (Sum.inl (if _ then _ else _), G')
      rw [if_neg (fun z => g1 z.1), l1']
    · have hok0 : okN W.1.1 (W.1.1 * W.1.2.1) (addN W.1.2.2.1 W.1.2.2.2.2 (ntF k fx tx ty tk hk)) W.1.2.2.2.1 W.1.2.2.2.2 := okN_cong addN_low p1.2.2.2.2.1
      have eN : addN W.1.2.2.1 W.1.2.2.2.2 (ntF k fx tx ty tk hk) W.1.2.2.2.2 = ntF k fx tx ty tk hk := if_pos rfl
      have eL : lyN W.1.1 (W.1.1 * W.1.2.1) (addN W.1.2.2.1 W.1.2.2.2.2 (ntF k fx tx ty tk hk)) W.1.2.2.2.1 W.1.2.2.2.2 = lyN W.1.1 (W.1.1 * W.1.2.1) W.1.2.2.1 W.1.2.2.2.1 W.1.2.2.2.2 := (lyN_cong addN_low).symm
      rcases folV_ok 1 _ hok0 with ⟨m1, m2⟩ | ⟨m1, m2⟩
      · have B := g3 m1
        have pos := pcn_pos m1
        have le : pcn W.1.1 (W.1.1 * W.1.2.1) (addN W.1.2.2.1 W.1.2.2.2.2 (ntF k fx tx ty tk hk)) W.1.2.2.2.1 (W.1.2.2.2.2 + 1) ≤ 40 := (lyN_run B.2.2.1 m1).1.1
        have ea : aAdd W.1 (ntF k fx tx ty tk hk) = some (W.1.1, W.1.2.1, addN W.1.2.2.1 W.1.2.2.2.2 (ntF k fx tx ty tk hk), W.1.2.2.2.1, W.1.2.2.2.2 + 1) := by rw [eW]; exact aAdd_some ⟨g1, m1⟩
        rw [g2, m2, if_pos (show nW 1 ≤ nW (pcn W.1.1 (W.1.1 * W.1.2.1) (addN W.1.2.2.1 W.1.2.2.2.2 (ntF k fx tx ty tk hk)) W.1.2.2.2.1 (W.1.2.2.2.2 + 1)) by rw [nW_le (by decide) (by omega)]; exact pos), f2.1.f4, Option.bind_some, ck_ok (f2.1.ss (show 1 < 12 by decide)).1.t, gameTotal_ok B.2 B.1, Option.bind_some, ea]
        exact ⟨G', rfl, ⟨ro, l1, K1, f2.1, f2.2.1, D'⟩, K2⟩
      · have ea : aAdd W.1 (ntF k fx tx ty tk hk) = none := by rw [eW]; exact aAdd_none (fun z => m1 z.2)
        rw [ea]
        cases hq : stepL W.1.1 (W.1.1 * W.1.2.1) (ntF k fx tx ty tk hk) (W.1.2.2.2.2 % 2) (lyN W.1.1 (W.1.1 * W.1.2.1) W.1.2.2.1 W.1.2.2.2.1 W.1.2.2.2.2).1 with
        | none =>
          have ev : v = -nW 1 := by
            rw [g2]
            unfold folV
            rw [eN, eL, hq]
          rw [ev, if_neg (show ¬ nW 1 ≤ (-nW 1, G').1 from n1)]
          refine ⟨G', ?_, ⟨ro, l1, K1, f2.1, f2.2.1, D'⟩, K2⟩
          show some (Sum.inl (-nW 1).toInt64, G') = some (Sum.inl (if _ then _ else _), G')
          rw [if_neg (fun z => z.2 rfl), l1']
        | some q =>
          have ev : v = nW 0 := by
            have z : lyc q.1 = 0 := by
              by_cases z : lyc q.1 = 0
              · exact z
              · have s1 : stepL W.1.1 (W.1.1 * W.1.2.1) (addN W.1.2.2.1 W.1.2.2.2.2 (ntF k fx tx ty tk hk) W.1.2.2.2.2) (W.1.2.2.2.2 % 2) (lyN W.1.1 (W.1.1 * W.1.2.1) (addN W.1.2.2.1 W.1.2.2.2.2 (ntF k fx tx ty tk hk)) W.1.2.2.2.1 W.1.2.2.2.2).1 = some q := by rw [eN, eL]; exact hq
                have e := lyN_of s1
                exact absurd (okN_succ.mpr ⟨hok0, by rw [e]; exact s1, by rw [e]; exact z⟩) m1
            rw [g2]
            unfold folV
            rw [eN, eL, hq]
            exact if_pos z
          rw [ev, if_neg (show ¬ nW 1 ≤ (nW 0, G').1 from n0)]
          refine ⟨G', ?_, ⟨ro, l1, K1, f2.1, f2.2.1, D'⟩, K2⟩
          show some (Sum.inl (nW 0).toInt64, G') = some (Sum.inl (if _ then _ else _), G')
          rw [if_pos ⟨g1, by intro z; cases z⟩, l0']
theorem cclarify_ok (hC : CI G (d + 1) W) {z cx ry : Int32} : COut G (d + 1) (fX6_clarify 0 z cx ry G) (oClar W z cx ry) := by
  obtain ⟨ro, l, K, h1, h2, h3⟩ := hC
  obtain ⟨p1, p2, p3, p4⟩ := h3.split
  obtain ⟨b0, b1, b2, b3⟩ := h1.bd p1
  have hm10 := p1.2.2.2.1
  unfold fX6_clarify fX6_clarify_0 fX6_clarify_39 oClar
  simp only [lits]
  rw [ck_ok h1.t, reqNote_ok h1 h2 p1, Option.bind_some]
  rcases ixZ_spec (z := z) (show W.1.2.2.2.2 < 2147483648 by omega) with ⟨k, e1, e2, rfl, -, -⟩ | ⟨e1, -, -⟩
  · rw [e1]
    show COut G (d + 1) ((gR G 16 0 3).bind fun v3 => _) _
    rw [h1.f3, Option.bind_some, b0, Option.bind_some, b1, Option.bind_some, cOpen_ok, Option.bind_some]
    cases s1 : sttd cx W.1.1 with
    | false => rw [if_pos bIf, h2.thw]; exact ⟨G, rfl, ⟨ro, l, K, h1, h2, h3⟩, RKp.rfl'⟩
    | true =>
      rw [if_neg bIt]
      show COut G (d + 1) ((gR G 16 0 3).bind fun v8 => _) _
      rw [h1.f3, Option.bind_some, b0, Option.bind_some, b2, Option.bind_some, cOpen_ok, Option.bind_some]
      cases s2 : sttd ry W.1.2.1 with
      | false => rw [if_pos bIf, h2.thw]; exact ⟨G, rfl, ⟨ro, l, K, h1, h2, h3⟩, RKp.rfl'⟩
      | true =>
        obtain ⟨G1, l1, K1, c1, c2, c3⟩ := cpy_ok (t := 1) h1 h2 p4.2.2.2 (show 0 < 12 by decide) (by decide) (by decide) p1
        have hr1 := c2.1.r (show 1 < 12 by decide)
        have so := setOrigin_ok (cx := cx) (ry := ry) c3.1.1 hm10 c3.1.2.2.2.1 e2
        obtain ⟨Gf, l', K', f1, f2, f3, f4, f5, f6, f7, f8⟩ := orgFollow_ok (cx := cx) (ry := ry) c3.2 c3.1 c2.1.fr (c2.2.1.rm hr1) e2
        have st := sto_gro (P := fun _ => False) c2.1 c2.2.1 c2.2.2.2.2.2 (show 1 < 12 by decide) (fun z q => Or.inl q) f5 f2 f3 f6 f7
        have S := c2.trans st (P3 := fun _ => False) (fun _ q => q) (fun _ q => q)
        have D' := h3.work rfl S
        obtain ⟨t1, t2, t3, t4⟩ := D'.split
        have r4 : gR (wIJ G1 (u2 (u2 (mI G1) (fa (ro 1) + 11 + k) 1 cx) (fa (ro 1) + 11 + k) 2 ry) (mJ G1)) 16 0 4 = some (fa (ro 1)) := c2.1.f4
        have ek : k + (W.1.2.2.2.2 - k) = W.1.2.2.2.2 := by omega
        have fo := folV_ok (N := orgN W.1.2.2.1 k cx ry) (W.1.2.2.2.2 - k) k (okN_cong orgN_low (p1.2.2.2.2.1.mono (show k ≤ W.1.2.2.2.2 by omega)))
        rw [ek] at fo
        have eW : W.1 = (W.1.1, W.1.2.1, W.1.2.2.1, W.1.2.2.2.1, W.1.2.2.2.2) := rfl
        have n1 : ¬ nW 1 ≤ -nW 1 := by decide
        have n0 : ¬ nW 1 ≤ nW 0 := by decide
        rw [if_neg bIt]
        show COut G (d + 1) ((gR G 16 0 4).bind fun v13 => (gR G 16 0 3).bind fun v14 => ck G 13 v13 ((fX3_copyFrom v13 v14 G).bind fun q15 => _)) _
        rw [h1.f4, Option.bind_some, h1.f3, Option.bind_some, ck_ok (h1.ss (show 1 < 12 by decide)).1.t, c1, Option.bind_some, c2.1.f4, Option.bind_some, ck_ok c3.1.1.1.t, so, Option.bind_some, r4, Option.bind_some, ck_wij, ck_ok c3.1.1.1.t, f1, Option.bind_some]
        show COut G (d + 1) _ (match aOrg W.1 k cx ry with | none => (.inr 1, W) | some A => (.inl (nW (pcA A)), (A, rem8 W.2.1 W.1, W.2.2)))
        rcases fo with ⟨g1, g2⟩ | ⟨g1, g2⟩
        · have rep : ARk Gf ro (upN l1 (ro 1) l') (upN K1 (ro 1) K') 1 (W.1.1, W.1.2.1, orgN W.1.2.2.1 k cx ry, W.1.2.2.2.1, W.1.2.2.2.2) := by
            refine ⟨?_, p1.2.org g1⟩
            have u1 : upN l1 (ro 1) l' (ro 1) = l' := if_pos rfl
            have u2' : upN K1 (ro 1) K' (ro 1) = K' := if_pos rfl
            rw [u1, u2']
            exact f8 g1
          have pos := pcn_pos g1
          have le : pcn W.1.1 (W.1.1 * W.1.2.1) (orgN W.1.2.2.1 k cx ry) W.1.2.2.2.1 W.1.2.2.2.2 ≤ 40 := (lyN_run rep.2.2.1 g1).1.1
          have ea : aOrg W.1 k cx ry = some (W.1.1, W.1.2.1, orgN W.1.2.2.1 k cx ry, W.1.2.2.2.1, W.1.2.2.2.2) := by rw [eW]; exact aOrg_some g1
          obtain ⟨G2, ro2, d1, d2, d3, d4, d5, -⟩ := commit_ok (W := W) S.1 S.2.1 t1 rep t2 t4
          rw [g2, if_pos (show nW 1 ≤ nW (pcn W.1.1 (W.1.1 * W.1.2.1) (orgN W.1.2.2.1 k cx ry) W.1.2.2.2.1 W.1.2.2.2.2) by rw [nW_le (by decide) (by omega)]; exact pos), ck_ok S.1.t, d1, Option.bind_some, ea]
          exact ⟨G2, rfl, ⟨ro2, _, _, d2, d3, d4⟩, S.2.2.2.1.trans d5⟩
        · have ea : aOrg W.1 k cx ry = none := by rw [eW]; exact aOrg_none g1
          rw [if_neg (show ¬ nW 1 ≤ folV W.1.1 (W.1.1 * W.1.2.1) (orgN W.1.2.2.1 k cx ry) W.1.2.2.2.1 (W.1.2.2.2.2 - k) k by rcases g2 with g2 | g2 <;> rw [g2]; exact n0; exact n1), S.2.1.thw, ea]
          exact ⟨Gf, rfl, ⟨ro, _, _, S.1, S.2.1, D'⟩, S.2.2.2.1⟩
  · rw [e1]
    exact ⟨G, rfl, ⟨ro, l, K, h1, h2, h3⟩, RKp.rfl'⟩
theorem cdrop_ok (hC : CI G (d + 1) W) : COut G (d + 1) (fX6_dropNote 0 G) (oDrop W) := by
  obtain ⟨ro, l, K, h1, h2, h3⟩ := hC
  obtain ⟨p1, p2, p3, p4⟩ := h3.split
  obtain ⟨b0, b1, b2, b3⟩ := h1.bd p1
  have hm10 := p1.2.2.2.1
  unfold fX6_dropNote fX6_dropNote_0 oDrop aDrop
  simp only [lits]
  rw [h1.f3, Option.bind_some, b3, Option.bind_some]
  by_cases hm : W.1.2.2.2.2 = 0
  · rw [if_pos (by rw [hm]), if_pos hm, h2.thw]
    exact ⟨G, rfl, ⟨ro, l, K, h1, h2, h3⟩, RKp.rfl'⟩
  · obtain ⟨G1, l1, K1, c1, c2, c3⟩ := cpy_ok (t := 1) h1 h2 p4.2.2.2 (show 0 < 12 by decide) (by decide) (by decide) p1
    have hr1 := c2.1.r (show 1 < 12 by decide)
    have fr1 := fa_ok hr1
    have fm : gF G1 13 (fa (ro 1)) 1 = some (nW W.1.2.2.2.2) := c3.1.cnt1
    have pi1 : pI G1 13 (fa (ro 1)) 1 (nW (W.1.2.2.2.2 - 1)) = some (wIJ G1 (u2 (mI G1) (fa (ro 1)) 1 (nW (W.1.2.2.2.2 - 1))) (mJ G1)) := by
      have := pI_wij (x := mI G1) (y := mJ G1) c3.1.1.1.t (k := 1) (v := nW (W.1.2.2.2.2 - 1))
      rw [wij_self] at this; exact this
    have hd := drop_ok c3.2 c3.1 (show W.1.2.2.2.2 - 1 ≤ W.1.2.2.2.2 by omega)
    have st : Sto G1 (wIJ G1 (u2 (mI G1) (fa (ro 1)) 1 (nW (W.1.2.2.2.2 - 1))) (mJ G1)) ro l1 K1 l1 K1 1 (d + 1) (fun _ => False) := by
      have g : Gro (fa (ro 1)) (CHa (fa (ro 1)) (l1 (ro 1))) G1 (wIJ G1 (u2 (mI G1) (fa (ro 1)) 1 (nW (W.1.2.2.2.2 - 1))) (mJ G1)) (K1 (ro 1)) (K1 (ro 1)) := Gro.of_wij fun b _ hn => ⟨u2_arow (fun q => hn (Or.inl (by omega))), rfl⟩
      have s := sto_gro (P := fun _ => False) c2.1 c2.2.1 c2.2.2.2.2.2 (show 1 < 12 by decide) (fun z q => Or.inl q) g c3.1.1 c2.1.fr (Or.inl rfl) (by show u2 _ _ _ _ _ _ = _; rw [u2_apart (by omega)]; exact c2.2.2.2.2.2 _ hr1)
      have u1 : upN l1 (ro 1) (l1 (ro 1)) = l1 := funext fun i => by
        unfold upN
        by_cases q : i = ro 1
        · rw [if_pos q, q]
        · rw [if_neg q]
      have u2' : upN K1 (ro 1) (K1 (ro 1)) = K1 := funext fun i => by
        unfold upN
        by_cases q : i = ro 1
        · rw [if_pos q, q]
        · rw [if_neg q]
      rw [u1, u2'] at s
      exact s
    have S := c2.trans st (P3 := fun _ => False) (fun _ q => q) (fun _ q => q)
    have D' := h3.work rfl S
    obtain ⟨t1, t2, t3, t4⟩ := D'.split
    have rep : ARk (wIJ G1 (u2 (mI G1) (fa (ro 1)) 1 (nW (W.1.2.2.2.2 - 1))) (mJ G1)) ro l1 K1 1 (W.1.1, W.1.2.1, W.1.2.2.1, W.1.2.2.2.1, W.1.2.2.2.2 - 1) := ⟨hd, p1.2.mono (Nat.sub_le _ 1)⟩
    obtain ⟨G2, ro2, d1, d2, d3, d4, d5, -⟩ := commit_ok (W := W) S.1 S.2.1 t1 rep t2 t4
    obtain ⟨-, -, -, cn⟩ := d2.bd d4.1
    rw [if_neg (by rw [nW_eq (by omega) (by decide)]; exact hm), if_neg hm, h1.f4, Option.bind_some, Option.bind_some, ck_ok (h1.ss (show 1 < 12 by decide)).1.t, c1, Option.bind_some, c2.1.f4, Option.bind_some, fm, Option.bind_some, nW_sub (by omega), pi1, Option.bind_some, ck_wij, ck_ok c2.1.t, d1, Option.bind_some, d2.f3, Option.bind_some, cn]
    exact ⟨G2, rfl, ⟨ro2, _, _, d2, d3, d4⟩, S.2.2.2.1.trans d5⟩
end COPS2
