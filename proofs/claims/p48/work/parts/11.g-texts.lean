/-! ===== the class loads and plays ===== -/
noncomputable def oPlay (W : WSt) : Int32 × WSt := match pPlay W.2.2.2.1.1 W.2.2.2.1.2 W.1 with
  | .inl e => (-nW 1, (W.1, W.2.1, W.2.2.1, (W.2.2.2.1.1, 0), (nW e.1, nW e.2), W.2.2.2.2.2))
  | .inr q => (nW q.2, (q.1, rem8 W.2.1 W.1, W.2.2.1, (W.2.2.2.1.1, 0), (nW 0, -nW 1), W.2.2.2.2.2))
noncomputable def oLoad (W : WSt) : Int32 × WSt := match pLoad W.2.2.2.1.1 W.2.2.2.1.2 with
  | .inl e => (-nW 1, (W.1, W.2.1, W.2.2.1, (W.2.2.2.1.1, 0), (nW e.1, nW e.2), W.2.2.2.2.2))
  | .inr q => (nW (npc (q.1.1 * q.1.2.1) q.1.2.2.2.1), (q.1, rem8 W.2.1 W.1, W.2.2.1, (W.2.2.2.1.1, 0), (nW 0, -nW 1), W.2.2.2.2.2))
section CTEXTS
variable {G : Mem} {ro l K : Nat → Nat} {W : WSt} {d : Nat}
theorem cbegin_ok {x : Nat → Nat → Int32} {y : Nat → Nat → Int64} {T : Nat → Nat} {L : Nat} (h : PSh G) (hb : CBy x T L) : ∃ x', fX2_begin 1 (wIJ G x y) = some ((), wIJ G x' y) ∧ CSt x' T L (spN T L 0) ∧ (x' 1 3 = nW 0 ∧ x' 1 4 = nW 0 ∧ x' 1 10 = nW 0) ∧ ∀ b j, b ≠ 1 → ¬ (b = 2 ∧ 1 ≤ j ∧ j ≤ 4) → x' b j = x b j := by
  generalize hx1 : u2 (u2 (u2 (u2 (u2 (u2 x 1 1 (nW 0)) 1 2 (-nW 1)) 1 3 (nW 0)) 1 4 (nW 0)) 1 10 (nW 0)) 2 4 (nW 0) = x1
  have x1o : ∀ b j, b ≠ 1 → ¬ (b = 2 ∧ j = 4) → x1 b j = x b j := fun b j q1 q2 => by
    rw [← hx1, u2_other q2, u2_apart q1, u2_apart q1, u2_apart q1, u2_apart q1, u2_apart q1]
  have b1 : CBy x1 T L := hb.frame (x1o 2 0 (by decide) (by decide)) (funext fun j => x1o 3 j (by decide) (by omega))
  obtain ⟨x', q1, q2, q3⟩ := readNext_ok (y := y) h b1 (Nat.zero_le L) (by rw [← hx1, u2_same])
  refine ⟨x', ?_, ⟨b1.next q2, q3, ?_, ?_⟩, ⟨?_, ?_, ?_⟩, fun b j z1 z2 => ?_⟩
  · unfold fX2_begin fX2_begin_0 fX5_readFirst fX5_readFirst_0
    simp only [lits]
    rw [pI_wij h.1.1, Option.bind_some, pI_wij h.1.1, Option.bind_some, pI_wij h.1.1, Option.bind_some, pI_wij h.1.1, Option.bind_some, pI_wij h.1.1, Option.bind_some, gR_wij, h.g0, Option.bind_some, ck_wij, ck_ok h.2.1.1, pI_wij h.2.1.1, Option.bind_some, hx1, ck_wij, ck_ok h.2.1.1, q1]
    rfl
  · rw [q2 1 1 (by omega), ← hx1, u2_other (by omega), u2_other (by omega), u2_other (by omega), u2_other (by omega), u2_other (by omega), u2_same]
  · rw [q2 1 2 (by omega), ← hx1, u2_other (by omega), u2_other (by omega), u2_other (by omega), u2_other (by omega), u2_same]
  · rw [q2 1 3 (by omega), ← hx1, u2_other (by omega), u2_other (by omega), u2_other (by omega), u2_same]
  · rw [q2 1 4 (by omega), ← hx1, u2_other (by omega), u2_other (by omega), u2_same]
  · rw [q2 1 10 (by omega), ← hx1, u2_other (by omega), u2_same]
  · rw [q2 b j z2, x1o b j z1 (by omega)]
def Ptx (b : Nat) : Prop := b = 1 ∨ b = 2 ∨ b = 4
theorem CSh.rsh (h : CSh G ro l K) : RSh G (fa (ro 1)) := ⟨⟨h.1.1, h.1.2.1, h.1.2.2.2.2.2.1⟩, h.ps, (fa_ok (h.r (show 1 < 12 by decide))).1⟩
/-- the part of a content that a text leaves -/
theorem CDt.texts (hD : CDt G ro l K W) {G' : Mem} {l1 K1 : Nat → Nat} (hs : Sto G G' ro l K l1 K1 1 d Ptx) {T : Nat → Nat} {L : Nat} {ec eo : Int32} (ht : CBy (mI G') T L) (he : mI G' 1 1 = ec ∧ mI G' 1 2 = eo) : CDt G' ro l1 K1 (W.1, W.2.1, W.2.2.1, (T, L), (ec, eo), W.2.2.2.2.2) := by
  obtain ⟨a1, a2, a3, a4⟩ := hD.split
  obtain ⟨-, -, b3, -, b5, b6⟩ := id hs
  have n : ∀ b, b ≠ 1 → b ≠ 2 → b ≠ 4 → ¬ Ptx b := fun b q1 q2 q3 q => by unfold Ptx at q; omega
  have c : ∀ b, (b < 9 ∨ (51 ≤ b ∧ b < 55)) → b ≠ 1 → b ≠ 2 → b ≠ 4 → mI G' b = mI G b := fun b hb q1 q2 q3 => (b5 b hb (n b q1 q2 q3)).1
  refine CDt.join (b3 0 (by decide) (by omega) _ a1) (a2.stp hs (by omega) (n 0 (by decide) (by decide) (by decide))) (fun i hi p hp => by rw [(b5 7 (by decide) (n 7 (by decide) (by decide) (by decide))).2]; exact a3 i hi p hp) ⟨fun j hj => ⟨by rw [c 53 (by decide) (by decide) (by decide) (by decide)]; exact (a4.1 j hj).1, fun A hA => b3 _ (by omega) (by omega) A ((a4.1 j hj).2 A hA)⟩, ⟨ht, he.1, he.2⟩, ?_, b6⟩
  rw [c 0 (by decide) (by decide) (by decide) (by decide), c 54 (by decide) (by decide) (by decide) (by decide)]; exact a4.2.2.1
/-- a run of commands on the work -/
theorem cruns_ok (h : CSh G ro l K) (hR : Rom G K d) (h0 : ∀ e, e < 12 → mI G (fa e + 9) 0 = nW 0) {A : ASt} (hA : ARk G ro l K 1 A) {T : Nat → Nat} {L s : Nat} (hs : CSt (mI G) T L s) (hn : mI G 1 4 = nW 0) :
    ∃ v G' l1 K1, fX6_runCommands 0 G = some (v, G') ∧ Sto G G' ro l K l1 K1 1 d Ptx ∧ mI G' 1 3 = mI G 1 3 ∧ ((∃ e, pCmds T L (L + 1) A s 0 = .inl e ∧ v = nW 0 ∧ CBd (mI G') e) ∨ (∃ A' n', pCmds T L (L + 1) A s 0 = .inr (A', n') ∧ v = nW 1 ∧ ARk G' ro l1 K1 1 A' ∧ mI G' 1 1 = nW 0 ∧ mI G' 1 2 = -nW 1 ∧ mI G' 1 4 = nW n')) := by
  have hL := hs.1.1
  obtain ⟨v, G', l', K', e1, e2, e3⟩ := crun_ok (w := fa (ro 1)) (T := T) (L := L) (L + 1) FU G (l (ro 1)) (K (ro 1)) A s 0 (by omega) (by show L + 1 ≤ 100000; omega) (Nat.zero_le _) h.rsh hA.2 hA.1 h.fr (hR.rm (h.r (by decide))) hs hn
  have st := sto_gro (P := Ptx) h hR h0 (show 1 < 12 by decide) (fun z q => by
    rcases q with q | q | q | q
    · exact Or.inr ⟨by omega, Or.inl q⟩
    · exact Or.inr ⟨by omega, Or.inr (Or.inl q)⟩
    · exact Or.inr ⟨by omega, Or.inr (Or.inr q)⟩
    · exact Or.inl q) e2.1 e2.2.1 e2.2.2.1 e2.2.2.2.2.1 e2.2.2.2.2.2.2.2
  refine ⟨v, G', _, _, e1, st, e2.2.2.2.2.2.1.1, ?_⟩
  rcases e3 with q | ⟨A', n', q1, q2, q3, q4, q5⟩
  · exact Or.inl q
  · refine Or.inr ⟨A', n', q1, q2, ⟨?_, q3⟩, q5⟩
    have u1 : upN l (ro 1) l' (ro 1) = l' := if_pos rfl
    have u2' : upN K (ro 1) K' (ro 1) = K' := if_pos rfl
    rw [u1, u2']; exact q4
/-- the end of a text: its length is 0 then -/
theorem cend_ok {G0 : Mem} {l0 K0 : Nat → Nat} (hD : CDt G0 ro l0 K0 W) (hs : Sto G0 G ro l0 K0 l K 1 d Ptx) {T : Nat → Nat} {v ec eo : Int32} (he : mI G 1 1 = ec ∧ mI G 1 2 = eo) :
    (v = nW 0 → ∃ G', fX6_endOfText 0 v G = some (nW 0, G') ∧ CI G' d (W.1, W.2.1, W.2.2.1, (T, 0), (ec, eo), W.2.2.2.2.2) ∧ RKp G0 G') ∧
    (∀ A', v = nW 1 → ARk G ro l K 1 A' → ∃ G', fX6_endOfText 0 v G = some (nW 1, G') ∧ CI G' d (A', rem8 W.2.1 W.1, W.2.2.1, (T, 0), (ec, eo), W.2.2.2.2.2) ∧ RKp G0 G' ∧ ∀ j, mI G' 1 j = mI G 1 j) := by
  obtain ⟨h1, h2, h3, h4, h5, h6⟩ := id hs
  have pi1 : pI G 15 2 0 (nW 0) = some (wIJ G (u2 (mI G) 2 0 (nW 0)) (mJ G)) := by
    have := pI_wij (x := mI G) (y := mJ G) h1.ps.2.1.1 (k := 0) (v := nW 0)
    rw [wij_self] at this; exact this
  have st : Sto G (wIJ G (u2 (mI G) 2 0 (nW 0)) (mJ G)) ro l K l K 1 d Ptx := sto_soft h1 h2 h6 (fun b hb => ⟨u2_arow (fun q => hb ⟨by omega, Or.inr (Or.inl q)⟩), rfl⟩)
  have S := hs.trans st (P3 := Ptx) (fun _ q => q) (fun _ q => q)
  have D' := hD.texts S (T := T) (L := 0) (ec := ec) (eo := eo) ⟨Nat.zero_le _, (show u2 (mI G) 2 0 (nW 0) 2 0 = nW 0 from u2_same), fun i hi => absurd hi (Nat.not_lt_zero _)⟩ ⟨by show u2 (mI G) 2 0 (nW 0) 1 1 = _; rw [u2_apart (by omega)]; exact he.1, by show u2 (mI G) 2 0 (nW 0) 1 2 = _; rw [u2_apart (by omega)]; exact he.2⟩
  constructor
  · intro hv
    refine ⟨_, ?_, ⟨ro, l, K, S.1, S.2.1, D'⟩, S.2.2.2.1⟩
    unfold fX6_endOfText fX6_endOfText_0 fX6_endOfText_19
    simp only [lits]
    rw [h1.f0, Option.bind_some, h1.ps.g0, Option.bind_some, pi1, Option.bind_some, hv, if_pos rfl, rz0]
  · intro A' hv hA
    have rep : ARk (wIJ G (u2 (mI G) 2 0 (nW 0)) (mJ G)) ro l K 1 A' := hA.soft h1 (by decide) (fun b hb => ⟨u2_arow (by omega), rfl⟩)
    obtain ⟨t1, t2, t3, t4⟩ := D'.split
    obtain ⟨G2, ro2, d1, d2, d3, d4, d5, d6⟩ := commit_ok (W := (W.1, W.2.1, W.2.2.1, (T, 0), (ec, eo), W.2.2.2.2.2)) S.1 S.2.1 t1 rep t2 t4
    refine ⟨G2, ?_, ⟨ro2, l, K, d2, d3, d4⟩, S.2.2.2.1.trans d5, fun j => ?_⟩
    · unfold fX6_endOfText fX6_endOfText_0 fX6_endOfText_19
      simp only [lits]
      rw [h1.f0, Option.bind_some, h1.ps.g0, Option.bind_some, pi1, Option.bind_some, hv, if_neg (show ¬ nW 1 = nW 0 by decide), ck_wij, ck_ok h1.t, d1, Option.bind_some, rz1]
    · rw [d6 1 j (by decide)]
      show u2 (mI G) 2 0 (nW 0) 1 j = _
      rw [u2_apart (by omega)]
/-- what stands on the work's board becomes its start position -/
theorem cbeg_ok (h : CSh G ro l K) (hR : Rom G K d) (h0 : ∀ e, e < 12 → mI G (fa e + 9) 0 = nW 0) {t : Nat} (ht : t < 12) {c r : Nat} {P : Nat → Nat} (hA : AOK c r N00 P 0) (hB : BP c r (c * r) P (mI G) (fa (ro t) + 1)) : ∃ G', fX3_begin (fa (ro t)) G = some ((), G') ∧ Sto G G' ro l K l K t d (fun _ => False) ∧ ARk G' ro l K t (c, r, N00, P, 0) ∧ ∀ b, b < 9 → mI G' b = mI G b := by
  have hr := h.r ht
  have fr := fa_ok hr
  have lp := h.lp hr
  obtain ⟨hz, W0, -⟩ := id hA
  obtain ⟨y', e1, e2, e3, e4⟩ := begin_ok (x := mI G) (y := mJ G) (h.ss ht).1 hz W0 hB
  rw [wij_self] at e1
  generalize hx : u2 (u2 (mI G) (fa (ro t)) 1 (nW 0)) (fa (ro t) + 5) 0 (nW 1) = x at *
  have xo : ∀ b, b ≠ fa (ro t) → b ≠ fa (ro t) + 5 → x b = mI G b := fun b q1 q2 => by rw [← hx, u2_arow q2, u2_arow q1]
  have g : Gro (fa (ro t)) (CHa (fa (ro t)) (l (ro t))) G (wIJ G x y') (K (ro t)) (K (ro t)) := Gro.of_wij fun b _ hn => ⟨xo b (fun q => hn (Or.inl (by omega))) (fun q => hn (Or.inl (by omega))), e2 b (fun q => hn (Or.inl (by omega))) (fun q => hn (Or.inl (by omega))) (fun q => hn (Or.inl (by omega)))⟩
  have s := sto_gro (P := fun _ => False) h hR h0 ht (fun z q => Or.inl q) g (h.ss ht) h.fr (Or.inl rfl) (by show x _ _ = _; rw [xo _ (by omega) (by omega)]; exact h0 _ hr)
  have u1 : upN l (ro t) (l (ro t)) = l := funext fun i => by
    unfold upN
    by_cases q : i = ro t
    · rw [if_pos q, q]
    · rw [if_neg q]
  have u2' : upN K (ro t) (K (ro t)) = K := funext fun i => by
    unfold upN
    by_cases q : i = ro t
    · rw [if_pos q, q]
    · rw [if_neg q]
  rw [u1, u2'] at s
  refine ⟨_, e1, s, ⟨⟨h.ss ht, ?_, ?_, ?_, fun i hi => absurd hi (Nat.not_lt_zero _), ⟨fun i hi => ?_, fun i hi => absurd hi (Nat.not_lt_zero _)⟩, ?_⟩, hA⟩, fun b hb => xo b (by omega) (by omega)⟩
  · show x _ 0 = _ ∧ x _ 1 = _
    rw [xo _ (by omega) (by omega)]; exact hB.1
  · intro p hp ho
    show x _ _ = _
    rw [xo _ (by omega) (by omega)]; exact hB.2.1 p hp ho
  · show x _ _ = _
    rw [← hx, u2_other (by omega), u2_same]
  · have e : i = 0 := by have hi : i ≤ 0 := hi; omega
    subst e
    refine ⟨⟨?_, fun p hp => ?_⟩, ?_⟩
    · show x _ _ = _
      rw [← hx, u2_same]; rfl
    · have hp : p < 1 := hp
      have e : p = 0 := by omega
      subst e
      exact ⟨e3, e4⟩
    · show x _ _ = _
      rw [xo _ (by omega) (by omega)]; exact h0 _ hr
  · show sumN 0 _ ≤ _
    exact Nat.zero_le _
theorem cload_ok (hC : CI G d W) : COu G d (fX6_load 0 G) (oLoad W) := by
  obtain ⟨ro, l, K, h1, h2, h3⟩ := hC
  obtain ⟨p1, p2, p3, p4⟩ := h3.split
  obtain ⟨x1, a1, a2, a3, a4⟩ := cbegin_ok (y := mJ G) h1.ps p4.2.1.1
  rw [wij_self] at a1
  have hr1 := h1.r (show 1 < 12 by decide)
  have fr := fa_ok hr1
  have lp := h1.lp hr1
  have s1 : Sto G (wIJ G x1 (mJ G)) ro l K l K 1 d Ptx := sto_soft h1 h2 p4.2.2.2 (fun b hb => ⟨funext fun j => a4 b j (fun q => hb ⟨by omega, Or.inl q⟩) (fun q => hb ⟨by omega, Or.inr (Or.inl q.1)⟩), rfl⟩)
  obtain ⟨v, x2, b1, b2, b3⟩ := readSetup_ok (y := mJ G) (b := fa (ro 1) + 1) h1.ps (h1.ss (show 1 < 12 by decide)).1.b (by omega) a2 a3.2.2 a3.1
  have s2 : Sto (wIJ G x1 (mJ G)) (wIJ G x2 (mJ G)) ro l K l K 1 d Ptx := by
    have g : Gro (fa (ro 1)) (fun b => b = 1 ∨ b = 2 ∨ CHa (fa (ro 1)) (l (ro 1)) b) (wIJ G x1 (mJ G)) (wIJ G x2 (mJ G)) (K (ro 1)) (K (ro 1)) := Gro.of_wij (G := wIJ G x1 (mJ G)) fun b _ hn => ⟨funext fun j => b2 b j (fun q => hn (Or.inr (Or.inl q.1))) (fun q => hn (Or.inl q.1)) (fun q => hn (Or.inr (Or.inr (Or.inl (by omega))))) (fun q => hn (Or.inr (Or.inr (Or.inl (by omega))))), rfl⟩
    have s := sto_gro (P := Ptx) s1.1 s1.2.1 s1.2.2.2.2.2 (show 1 < 12 by decide) (fun z q => by
      rcases q with q | q | q
      · exact Or.inr ⟨by omega, Or.inl q⟩
      · exact Or.inr ⟨by omega, Or.inr (Or.inl q)⟩
      · exact Or.inl q) g (h1.ss (show 1 < 12 by decide)) h1.fr (Or.inl rfl) (by
        show x2 _ _ = _
        rw [b2 _ _ (by omega) (by omega) (by omega) (by omega)]
        exact s1.2.2.2.2.2 _ hr1)
    have u1 : upN l (ro 1) (l (ro 1)) = l := funext fun i => by
      unfold upN
      by_cases q : i = ro 1
      · rw [if_pos q, q]
      · rw [if_neg q]
    have u2' : upN K (ro 1) (K (ro 1)) = K := funext fun i => by
      unfold upN
      by_cases q : i = ro 1
      · rw [if_pos q, q]
      · rw [if_neg q]
    rw [u1, u2'] at s
    exact s
  have S2 := s1.trans s2 (P3 := Ptx) (fun _ q => q) (fun _ q => q)
  have gb : gR (wIJ G x1 (mJ G)) 13 (fa (ro 1)) 0 = some (fa (ro 1) + 1) := (h1.ss (show 1 < 12 by decide)).1.g0
  have l38 : ∀ (v3 : Int32) (G3 : Mem), mt G3 0 = 16 → fX6_load_38 0 v3 G3 = (fX6_endOfText 0 v3 G3).bind fun q7 => if q7.1 = nW 0 then some (-nW 1, q7.2) else (gR q7.2 16 0 0).bind fun v9 => (gF q7.2 12 v9 3).bind fun v10 => some (v10, q7.2) := fun v3 G3 hg => by
    unfold fX6_load_38 fX6_load_57
    simp only [lits]
    rw [ck_ok hg]
  have body : fX6_load 0 G = if v = nW 0 then fX6_load_38 0 v (wIJ G x2 (mJ G)) else ((fX3_begin (fa (ro 1)) (wIJ G x2 (mJ G))).bind fun q9 => ck q9.2 16 0 ((fX6_runCommands 0 q9.2).bind fun q10 => fX6_load_38 0 q10.1 q10.2)) := by
    unfold fX6_load fX6_load_0
    simp only [lits]
    rw [h1.f0, Option.bind_some, ck_ok h1.ps.1.1, a1, Option.bind_some, s1.1.f0, Option.bind_some, s1.1.f4, Option.bind_some, gb, Option.bind_some, ck_ok s1.1.ps.1.1, b1, Option.bind_some]
    by_cases q : v = nW 0
    · rw [if_pos (show (v, wIJ G x2 (mJ G)).1 = nW 0 from q), if_pos q]
    · rw [if_neg (show ¬ (v, wIJ G x2 (mJ G)).1 = nW 0 from q), if_neg q, s2.1.f4, Option.bind_some, ck_ok (s2.1.ss (show 1 < 12 by decide)).1.t]
  unfold oLoad pLoad
  rcases b3 with ⟨e, f1, f2, f3⟩ | ⟨c, r, P', s', f1, f2, f3, f4, f5, f6, f7⟩
  · obtain ⟨G4, g1, g2, g3⟩ := (cend_ok h3 S2 (T := W.2.2.2.1.1) (v := v) ⟨f3.1, f3.2⟩).1 f2
    rw [zB_l f1, body, if_pos f2, l38 _ _ (show mt (wIJ G x2 (mJ G)) 0 = 16 from h1.t), g1, Option.bind_some, if_pos (show nW 0 = nW 0 from rfl)]
    exact ⟨G4, rfl, g2, g3⟩
  · obtain ⟨G3, m1, m2, m3, m4⟩ := cbeg_ok (t := 1) s2.1 s2.2.1 s2.2.2.2.2.2 (by decide) (f4.aok f6) f5
    have S3 := S2.trans m2 (P3 := Ptx) (fun _ q => q) (fun _ q => q.elim)
    have cs3 : CSt (mI G3) W.2.2.2.1.1 W.2.2.2.1.2 s' := f3.same (m4 2 (by decide)) (m4 3 (by decide)) ⟨by rw [m4 1 (by decide)]; rfl, by rw [m4 1 (by decide)]; rfl⟩
    have x14 : x2 1 4 = nW 0 := by
      rw [b2 1 4 (by omega) (by omega) (by omega) (by omega)]; exact a3.2.1
    obtain ⟨v3, G4, l4, K4, r1, r2, r3, r4⟩ := cruns_ok m2.1 m2.2.1 m2.2.2.2.2.2 m3 cs3 (by rw [m4 1 (by decide)]; exact x14)
    have S4 := S3.trans r2 (P3 := Ptx) (fun _ q => q) (fun _ q => q)
    rw [zB_r f1, body, if_neg (by rw [f2]; decide), m1, Option.bind_some, ck_ok m2.1.t, r1, Option.bind_some, l38 _ _ r2.1.t]
    show COu G d _ (match pCmds W.2.2.2.1.1 W.2.2.2.1.2 (W.2.2.2.1.2 + 1) (c, r, N00, P', 0) s' 0 with | .inl e => _ | .inr q => _)
    rcases r4 with ⟨e, k1, k2, k3⟩ | ⟨A', n', k1, k2, k3, k4, k5, k6⟩
    · obtain ⟨G5, g1, g2, g3⟩ := (cend_ok h3 S4 (T := W.2.2.2.1.1) (v := v3) ⟨k3.1, k3.2⟩).1 k2
      rw [k1, g1, Option.bind_some, if_pos (show nW 0 = nW 0 from rfl)]
      exact ⟨G5, rfl, g2, g3⟩
    · obtain ⟨G5, g1, g2, g3, g4⟩ := (cend_ok h3 S4 (T := W.2.2.2.1.1) (v := v3) ⟨k4, k5⟩).2 A' k2 k3
      obtain ⟨ro5, l5, K5, z1, z2, z3⟩ := id g2
      have kp := (pCmds_keep _ _ _ _ k1).1
      have fg : gF G5 12 1 3 = some (nW (npc (A'.1 * A'.2.1) A'.2.2.2.1)) := by
        have := gF_wij (x := mI G5) (y := mJ G5) z1.ps.1.1 (k := 3)
        rw [wij_self, g4, r3, m4 1 (by decide)] at this
        rw [this, kp.1, kp.2.1, kp.2.2]
        exact congrArg some f7
      rw [k1, g1, Option.bind_some, if_neg (show ¬ nW 1 = nW 0 by decide), z1.f0, Option.bind_some, fg, Option.bind_some]
      exact ⟨G5, rfl, g2, g3⟩
end CTEXTS
