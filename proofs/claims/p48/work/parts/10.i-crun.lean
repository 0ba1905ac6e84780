/-! ===== the class carries out commands ===== -/
theorem folV_ok {c n : Nat} {N : Nat → Nat → Int32} {P0 : Nat → Nat} : ∀ (d i : Nat), okN c n N P0 i → (okN c n N P0 (i + d) ∧ folV c n N P0 d i = nW (pcn c n N P0 (i + d))) ∨ (¬ okN c n N P0 (i + d) ∧ (folV c n N P0 d i = nW 0 ∨ folV c n N P0 d i = -nW 1)) := by
  intro d
  induction d with
  | zero => intro i h; exact Or.inl ⟨h, rfl⟩
  | succ d ih =>
    intro i h
    cases hq : stepL c n (N i) (i % 2) (lyN c n N P0 i).1 with
    | none =>
      right
      refine ⟨fun q => ?_, Or.inr ?_⟩
      · have := (q i (by omega)).1
        rw [hq] at this; cases this
      · unfold folV; rw [hq]
    | some q =>
      have e := lyN_of hq
      by_cases hz : lyc q.1 = 0
      · right
        refine ⟨fun z => ?_, Or.inl ?_⟩
        · have := (z i (by omega)).2
          rw [e] at this; exact this hz
        · unfold folV; rw [hq]; exact if_pos hz
      · have h1 : okN c n N P0 (i + 1) := okN_succ.mpr ⟨h, by rw [e]; exact hq, by rw [e]; exact hz⟩
        have ev : folV c n N P0 (d + 1) i = folV c n N P0 d (i + 1) := by
          conv => lhs; unfold folV
          rw [hq]; exact if_neg hz
        rw [ev, show i + (d + 1) = i + 1 + d by omega]
        exact ih (i + 1) h1
/-- the class's object, as far as the commands need it -/
def RSh (G : Mem) (w : Nat) : Prop := (mt G 0 = 16 ∧ mP G 0 0 = some 1 ∧ mP G 0 4 = some w) ∧ PSh G ∧ 9 ≤ w
def chR (w l b : Nat) : Prop := b = 1 ∨ b = 2 ∨ b = 4 ∨ CHa w l b
def CGr (w l K : Nat) (G G' : Mem) (l' K' : Nat) : Prop := Gro w (chR w l) G G' K K' ∧ SS G' w l' K' ∧ Frsh G' ∧ Rm G' K' ∧ (l' = l ∨ mz G ≤ l') ∧ (mI G' 1 3 = mI G 1 3 ∧ mI G' 1 10 = mI G 1 10) ∧ mI G' 2 0 = mI G 2 0 ∧ mI G' (w + 9) 0 = nW 0
section CRUN2
variable {w : Nat} {T : Nat → Nat} {L : Nat}
theorem RSh.r0 {G : Mem} (h : RSh G w) : gR G 16 0 0 = some 1 := gR_ok h.1.1 h.1.2.1
theorem RSh.r4 {G : Mem} (h : RSh G w) : gR G 16 0 4 = some w := gR_ok h.1.1 h.1.2.2
theorem RSh.gro {G G' : Mem} {ch : Nat → Prop} {K K' : Nat} (h : RSh G w) (hF : Frsh G) (hg : Gro w ch G G' K K') : RSh G' w := by
  obtain ⟨⟨h1, h2, h3⟩, ⟨⟨p1, p2, p3⟩, ⟨p4, p5⟩, ⟨p6, p7⟩, p8⟩, h4⟩ := h
  have z4 : 4 < mz G := hF.lt (by rw [p8]; decide)
  have k := fun b (hb : b < 5) => hg.2.1 b (by omega)
  have kp : ∀ b j, b < 5 → mP G' b j = mP G b j := fun b j hb => (k b hb).2.2 j (by omega)
  refine ⟨⟨?_, ?_, ?_⟩, ⟨⟨?_, ?_, ?_⟩, ⟨?_, ?_⟩, ⟨?_, ?_⟩, ?_⟩, h4⟩
  · rw [(k 0 (by decide)).1]; exact h1
  · rw [kp 0 0 (by decide)]; exact h2
  · rw [kp 0 4 (by decide)]; exact h3
  · rw [(k 1 (by decide)).1]; exact p1
  · rw [kp 1 0 (by decide)]; exact p2
  · rw [kp 1 6 (by decide)]; exact p3
  · rw [(k 2 (by decide)).1]; exact p4
  · rw [kp 2 5 (by decide)]; exact p5
  · rw [(k 3 (by decide)).1]; exact p6
  · rw [(k 3 (by decide)).2.1]; exact p7
  · rw [(k 4 (by decide)).1]; exact p8
theorem ARep.congN {G : Mem} {a l K c r m : Nat} {N N' : Nat → Nat → Int32} {P0 : Nat → Nat} (h : ARep G a l K c r N P0 m) (e : ∀ k, k < m → ∀ j, j < 7 → N k j = N' k j) : ARep G a l K c r N' P0 m := by
  obtain ⟨g1, g2, g3, g4, g5, g6, g7⟩ := h
  exact ⟨g1, g2, g3, g4, fun i hi j hj => (g5 i hi j hj).trans (e i hi j hj), g6.cong e, by rw [← ofs_cong e (Nat.le_refl m)]; exact g7⟩
theorem CGr.trans {G G1 G2 : Mem} {l K l1 K1 l2 K2 : Nat} (h : CGr w l K G G1 l1 K1) (h2 : CGr w l1 K1 G1 G2 l2 K2) : CGr w l K G G2 l2 K2 := by
  obtain ⟨a1, a2, a3, a4, a5, a6, a7, -⟩ := h
  obtain ⟨b1, b2, b3, b4, b5, b6, b7, b8⟩ := h2
  have hz := a1.1.1
  refine ⟨a1.trans b1 (fun _ q => q) (fun b hb q => ?_), b2, b3, b4, by omega, ⟨b6.1.trans a6.1, b6.2.trans a6.2⟩, b7.trans a7, b8⟩
  unfold chR CHa at q ⊢
  omega
theorem CGr.wij {G : Mem} {l K : Nat} {x : Nat → Nat → Int32} (hw : 9 ≤ w) (hl0 : mI G (w + 9) 0 = nW 0) (hS : SS G w l K) (hF : Frsh G) (hr : Rm G K) (hx : ∀ b j, ¬ (b = 2 ∧ 1 ≤ j ∧ j ≤ 4) → ¬ (b = 1 ∧ ((1 ≤ j ∧ j ≤ 2) ∨ (4 ≤ j ∧ j ≤ 9))) → b ≠ 4 → x b j = mI G b j) : CGr w l K G (wIJ G x (mJ G)) l K :=
  ⟨Gro.of_wij fun b _ hn => ⟨funext fun j => hx b j (fun q => hn (Or.inr (Or.inl q.1))) (fun q => hn (Or.inl q.1)) (fun q => hn (Or.inr (Or.inr (Or.inl q)))), rfl⟩, hS, hF, hr, Or.inl rfl, ⟨hx 1 3 (by omega) (by omega) (by omega), hx 1 10 (by omega) (by omega) (by omega)⟩, hx 2 0 (by omega) (by omega) (by omega), (hx (w + 9) 0 (by omega) (by omega) (by omega)).trans hl0⟩
/-- the state at w lives on while the parser's own cells change -/
theorem ARep.pars {G : Mem} {l K c r m : Nat} {N : Nat → Nat → Int32} {P0 : Nat → Nat} {x : Nat → Nat → Int32} {y : Nat → Nat → Int64} (hw : 9 ≤ w) (hA : AOK c r N P0 m) (h : ARep G w l K c r N P0 m) (hF : Frsh G) (hx : ∀ b, b ≠ 1 → b ≠ 2 → b ≠ 4 → x b = mI G b ∧ y b = mJ G b) : ARep (wIJ G x y) w l K c r N P0 m := by
  have hl := h.1.2.2
  refine h.frame (b := 0) (ch := fun b => b = 1 ∨ b = 2 ∨ b = 4) (K0 := 0) (K' := 0) hA hF (Gro.of_wij fun b _ hn => hx b (by omega) (by omega) (by omega)) (by omega) (fun z hz => ?_)
  unfold CHa at hz
  omega
/-- of a state's growing, as the commands see it -/
theorem CGr.follow {G Gf : Mem} {l K l' K' : Nat} (hR : RSh G w) (hS : SS G w l K) (hF : Frsh G) (hg : Gro w (CHa w l) G Gf K K') (h2 : SS Gf w l' K') (h3 : Frsh Gf) (h4 : Rm Gf K') (h5 : l' = l ∨ mz G ≤ l') (h6 : mI Gf (w + 9) 0 = nW 0) : CGr w l K G Gf l' K' ∧ mI Gf 1 = mI G 1 ∧ mI Gf 2 = mI G 2 ∧ mI Gf 3 = mI G 3 := by
  have h9 := hR.2.2
  have hl := hS.2.2
  have z4 : 4 < mz G := hF.lt (by rw [hR.2.1.2.2.2]; decide)
  have k : ∀ b, b < 5 → mI Gf b = mI G b := fun b hb => (hg.2.2 b (by omega) (by unfold CHa; omega)).1
  refine ⟨⟨⟨hg.1, hg.2.1, fun b hb hn => hg.2.2 b hb (fun q => hn (Or.inr (Or.inr (Or.inr q))))⟩, h2, h3, h4, h5, ⟨by rw [k 1 (by decide)], by rw [k 1 (by decide)]⟩, by rw [k 2 (by decide)], h6⟩, k 1 (by decide), k 2 (by decide), k 3 (by decide)⟩
/-- the end of a turn -/
theorem crun185_bad {G : Mem} {l K s n : Nat} (hl0 : mI G (w + 9) 0 = nW 0) (hR : RSh G w) (hS : SS G w l K) (hF : Frsh G) (hr : Rm G K) (hs : CSt (mI G) T L s) : ∃ G', fX6_runCommands_185 0 (nW n) (nW 0) G = liftE (some (nW 0, G')) ∧ CGr w l K G G' l K ∧ CBd (mI G') (6, s) := by
  obtain ⟨x', q1, q2, q3⟩ := endCommand_bad (x := mI G) (y := mJ G) hR.2.1 hs
  rw [wij_self] at q1
  refine ⟨wIJ G x' (mJ G), ?_, CGr.wij hR.2.2 hl0 hS hF hr (fun b j _ z _ => q2 b j (by omega)), q3⟩
  unfold fX6_runCommands_185 fX6_runCommands_196
  simp only [lits]
  rw [hR.r0, Option.bind_some, ck_ok hR.2.1.1.1, q1, Option.bind_some, if_pos rfl]
theorem crun185_ok {G : Mem} {l K s n : Nat} (hl0 : mI G (w + 9) 0 = nW 0) (hR : RSh G w) (hS : SS G w l K) (hF : Frsh G) (hr : Rm G K) (hs : CSt (mI G) T L s) (hn : mI G 1 4 = nW n) : ∃ x', fX6_runCommands_185 0 (nW n) (nW 1) G = some (.inl (nW (n + 1)), wIJ G x' (mJ G)) ∧ (∀ b, b ≠ 1 → b ≠ 2 → x' b = mI G b) ∧ CGr w l K G (wIJ G x' (mJ G)) l K ∧ CSt x' T L (nx T L s) ∧ x' 1 4 = nW (n + 1) := by
  obtain ⟨x', q1, q2, q3, q4⟩ := endCommand_ok (x := mI G) (y := mJ G) hR.2.1 hs hn
  rw [wij_self] at q1
  refine ⟨x', ?_, fun b z1 z2 => funext fun j => q2 b j (by omega) (by omega), CGr.wij hR.2.2 hl0 hS hF hr (fun b j z1 z2 _ => q2 b j z1 (by omega)), q3, q4⟩
  unfold fX6_runCommands_185
  simp only [lits]
  rw [hR.r0, Option.bind_some, ck_ok hR.2.1.1.1, q1, Option.bind_some, if_neg (show ¬ nW 1 = nW 0 by decide), nW_add]
theorem SS.wij {G : Mem} {l K : Nat} {x : Nat → Nat → Int32} {y : Nat → Nat → Int64} (h : SS G w l K) : SS (wIJ G x y) w l K := h
theorem SS.bd {G : Mem} {l K : Nat} (h : SS G w l K) : mt G (w + 1) = 10 := h.1.b.1
/-- how a turn ends -/
def CTn (G : Mem) (w l K : Nat) (T : Nat → Nat) (L n : Nat) (z : Option ((Int32 ⊕ Int32) × Mem)) (p : (Nat × Nat) ⊕ (ASt × Nat)) : Prop :=
  ∃ G' l' K', CGr w l K G G' l' K' ∧ ((∃ e, p = .inl e ∧ z = liftE (some (nW 0, G')) ∧ CBd (mI G') e) ∨ (∃ A' s', p = .inr (A', s') ∧ z = some (.inl (nW (n + 1)), G') ∧ AAOK A' ∧ ARep G' w l' K' A'.1 A'.2.1 A'.2.2.1 A'.2.2.2.1 A'.2.2.2.2 ∧ CSt (mI G') T L s' ∧ mI G' 1 4 = nW (n + 1)))
theorem CTn.from {G G1 : Mem} {l K l1 K1 n : Nat} {z : Option ((Int32 ⊕ Int32) × Mem)} {p : (Nat × Nat) ⊕ (ASt × Nat)} (h : CGr w l K G G1 l1 K1) (h2 : CTn G1 w l1 K1 T L n z p) : CTn G w l K T L n z p := by
  obtain ⟨G', l', K', a1, a2⟩ := h2
  exact ⟨G', l', K', h.trans a1, a2⟩
theorem CTn.bad {G : Mem} {l K s n : Nat} (hl0 : mI G (w + 9) 0 = nW 0) (hR : RSh G w) (hS : SS G w l K) (hF : Frsh G) (hr : Rm G K) (hs : CSt (mI G) T L s) : CTn G w l K T L n (fX6_runCommands_185 0 (nW n) (nW 0) G) (.inl (6, s)) := by
  obtain ⟨G', q1, q2, q3⟩ := crun185_bad (n := n) hl0 hR hS hF hr hs
  exact ⟨G', l, K, q2, Or.inl ⟨_, rfl, q1, q3⟩⟩
theorem CTn.good {G : Mem} {l K s n c r m : Nat} {N : Nat → Nat → Int32} {P0 : Nat → Nat} (hR : RSh G w) (hA : AOK c r N P0 m) (h : ARep G w l K c r N P0 m) (hF : Frsh G) (hr : Rm G K) (hs : CSt (mI G) T L s) (hn : mI G 1 4 = nW n) : CTn G w l K T L n (fX6_runCommands_185 0 (nW n) (nW 1) G) (.inr ((c, r, N, P0, m), nx T L s)) := by
  obtain ⟨x', q1, q2, q3, q4, q5⟩ := crun185_ok (h.2.2.2.2.2.1.1 0 (Nat.zero_le _)).2 hR h.1 hF hr hs hn
  exact ⟨_, l, K, q3, Or.inr ⟨(c, r, N, P0, m), _, rfl, q1, hA, h.pars hR.2.2 hA hF (fun b z1 z2 _ => ⟨q2 b z1 z2, rfl⟩), q4, q5⟩⟩
theorem CSt.eqs {x x' : Nat → Nat → Int32} {s : Nat} (hs : CSt x T L s) (h1 : x' 1 = x 1) (h2 : x' 2 = x 2) (h3 : x' 3 = x 3) : CSt x' T L s := hs.same h2 h3 ⟨by rw [h1], by rw [h1]⟩
theorem crun_turn {G : Mem} {l K c r m : Nat} {N : Nat → Nat → Int32} {P0 : Nat → Nat} {s n : Nat} (hR : RSh G w) (hA : AOK c r N P0 m) (h : ARep G w l K c r N P0 m) (hF : Frsh G) (hr : Rm G K) (hs : CSt (mI G) T L s) (hn : mI G 1 4 = nW n) (h0 : srt T L s ≠ 0) (h6 : n < 600) : CTn G w l K T L n (fX6_runCommands_2 0 (nW n) G) (pCmd T L (c, r, N, P0, m) s) := by
  obtain ⟨hz, W, hm, hok, hwn⟩ := id hA
  obtain ⟨g1, g2, g3, g4, g5, g6, g7⟩ := id h
  have h9 := hR.2.2
  have hl := g1.2.2
  have h4s := srt_le (T := T) (L := L) s
  obtain ⟨v, x1, a1, a2, a3⟩ := readCommand_ok (N := N) (P0 := P0) (y := mJ G) hR.2.1 hs g1.1.t g1.1.1.2.1 h9 g4 g1.bd g2.1 g2.2 hz hm
  rw [wij_self] at a1
  have l0 : mI G (w + 9) 0 = nW 0 := (g6.1 0 (Nat.zero_le _)).2
  have l1 : x1 (w + 9) 0 = nW 0 := (a2 (w + 9) 0 (by omega) (by omega) (by omega)).trans l0
  have c1 : CGr w l K G (wIJ G x1 (mJ G)) l K := CGr.wij h9 l0 g1 hF hr (fun b j z1 z2 z3 => a2 b j z1 (by omega) z3)
  have hR1 : RSh (wIJ G x1 (mJ G)) w := hR
  have h1 : ARep (wIJ G x1 (mJ G)) w l K c r N P0 m := h.pars h9 hA hF (fun b z1 z2 z3 => ⟨funext fun j => a2 b j (by omega) (by omega) z3, rfl⟩)
  have hn1 : x1 1 4 = nW n := (a2 1 4 (by omega) (by omega) (by omega)).trans hn
  have end' : fX2_isAtEnd 1 G = some (nW 0, G) := by
    unfold fX2_isAtEnd fX2_isAtEnd_0 fX2_isAtEnd_15
    simp only [lits]
    have f1 : gF G 15 2 1 = some (nW (srt T L s)) := by
      have := gF_wij (x := mI G) (y := mJ G) hR.2.1.2.1.1 (k := 1)
      rw [wij_self, hs.2.1.2.1] at this; exact this
    rw [hR.2.1.g0, Option.bind_some, f1, Option.bind_some, if_neg (by rw [nW_eq (by omega) (by decide)]; exact h0), rz0]
  unfold fX6_runCommands_2
  simp only [lits]
  rw [if_neg (by rw [nW_le (by decide) (by omega)]; omega), hR.r0, Option.bind_some, ck_ok hR.2.1.1.1, end', Option.bind_some, if_pos (show nW 0 = nW 0 from rfl), hR.r0, Option.bind_some, hR.r4, Option.bind_some, ck_ok hR.2.1.1.1, a1, Option.bind_some]
  refine CTn.from c1 ?_
  rcases a3 with ⟨e, e1, e2, e3⟩ | ⟨e2, s', k1, k2, k3⟩
  · rw [e2, if_pos (show nW 0 = nW 0 from rfl)]
    unfold fX6_runCommands_33
    simp only [lits]
    exact ⟨_, l, K, ⟨Gro.rfl', g1, hF, hr, Or.inl rfl, ⟨rfl, rfl⟩, rfl, l1⟩, Or.inl ⟨e, e1, rfl, e3⟩⟩
  · have f5 : gF (wIJ G x1 (mJ G)) 12 1 5 = some (x1 1 5) := gF_wij hR.2.1.1.1
    rw [e2, if_neg (show ¬ nW 1 = nW 0 by decide), hR1.r0, Option.bind_some, f5, Option.bind_some]
    rcases k3 with ⟨k4, nt, k5, k6, k7, k8⟩ | ⟨k4, k, cx, ry, k5, k6, k7, k8, k9⟩ | ⟨k4, k5⟩
    · -- note
      rw [k4, if_pos rfl, hR1.r4, Option.bind_some, Option.bind_some, gR_wij, hR.2.1.g6, Option.bind_some, ck_ok h1.1.1.t, addLast_ok hA h1 hF (nt := 4) hR.2.1.2.2.2 (by omega) (by show x1 4 5 = _ ∨ x1 4 5 = _; rw [k6 5 (by decide)]; exact k7) (by show x1 4 6 = _ ∨ x1 4 6 = _; rw [k6 6 (by decide)]; exact k8), k5]
      by_cases hm10 : m < 10
      · have eN : ∀ k, k < m + 1 → ∀ j, j < 7 → addN N m (mI (wIJ G x1 (mJ G)) 4) k j = addN N m nt k j := fun k hk j hj => by
          unfold addN updF
          by_cases e : k = m
          · rw [if_pos e, if_pos e]; exact k6 j hj
          · rw [if_neg e, if_neg e]
        obtain ⟨Gf, l', K', p1, p2, p3, p4, p5, p6, p7, p8⟩ := addFollow_ok hA h1 hF hr hm10 (nt := 4) (by omega)
        obtain ⟨q1, q2, q3, q4⟩ := CGr.follow hR1 h1.1 hF p5 p2 p3 p4 p6 p7
        have fm : gF (wIJ (wIJ G x1 (mJ G)) (ncp (u2 (mI (wIJ G x1 (mJ G))) w 1 (nW (m + 1))) (w + 11 + m) 4) (mJ (wIJ G x1 (mJ G)))) 13 w 1 = some (nW (m + 1)) := by
          rw [gF_wij (show mt (wIJ G x1 (mJ G)) w = 13 from g1.1.t)]
          unfold ncp
          rw [if_neg (by omega), u2_same]
        have rr : gR (wIJ (wIJ G x1 (mJ G)) (ncp (u2 (mI (wIJ G x1 (mJ G))) w 1 (nW (m + 1))) (w + 11 + m) 4) (mJ (wIJ G x1 (mJ G)))) 16 0 4 = some w := hR.r4
        rw [if_pos hm10, Option.bind_some, if_neg (show ¬ nW 1 = nW 0 by decide), rr, Option.bind_some, Option.bind_some, fm, Option.bind_some, ck_wij, ck_ok h1.1.1.t, nW_sub (by omega), Nat.add_sub_cancel, p1, Option.bind_some]
        refine CTn.from q1 ?_
        have sf : CSt (mI Gf) T L s' := k1.eqs q2 q3 q4
        have nf : mI Gf 1 4 = nW n := by rw [q2]; exact hn1
        have RF := hR1.gro hF p5
        rcases folV_ok 1 m (okN_cong (fun k hk j hj => (eN k (by omega) j hj).symm) (okN_cong addN_low hok)) with ⟨f1, f2⟩ | ⟨f1, f2⟩
        · have f1' : okN c (c * r) (addN N m nt) P0 (m + 1) := okN_cong eN f1
          have hA' := hA.add hm10 f1' k7 k8
          have h40 := (lyN_run W f1).1.1
          have h00 : 0 < pcn c (c * r) (addN N m (mI (wIJ G x1 (mJ G)) 4)) P0 (m + 1) := pcn_pos f1
          have h41 : pcn c (c * r) (addN N m (mI (wIJ G x1 (mJ G)) 4)) P0 (m + 1) ≤ 40 := h40
          rw [f2, if_neg (by rw [nW_le (by omega) (by decide)]; omega), aAdd_some ⟨hm10, f1'⟩]
          unfold fX6_runCommands_88
          have rep := p8 f1
          exact CTn.good RF hA' (ARep.congN rep eN) p3 p4 sf nf
        · rw [if_pos (show folV c (c * r) (addN N m (mI (wIJ G x1 (mJ G)) 4)) P0 1 m ≤ nW 0 by rcases f2 with f2 | f2 <;> rw [f2] <;> decide), aAdd_none (fun z => f1 (okN_cong (fun k hk j hj => (eN k hk j hj).symm) z.2))]
          unfold fX6_runCommands_87 fX6_runCommands_88
          simp only [lits]
          exact CTn.bad p7 RF p2 p3 p4 sf
      · rw [if_neg hm10, Option.bind_some, if_pos (show nW 0 = nW 0 from rfl), aAdd_none (fun z => hm10 z.1)]
        unfold fX6_runCommands_87 fX6_runCommands_88
        simp only [lits]
        exact CTn.bad l1 hR1 h1.1 hF hr k1
    · -- origin
      have f7 : ∀ j, gF (wIJ G x1 (mJ G)) 12 1 j = some (x1 1 j) := fun j => gF_wij hR.2.1.1.1
      have so := setOrigin_ok (cx := nW cx) (ry := nW ry) h1.1 hm h1.2.2.2.1 k6
      obtain ⟨Gf, l', K', p1, p2, p3, p4, p5, p6, p7, p8⟩ := orgFollow_ok (cx := nW cx) (ry := nW ry) hA h1 hF hr k6
      obtain ⟨q1, q2, q3, q4⟩ := CGr.follow hR1 h1.1 hF p5 p2 p3 p4 p6 p7
      rw [k4, if_neg (show ¬ nW 1 = nW 0 by decide), Option.bind_some, f5, k4, Option.bind_some, if_pos (show nW 1 = nW 1 from rfl), hR1.r4, Option.bind_some, Option.bind_some, f7, k7, Option.bind_some, Option.bind_some, f7, k8, Option.bind_some, Option.bind_some, f7, k9, Option.bind_some, ck_ok h1.1.1.t, so, Option.bind_some]
      have r1 : gR (wIJ (wIJ G x1 (mJ G)) (u2 (u2 (mI (wIJ G x1 (mJ G))) (w + 11 + k) 1 (nW cx)) (w + 11 + k) 2 (nW ry)) (mJ (wIJ G x1 (mJ G)))) 16 0 4 = some w := hR.r4
      have r2 : gR (wIJ (wIJ G x1 (mJ G)) (u2 (u2 (mI (wIJ G x1 (mJ G))) (w + 11 + k) 1 (nW cx)) (w + 11 + k) 2 (nW ry)) (mJ (wIJ G x1 (mJ G)))) 16 0 0 = some 1 := hR.r0
      have r3 : gF (wIJ (wIJ G x1 (mJ G)) (u2 (u2 (mI (wIJ G x1 (mJ G))) (w + 11 + k) 1 (nW cx)) (w + 11 + k) 2 (nW ry)) (mJ (wIJ G x1 (mJ G)))) 12 1 7 = some (nW k) := by
        rw [gF_wij (show mt (wIJ G x1 (mJ G)) 1 = 12 from hR.2.1.1.1), u2_apart (by omega), u2_apart (by omega)]
        show some (x1 1 7) = _
        rw [k7]
      rw [r1, Option.bind_some, r2, Option.bind_some, r3, Option.bind_some, ck_wij, ck_ok h1.1.1.t, p1, Option.bind_some, k5]
      refine CTn.from q1 ?_
      have sf : CSt (mI Gf) T L s' := k1.eqs q2 q3 q4
      have nf : mI Gf 1 4 = nW n := by rw [q2]; exact hn1
      have RF := hR1.gro hF p5
      have ek : k + (m - k) = m := by omega
      have fo := folV_ok (N := orgN N k (nW cx) (nW ry)) (m - k) k (okN_cong orgN_low (hok.mono (show k ≤ m by omega)))
      rw [ek] at fo
      rcases fo with ⟨f1, f2⟩ | ⟨f1, f2⟩
      · have h00 : 0 < pcn c (c * r) (orgN N k (nW cx) (nW ry)) P0 m := pcn_pos f1
        have h41 : pcn c (c * r) (orgN N k (nW cx) (nW ry)) P0 m ≤ 40 := (lyN_run W f1).1.1
        rw [f2, if_neg (by rw [nW_le (by omega) (by decide)]; omega), aOrg_some f1]
        unfold fX6_runCommands_153
        exact CTn.good RF (hA.org f1) (p8 f1) p3 p4 sf nf
      · rw [if_pos (show folV c (c * r) (orgN N k (nW cx) (nW ry)) P0 (m - k) k ≤ nW 0 by rcases f2 with f2 | f2 <;> rw [f2] <;> decide), aOrg_none f1]
        unfold fX6_runCommands_153
        exact CTn.bad p7 RF p2 p3 p4 sf
    · -- drop
      have fm : gF (wIJ G x1 (mJ G)) 13 w 1 = some (nW m) := h1.cnt1
      rw [k4, if_neg (show ¬ nW 2 = nW 0 by decide), Option.bind_some, f5, k4, Option.bind_some, if_neg (show ¬ nW 2 = nW 1 by decide), hR1.r4, Option.bind_some, fm, Option.bind_some, k5]
      by_cases h0m : m = 0
      · rw [if_pos (by rw [h0m]; decide)]
        have : aDrop (c, r, N, P0, m) = none := if_pos h0m
        rw [this]
        exact CTn.bad l1 hR1 h1.1 hF hr k1
      · have pi1 : pI (wIJ G x1 (mJ G)) 13 w 1 (nW (m - 1)) = some (wIJ (wIJ G x1 (mJ G)) (u2 (mI (wIJ G x1 (mJ G))) w 1 (nW (m - 1))) (mJ (wIJ G x1 (mJ G)))) := pI_wij (x := x1) (y := mJ G) g1.1.t
        rw [if_neg (by rw [nW_le (by omega) (by decide)]; omega), Option.bind_some, fm, Option.bind_some, nW_sub (by omega), pi1, Option.bind_some]
        have this2 : aDrop (c, r, N, P0, m) = some (c, r, N, P0, m - 1) := if_neg h0m
        rw [this2]
        have hd := drop_ok hA h1 (show m - 1 ≤ m by omega)
        have cg : CGr w l K (wIJ G x1 (mJ G)) (wIJ (wIJ G x1 (mJ G)) (u2 (mI (wIJ G x1 (mJ G))) w 1 (nW (m - 1))) (mJ (wIJ G x1 (mJ G)))) l K := ⟨Gro.of_wij fun b _ hnb => ⟨u2_arow (fun q => hnb (Or.inr (Or.inr (Or.inr (Or.inl ⟨by omega, by omega⟩))))), rfl⟩, g1, hF, hr, Or.inl rfl, ⟨u2_apart (by omega), u2_apart (by omega)⟩, u2_apart (by omega), (u2_apart (by omega)).trans l1⟩
        refine CTn.from cg ?_
        refine CTn.good (show RSh _ w from hR) (hA.mono (Nat.sub_le m 1)) hd hF hr (k1.eqs (u2_arow (by omega)) (u2_arow (by omega)) (u2_arow (by omega))) ?_
        show u2 _ _ _ _ 1 4 = _
        rw [u2_apart (by omega)]; exact hn1
theorem crun_ok : ∀ (d fu : Nat) (G : Mem) (l K : Nat) (A : ASt) (s n : Nat), L < s + d → d ≤ fu → n ≤ s → RSh G w → AAOK A → ARep G w l K A.1 A.2.1 A.2.2.1 A.2.2.2.1 A.2.2.2.2 → Frsh G → Rm G K → CSt (mI G) T L s → mI G 1 4 = nW n →
    ∃ v G' l' K', loopM (fun (s : Int32) G => fX6_runCommands_2 0 s G) fu (nW n) G = some (v, G') ∧ CGr w l K G G' l' K' ∧ ((∃ e, pCmds T L d A s n = .inl e ∧ v = nW 0 ∧ CBd (mI G') e) ∨ (∃ A' n', pCmds T L d A s n = .inr (A', n') ∧ v = nW 1 ∧ AAOK A' ∧ ARep G' w l' K' A'.1 A'.2.1 A'.2.2.1 A'.2.2.2.1 A'.2.2.2.2 ∧ mI G' 1 1 = nW 0 ∧ mI G' 1 2 = -nW 1 ∧ mI G' 1 4 = nW n')) := by
  intro d
  induction d with
  | zero => intro fu G l K A s n hd _ _ _ _ _ _ _ hs _; have := hs.2.1.1; omega
  | succ d ih =>
    intro fu G l K A s n hd hfu hns hR hA h hF hr hs hn
    obtain ⟨fu, rfl⟩ : ∃ k, fu = k + 1 := ⟨fu - 1, by omega⟩
    have h4s := srt_le (T := T) (L := L) s
    have hL6 := hs.1.1
    by_cases e0 : srt T L s = 0
    · refine ⟨nW 1, G, l, K, loopM_lift ?_, ⟨Gro.rfl', h.1, hF, hr, Or.inl rfl, ⟨rfl, rfl⟩, rfl, (h.2.2.2.2.2.1.1 0 (Nat.zero_le _)).2⟩, Or.inr ⟨A, n, if_pos e0, rfl, hA, h, hs.2.2.1, hs.2.2.2, hn⟩⟩
      show fX6_runCommands_2 _ _ _ = _
      have end' : fX2_isAtEnd 1 G = some (nW 1, G) := by
        unfold fX2_isAtEnd fX2_isAtEnd_0 fX2_isAtEnd_15
        simp only [lits]
        have f1 : gF G 15 2 1 = some (nW (srt T L s)) := by
          have := gF_wij (x := mI G) (y := mJ G) hR.2.1.2.1.1 (k := 1)
          rw [wij_self, hs.2.1.2.1] at this; exact this
        rw [hR.2.1.g0, Option.bind_some, f1, Option.bind_some, if_pos (by rw [e0]), rz1]
      unfold fX6_runCommands_2 fX6_runCommands_204
      simp only [lits]
      by_cases q : nW 600 ≤ nW n
      · rw [if_pos q]
      · rw [if_neg q, hR.r0, Option.bind_some, ck_ok hR.2.1.1.1, end', Option.bind_some, if_neg (show ¬ nW 1 = nW 0 by decide)]
    · have hsL : s < L := by
        by_cases q : L ≤ s
        · exact absurd (srt0.mpr q) e0
        · omega
      obtain ⟨G1, l1, K1, c1, c2⟩ := crun_turn (c := A.1) (r := A.2.1) (N := A.2.2.1) (P0 := A.2.2.2.1) (m := A.2.2.2.2) hR hA h hF hr hs hn e0 (by omega)
      have eP : pCmds T L (d + 1) A s n = zB (pCmd T L A s) fun q => pCmds T L d q.1 q.2 (n + 1) := if_neg e0
      rw [eP]
      rcases c2 with ⟨e, e1, e2, e3⟩ | ⟨A1, s1, e1, e2, e3, e4, e5, e6⟩
      · exact ⟨nW 0, G1, l1, K1, loopM_lift (f := fun (s : Int32) G => fX6_runCommands_2 0 s G) e2, c1, Or.inl ⟨e, zB_l e1 _, rfl, e3⟩⟩
      · have hgt := pCmd_gt e1
        obtain ⟨v, G', l', K', f1, f2, f3⟩ := ih fu G1 l1 K1 A1 s1 (n + 1) (by omega) (by omega) (by omega) (hR.gro hF c1.1) e3 e4 c1.2.2.1 c1.2.2.2.1 e5 e6
        refine ⟨v, G', l', K', (loopM_next (f := fun (s : Int32) G => fX6_runCommands_2 0 s G) e2).trans f1, c1.trans f2, ?_⟩
        rw [zB_r e1]
        exact f3
end CRUN2
