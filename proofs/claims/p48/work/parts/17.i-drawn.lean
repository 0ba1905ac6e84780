/-! ===== the law behind the new object: the first board, or a drawn one ===== -/
theorem Frm.of_le {a k s : Nat} {G G' : Mem} (h : Frm a k s G G') : mz G ≤ mz G' ∧ mz G' ≤ mz G + k ∧ ml G' ≤ ml G + s ∧ cC G' = cC G ∧ cS G' = cS G := h.1
theorem Eq1.frm {G G' : Mem} {k s : Nat} (h : Eq1 G) (hf : Frm 266 k s G G') : Eq1 G' := fun b hb => by
  obtain ⟨x1, x2, x3, x4, x5⟩ := hf.2 b (by omega)
  obtain ⟨y1, y2, y3, y4, y5⟩ := h b hb
  exact ⟨x1.trans y1, x2.trans y2, x3.trans y3, x4.trans y4, x5.trans y5⟩
theorem lw_178 {G : Mem} {l1 : Int32} {o v cap : Nat} {B : List Nat} (h : SBs G o v cap B) (hcap : cap = 56 ∨ cap = 114) (hB : bdok B = true) (hE : Eq1 G) (hz : 265 ≤ mz G ∧ mz G ≤ 380 ∧ ml G ≤ 190000 ∧ cC G = 600073 ∧ cS G = 7301549) {K : Unit → Mem → Prop} (hK : ∀ G', K () G') : wS_law_178 l1 0 o G 600073 7301549 K := by
  obtain ⟨⟨b1, b2⟩, -⟩ := bd_load hB (A := A00) (hs := []) (sl := fun _ => none) (er := (0, -1)) (ou := ((fun _ => 0), 0))
  obtain ⟨z1, z2, z3, z4, z5⟩ := hz
  have hl := h.2.2.1.1
  obtain ⟨s, w, G1, e1, S1, F1, f1⟩ := h.tostr (by omega) ⟨by omega, by omega⟩
  obtain ⟨r1, r2, r3, r4, r5⟩ := f1.1
  have C1 : CI G1 100 W00 := any_ci (hE.frm f1) F1 ⟨by omega, by omega, by omega, by omega, by omega⟩
  unfold wS_law_178
  refine ⟨h.t, _, e1, ?_⟩
  refine write_ok (d := 99) C1 S1 (by omega) (fun G2 C2 => ?_)
  rw [if_neg (by decide)]
  obtain ⟨-, W', e2⟩ := bd_load hB (A := A00) (hs := []) (sl := fun _ => none) (er := (0, -1)) (ou := ((fun _ => 0), 0))
  have cl := cload_ok C2
  rw [e2] at cl
  refine ex_of cl C2.ct (fun G3 C3 => ?_)
  dsimp only
  rw [if_pos (show nW 5 = (5 : Int32) from rfl)]
  exact lw_200 C3 hK
/-- the pieces so far -/
def PB : Nat → List Nat → Prop
  | 0, B => B = sB 34
  | i + 1, B => ∃ B' c k, PB i B' ∧ (c = 35 ∨ c = 36) ∧ k < 4 ∧ B = ad B' c (4 + k) (xi i) (yi i)
theorem PB.len : ∀ {i : Nat} {B : List Nat}, PB i B → B.length ≤ 40 + 17 * i := by
  intro i
  induction i with
  | zero => intro B h; have h : B = sB 34 := h; rw [h]; decide +kernel
  | succ i ih =>
    intro B h
    obtain ⟨B', c, k, h1, h2, h3, rfl⟩ := h
    have a := ih h1
    have b := sB_le (a := c) (Or.inr h2)
    have d := sB_le (a := 4 + k) (Or.inl (by omega))
    rw [ad_len]; omega
theorem PB.ok {B : List Nat} (h : PB 3 B) : bdok B = true := by
  obtain ⟨B2, c2, k2, ⟨B1, c1, k1, ⟨B0, c0, k0, h0, q0, p0, rfl⟩, q1, p1, rfl⟩, q2, p2, rfl⟩ := h
  have h0 : B0 = sB 34 := h0
  subst h0
  exact bd_at q0 q1 q2 p0 p1 p2
theorem bml {a b i : Nat} (h : a ≤ b + 798) (h2 : b ≤ 101000 + 800 * i) : a ≤ 101000 + 800 * (i + 1) := by
  rw [Nat.mul_succ, ← Nat.add_assoc]
  exact Nat.le_trans h (Nat.add_le_add h2 (by decide))
theorem lw_31 {G : Mem} {l1 : Int32} (hE : Eq1 G) (hF : Frsh G) (hz : mz G = 265 ∧ ml G ≤ 100000 ∧ cC G = 600073 ∧ cS G = 7301549) {K : Unit → Mem → Prop} (hK : ∀ G', K () G') : wS_law_31 l1 0 G 600073 7301549 K := by
  obtain ⟨z1, z2, z3, z4⟩ := hz
  unfold wS_law_31
  refine ⟨by decide, fun v _ => ?_⟩
  by_cases e : v = 0
  · rw [if_pos e]
    have na : nA G 8 (5 : Int32) = some (265, mk G 8 5 5) := by rw [← z1]; exact nA_ok (n := 5) (by decide) ⟨by omega, by omega⟩
    have t0 : mt (mk G 8 5 5) 265 = 8 := by rw [← z1]; exact if_pos rfl
    have n0 : mn (mk G 8 5 5) 265 = 5 := by rw [← z1]; exact if_pos rfl
    have st : ∀ (P : Nat → Nat → Option Nat) (i v : Nat), i < 5 → v < 37 → pQS (wP (mk G 8 5 5) P) 265 (nW i) v = some (wP (mk G 8 5 5) (u2 P 265 i (some v))) := fun P i v hi hv => by
      unfold pQS inb
      rw [nW_int (by omega), nW_clamp (by omega), if_pos ⟨t0, hv, by omega, by show _ < ((mn (mk G 8 5 5) 265 : Nat) : Int); rw [n0]; omega⟩]
      rfl
    refine ⟨_, na, _, st (mP (mk G 8 5 5)) 0 3 (by decide) (by decide), _, st _ 1 4 (by decide) (by decide), _, st _ 2 5 (by decide) (by decide), _, st _ 3 6 (by decide) (by decide), _, st _ 4 7 (by decide) (by decide), ?_⟩
    generalize hP : u2 (u2 (u2 (u2 (u2 (mP (mk G 8 5 5)) 265 0 (some 3)) 265 1 (some 4)) 265 2 (some 5)) 265 3 (some 6)) 265 4 (some 7) = P
    have kn : KND (wP (mk G 8 5 5) P) := by
      refine ⟨t0, n0, fun i hi => ?_⟩
      show P 265 i = _
      rw [← hP]
      rcases (show i = 0 ∨ i = 1 ∨ i = 2 ∨ i = 3 ∨ i = 4 by omega) with rfl | rfl | rfl | rfl | rfl <;> rfl
    have F0 : Frsh (wP (mk G 8 5 5) P) := mk_frsh (t := 8) (n := 5) (w := 5) hF
    have f0 : Frm 265 1 5 G (wP (mk G 8 5 5) P) := by
      have a := mk_frm (G := G) (t := 8) (n := 5) (w := 5) (a := 265) (by omega)
      refine ⟨a.1, fun b hb => ?_⟩
      obtain ⟨x1, x2, x3, x4, x5⟩ := a.2 b hb
      refine ⟨x1, x2, x3, x4, ?_⟩
      show P b = _
      rw [← hP, u2_arow (by omega), u2_arow (by omega), u2_arow (by omega), u2_arow (by omega), u2_arow (by omega)]
      exact x5
    have E0 : Eq1 (wP (mk G 8 5 5) P) := fun b hb => by
      obtain ⟨x1, x2, x3, x4, x5⟩ := f0.2 b hb
      obtain ⟨y1, y2, y3, y4, y5⟩ := hE b hb
      exact ⟨x1.trans y1, x2.trans y2, x3.trans y3, x4.trans y4, x5.trans y5⟩
    have zz : mz (wP (mk G 8 5 5) P) = 266 := by show mz G + 1 = 266; omega
    have lz : ml (wP (mk G 8 5 5) P) = ml G + 5 := rfl
    have cz : cC (wP (mk G 8 5 5) P) = 600073 ∧ cS (wP (mk G 8 5 5) P) = 7301549 := ⟨z3, z4⟩
    generalize wP (mk G 8 5 5) P = G0 at kn F0 E0 zz lz cz ⊢
    obtain ⟨Gn, en, G1, v1, cap1, e1, s1, k1, f1⟩ := SBs.new F0 (by omega) ⟨by omega, by omega⟩
    rw [zz] at en e1 s1
    refine ⟨_, en, _, e1, ?_⟩
    dsimp only
    obtain ⟨r1, r2, r3, r4, r5⟩ := f1.1
    refine loopW_by (fun k z G' => ∃ i v' cap' B, i ≤ 3 ∧ k = 3 - i ∧ z = nW i ∧ PB i B ∧ SBs G' 266 v' cap' B ∧ (cap' = 56 ∨ cap' = 114) ∧ KND G' ∧ Eq1 G' ∧ (266 ≤ mz G' ∧ mz G' ≤ 269 + 7 * i ∧ ml G' ≤ 101000 + 800 * i ∧ cC G' = 600073 ∧ cS G' = 7301549)) K (fun k z G' hv Q h1 h2 => ?_) FU 3 _ G1 (by decide) ⟨0, v1, cap1, sB 34, Nat.zero_le _, rfl, rfl, rfl, s1, k1, kn.frm f1, E0.frm f1, by omega, by omega, by omega, by omega, by omega⟩
    obtain ⟨i, v', cap', B, hi, rfl, rfl, hB, S, hc, hk, E, q1, q2, q3, q4, q5⟩ := hv
    by_cases e3 : i < 3
    · have hl := hB.len
      refine piece_ok S hc (by omega) hk ⟨by omega, by omega⟩ e3 (fun G2 v2 cap2 c k hc2 hk4 S2 k2 f2 => ?_)
      obtain ⟨w1, w2, w3, w4, w5⟩ := f2.1
      have y1 : 266 ≤ mz G2 := by omega
      have y2 : mz G2 ≤ 269 + 7 * (i + 1) := by omega
      have y3 : ml G2 ≤ 101000 + 800 * (i + 1) := bml w3 q3
      have y4 : cC G2 = 600073 := w4.trans q4
      have y5 : cS G2 = 7301549 := w5.trans q5
      have y6 : 3 - (i + 1) < 3 - i := by omega
      have y7 : PB (i + 1) (ad B c (4 + k) (xi i) (yi i)) := ⟨B, c, k, hB, hc2, hk4, rfl⟩
      exact h1 (3 - (i + 1)) _ _ y6 ⟨i + 1, v2, cap2, _, e3, rfl, rfl, y7, S2, k2, hk.frm f2, E.frm f2, y1, y2, y3, y4, y5⟩
    · have e3 : i = 3 := by omega
      subst e3
      unfold wS_law_84
      rw [if_pos (by decide)]
      exact lw_178 S hc hB.ok E ⟨by omega, by omega, by omega, by omega, by omega⟩ (fun G2 => h2 _ _ (hK G2))
  · rw [if_neg e]
    exact lw_200 (any_ci hE hF ⟨by omega, by omega, by omega, by omega, by omega⟩) hK
