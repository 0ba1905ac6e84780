/-! ===== the reference's public methods: output, consistency, games if noted ===== -/
theorem mltr_all : ∀ m, m < 11 → ∀ G : Mem, fX7_letter (nW m) G = some (nW (ltr m), G) := by
  intro m hm G
  have : m = 0 ∨ m = 1 ∨ m = 2 ∨ m = 3 ∨ m = 4 ∨ m = 5 ∨ m = 6 ∨ m = 7 ∨ m = 8 ∨ m = 9 ∨ m = 10 := by omega
  rcases this with rfl | rfl | rfl | rfl | rfl | rfl | rfl | rfl | rfl | rfl | rfl <;> rfl
section MOUT2
variable {G : Mem} {W : WSt} {x x' : Nat → Nat → Int32} {y y' : Nat → Nat → Int64} {hs : Nat → Int32}
theorem mout_ok (h : MSh G 265) {n v : Nat} (hn : n < 41) (h0 : x 265 10 = nW n) : fX7_out 265 (nW v) (wIJ G x y) = some ((), wIJ G (u2 (u2 x (265 + 7) n (nW v)) 265 10 (nW (n + 1))) y) := by
  unfold fX7_out fX7_out_0
  simp only [lits]
  rw [gR_wij, h.g8, Option.bind_some, gF_wij h.t, h0, Option.bind_some, h.r7.wr (by omega) (by decide), Option.bind_some, gF_wij h.t, u2_apart (by decide), h0, Option.bind_some, nW_add, pI_wij h.t, Option.bind_some]
theorem mwrite_ok (h : MSh G 265) (hA : AAOK W.1) (hR : RQ x y W) {p : Int32} (h2 : hs 2 = nW 1) : MOut G x y (fX7_writePosition 265 p (wIJ G x y)) (oWrite W p) hs := by
  obtain ⟨z1, z2, z3, z4⟩ := hA.1
  have hn := szs36 hA.1
  have hrun := (lyN_run hA.2.1 hA.2.2.2.1).1
  have h40 : pcA W.1 ≤ 40 := hrun.1
  unfold fX7_writePosition fX7_writePosition_0 oWrite
  simp only [lits]
  rw [ck_wij, ck_ok h.t, noPosition_ok h hA hR, Option.bind_some, ck_wij, ck_ok h.t, fails1_ok h, Option.bind_some]
  rcases ixZ_spec (z := p) (show pcA W.1 < 2147483648 by omega) with ⟨i, e1, e2, rfl, -, -⟩ | ⟨e1, -, -⟩
  · have hR' := hR.six (v := nW 0)
    have w11 := (hrun.2 i e2).1
    generalize hP : lyp (lyA W.1) i = P at *
    generalize hx0 : u2 x 265 6 (nW 0) = x0 at *
    let X : Nat → Nat → Nat → Int32 := fun k b j => if b = 265 ∧ j = 10 then nW k else if b = 272 ∧ j < k then nW (picB W.1.1 W.1.2.1 P j) else x0 b j
    have X11 : ∀ k, X k 265 10 = nW k := fun k => if_pos ⟨rfl, rfl⟩
    have Xo : ∀ k b j, ¬ (b = 265 ∧ j = 10) → b ≠ 272 → X k b j = x0 b j := fun k b j q1 q2 => by
      show (if _ then _ else if _ then _ else _) = _
      rw [if_neg q1, if_neg (fun z => q2 z.1)]
    have Xr : ∀ k b, b ≠ 265 → b ≠ 272 → X k b = x0 b := fun k b q1 q2 => funext fun j => Xo k b j (fun z => q1 z.1) q2
    have Xs : ∀ k, u2 (u2 (X k) (265 + 7) k (nW (picB W.1.1 W.1.2.1 P k))) 265 10 (nW (k + 1)) = X (k + 1) := fun k => by
      funext b j
      show _ = if b = 265 ∧ j = 10 then nW (k + 1) else if b = 272 ∧ j < k + 1 then _ else _
      by_cases q : b = 265 ∧ j = 10
      · rw [if_pos q, q.1, q.2, u2_same]
      · rw [if_neg q, u2_other q]
        by_cases q2 : b = 272 ∧ j = k
        · rw [if_pos ⟨q2.1, by omega⟩, q2.1, q2.2, u2_same]
        · rw [u2_other q2]
          show (if _ then _ else if _ then _ else _) = _
          rw [if_neg q]
          by_cases q3 : b = 272 ∧ j < k
          · rw [if_pos q3, if_pos ⟨q3.1, by omega⟩]
          · rw [if_neg q3, if_neg (by omega)]
    have wb : ∀ k, k < 41 → fX7_out 265 (nW (picB W.1.1 W.1.2.1 P k)) (wIJ G (X k) y) = some ((), wIJ G (X (k + 1)) y) := fun k hk => by
      rw [mout_ok h hk (X11 k), Xs]
    have rp : ∀ k, MRa (X k) y 265 W.1 := fun k => ⟨hR'.1.1.frame (Xr k _ (by decide) (by decide)), hR'.1.2.1.same (Xr k _ (by decide) (by decide)) (Xr k _ (by decide) (by decide)) (Xr k _ (by decide) (by decide)) (Xr k _ (by decide) (by decide)) rfl, hR'.1.2.2⟩
    have rc : ∀ k, gA (wIJ G (X k) y) 1 (265 + 1) (nW 0) = some (nW W.1.1) := fun k => by rw [h.s0 (by decide)]; exact congrArg some (rp k).1.1.1
    have hc41 : (W.1.1 + 1) * W.1.2.1 ≤ 42 := by
      have : (W.1.1 + 1) * W.1.2.1 = W.1.1 * W.1.2.1 + W.1.2.1 := by rw [Nat.add_mul, Nat.one_mul]
      omega
    have col : ∀ u, u < W.1.2.1 → ∀ a, a < W.1.1 → fX7_writePosition_36 265 (nW i) (nW (W.1.2.1 - 1 - u)) (nW a) (wIJ G (X (u * (W.1.1 + 1) + a)) y) = some (.inl (nW (a + 1)), wIJ G (X (u * (W.1.1 + 1) + (a + 1))) y) := fun u hu a ha => by
      have ux : u * (W.1.1 + 1) + a + 1 < (W.1.1 + 1) * W.1.2.1 := by
        have : (u + 1) * (W.1.1 + 1) ≤ W.1.2.1 * (W.1.1 + 1) := Nat.mul_le_mul_right _ hu
        rw [Nat.add_mul, Nat.one_mul, Nat.mul_comm W.1.2.1] at this
        omega
      have ht := grid_lt (show W.1.2.1 - 1 - u < W.1.2.1 by omega) ha
      have sqo : fX7_square 265 (nW a) (nW (W.1.2.1 - 1 - u)) (wIJ G (X (u * (W.1.1 + 1) + a)) y) = some (nW ((W.1.2.1 - 1 - u) * W.1.1 + a), wIJ G (X (u * (W.1.1 + 1) + a)) y) := by
        unfold fX7_square fX7_square_0
        simp only [lits]
        rw [gR_wij, h.g0, Option.bind_some, rc, Option.bind_some, nW_mul, nW_add]
      have pe : picB W.1.1 W.1.2.1 P (u * (W.1.1 + 1) + a) = ltr (P ((W.1.2.1 - 1 - u) * W.1.1 + a)) := by
        unfold picB
        have m1 : (u * (W.1.1 + 1) + a) % (W.1.1 + 1) = a := by rw [Nat.mul_comm, Nat.mul_add_mod, Nat.mod_eq_of_lt (by omega)]
        have m2 : (u * (W.1.1 + 1) + a) / (W.1.1 + 1) = u := by rw [Nat.mul_comm, Nat.mul_add_div (by omega), Nat.div_eq_of_lt (by omega), Nat.add_zero]
        rw [m1, m2, if_neg (by omega)]
      have ca := last_ok h hA (rp (u * (W.1.1 + 1) + a)) e2 (show (W.1.2.1 - 1 - u) * W.1.1 + a < 36 by omega)
      rw [show lyp (lyN W.1.1 (W.1.1 * W.1.2.1) W.1.2.2.1 W.1.2.2.2.1 W.1.2.2.2.2).1 i = P from hP] at ca
      have wbx := wb (u * (W.1.1 + 1) + a) (by omega)
      rw [pe] at wbx
      unfold fX7_writePosition_36
      simp only [lits]
      rw [gR_wij, h.g0, Option.bind_some, rc, Option.bind_some, if_neg (by rw [nW_le (by omega) (by omega)]; omega), ck_wij, ck_ok h.t, sqo, Option.bind_some, ck_wij, ck_ok h.t, ca, Option.bind_some, mltr_all _ (w11 _), Option.bind_some, ck_wij, ck_ok h.t, wbx, Option.bind_some, nW_add]
      rfl
    have inner : ∀ u, u < W.1.2.1 → ∀ e a fu, a + e = W.1.1 → e < fu → loopM (fun (s : Int32) G => fX7_writePosition_36 265 (nW i) (nW (W.1.2.1 - 1 - u)) s G) fu (nW a) (wIJ G (X (u * (W.1.1 + 1) + a)) y) = fX7_writePosition_70 265 (nW i) (nW (W.1.2.1 - 1 - u)) (wIJ G (X (u * (W.1.1 + 1) + W.1.1)) y) := fun u hu e => by
      induction e with
      | zero =>
        intro a fu hx hfu
        obtain ⟨fu, rfl⟩ : ∃ k, fu = k + 1 := ⟨fu - 1, by omega⟩
        have : a = W.1.1 := by omega
        subst this
        refine loopM_lift (f := fun (s : Int32) G => fX7_writePosition_36 265 (nW i) (nW (W.1.2.1 - 1 - u)) s G) ?_
        show fX7_writePosition_36 _ _ _ _ _ = _
        unfold fX7_writePosition_36
        simp only [lits]
        rw [gR_wij, h.g0, Option.bind_some, rc, Option.bind_some, if_pos ((nW_le (by omega) (by omega)).mpr (Nat.le_refl _))]
      | succ e ih =>
        intro a fu hx hfu
        obtain ⟨fu, rfl⟩ : ∃ k, fu = k + 1 := ⟨fu - 1, by omega⟩
        rw [loopM_next (f := fun (s : Int32) G => fX7_writePosition_36 265 (nW i) (nW (W.1.2.1 - 1 - u)) s G) (col u hu a (by omega))]
        exact ih (a + 1) fu (by omega) (by omega)
    have m1 : ∀ a, 1 ≤ a → nW a + -nW 1 = nW (a - 1) := fun a ha => by rw [← Int32.sub_eq_add_neg, nW_sub ha]
    have oL : (W.1.1 + 1) * W.1.2.1 - 1 = (W.1.2.1 - 1) * (W.1.1 + 1) + W.1.1 := by
      have : W.1.2.1 = (W.1.2.1 - 1) + 1 := by omega
      conv => lhs; rw [this, Nat.mul_add, Nat.mul_one, Nat.mul_comm]
      omega
    let S : Nat → Int32 := fun u => if u < W.1.2.1 then nW (W.1.2.1 - 1 - u) else -nW 1
    let M : Nat → Mem := fun u => wIJ G (X (if u < W.1.2.1 then u * (W.1.1 + 1) else (W.1.1 + 1) * W.1.2.1 - 1)) y
    have outer := loop_to (f := fun (s : Int32) G => fX7_writePosition_30 265 (nW i) s G) S M W.1.2.1 (nW ((W.1.1 + 1) * W.1.2.1 - 1)) (wIJ G (X ((W.1.1 + 1) * W.1.2.1 - 1)) y) (fun u hu => by
      show fX7_writePosition_30 _ _ (if u < W.1.2.1 then _ else _) (wIJ G (X (if u < W.1.2.1 then _ else _)) y) = some (.inl (if u + 1 < W.1.2.1 then _ else _), wIJ G (X (if u + 1 < W.1.2.1 then _ else _)) y)
      rw [if_pos hu, if_pos hu]
      have inn : loopM (fun (s : Int32) G => fX7_writePosition_36 265 (nW i) (nW (W.1.2.1 - 1 - u)) s G) FU (nW 0) (wIJ G (X (u * (W.1.1 + 1))) y) = fX7_writePosition_70 265 (nW i) (nW (W.1.2.1 - 1 - u)) (wIJ G (X (u * (W.1.1 + 1) + W.1.1)) y) := inner u hu W.1.1 0 FU (by omega) (by show W.1.1 < 100000; omega)
      unfold fX7_writePosition_30
      simp only [lits]
      rw [if_neg (nW_neg_lt (by omega)), inn]
      unfold fX7_writePosition_70 fX7_writePosition_80
      simp only [lits]
      by_cases q : u + 1 < W.1.2.1
      · have pe : picB W.1.1 W.1.2.1 P (u * (W.1.1 + 1) + W.1.1) = 10 := by
          unfold picB
          have m1 : (u * (W.1.1 + 1) + W.1.1) % (W.1.1 + 1) = W.1.1 := by rw [Nat.mul_comm, Nat.mul_add_mod, Nat.mod_eq_of_lt (by omega)]
          rw [m1, if_pos rfl]
        have ux : u * (W.1.1 + 1) + W.1.1 < 41 := by
          have : (u + 2) * (W.1.1 + 1) ≤ W.1.2.1 * (W.1.1 + 1) := Nat.mul_le_mul_right _ q
          rw [Nat.add_mul, Nat.mul_comm W.1.2.1] at this
          omega
        have wbx := wb (u * (W.1.1 + 1) + W.1.1) ux
        rw [pe] at wbx
        rw [if_neg (by rw [nW_le (by omega) (by decide)]; omega), ck_wij, ck_ok h.t, wbx, Option.bind_some, m1 _ (by omega), if_pos q, if_pos q, show W.1.2.1 - 1 - u - 1 = W.1.2.1 - 1 - (u + 1) by omega, show u * (W.1.1 + 1) + W.1.1 + 1 = (u + 1) * (W.1.1 + 1) by rw [Nat.add_mul, Nat.one_mul]; omega]
      · have eu : u = W.1.2.1 - 1 := by omega
        rw [if_pos (by rw [nW_le (by omega) (by decide)]; omega), if_neg q, if_neg q, oL, ← eu, Nat.sub_self]
        rfl) (by
      show fX7_writePosition_30 _ _ (if W.1.2.1 < W.1.2.1 then _ else _) (wIJ G (X (if W.1.2.1 < W.1.2.1 then _ else _)) y) = _
      rw [if_neg (Nat.lt_irrefl _), if_neg (Nat.lt_irrefl _)]
      unfold fX7_writePosition_30 fX7_writePosition_86
      simp only [lits]
      rw [if_pos m1_lt0, gF_wij h.t, X11]
      rfl) W.1.2.1 0 FU (by omega) (by show W.1.2.1 < 100000; omega)
    have S0 : S 0 = nW (W.1.2.1 - 1) := if_pos (by omega)
    have M0 : M 0 = wIJ G (X 0) y := by
      show wIJ G (X (if 0 < W.1.2.1 then _ else _)) _ = _
      rw [if_pos (by omega), Nat.zero_mul]
    rw [S0, M0] at outer
    have X0 : u2 x0 265 10 (nW 0) = X 0 := by
      funext b j
      show _ = if b = 265 ∧ j = 10 then nW 0 else if b = 272 ∧ j < 0 then _ else x0 b j
      by_cases q : b = 265 ∧ j = 10
      · rw [if_pos q, q.1, q.2, u2_same]
      · rw [if_neg q, u2_other q, if_neg (by omega)]
    have r1 : gA (wIJ G (X 0) y) 1 (265 + 1) (nW 1) = some (nW W.1.2.1) := by rw [h.s0 (by decide)]; exact congrArg some (rp 0).1.1.2
    rw [e1, show fcd (some i).isNone false false = nW 0 from rfl, hx0, if_pos (show bI (some i).isNone = nW 0 from rfl), pI_wij h.t, X0, Option.bind_some, gR_wij, h.g0, Option.bind_some, r1, Option.bind_some, nW_sub (by omega), outer]
    obtain ⟨-, k1, s1, t1, er, o1⟩ := hR'
    refine MOut.mk' (fun b hb => ⟨by rw [Xr _ b (by omega) (by omega), ← hx0, u2_arow (by omega)], rfl⟩) ⟨rp _, k1.same (Xo _ 265 5 (by decide) (by decide)) (Xr _ 267 (by decide) (by decide)), fun j hj => ⟨by rw [Xr _ 270 (by decide) (by decide)]; exact (s1 j hj).1, fun A hA => ⟨((s1 j hj).2 A hA).1.same (Xr _ 268 (by decide) (by decide)), ((s1 j hj).2 A hA).2⟩⟩, t1.frame (Xo _ 265 9 (by decide) (by decide)) (Xr _ 271 (by decide) (by decide)), ⟨(Xo _ 265 11 (by decide) (by decide)).trans er.1, (Xo _ 265 12 (by decide) (by decide)).trans er.2⟩, X11 _, fun k hk => ?_⟩ ((Xo _ 265 6 (by decide) (by decide)).trans (by rw [← hx0, u2_same]))
    show (if 272 = 265 ∧ k = 10 then _ else if 272 = 272 ∧ k < (W.1.1 + 1) * W.1.2.1 - 1 then nW (picB W.1.1 W.1.2.1 P k) else _) = nW (picB W.1.1 W.1.2.1 (lyp (lyA W.1) i) k)
    rw [if_neg (by omega), if_pos ⟨rfl, hk⟩, hP]
  · rw [e1, if_neg (show ¬ bI (none : Option Nat).isNone = nW 0 from bIt)]
    exact MOut.bad hR h2
theorem mcons_ok (h : MSh G 265) (hA : AAOK W.1) (hR : RQ x y W) : MOu G x y (fX7_inconsistencies 265 (wIJ G x y)) (nW 0, W) := by
  obtain ⟨hs, W0, hm, hok, hwn⟩ := id hA
  have hn := szs36 hs
  have h40 : pcA W.1 ≤ 40 := (lyN_run W0 hok).1.1
  have hR' := hR.six (v := nW 0)
  generalize hx0 : u2 x 265 6 (nW 0) = x0 at *
  have many : gA (wIJ G x0 y) 1 (265 + 9) (nW W.1.2.2.2.2) = some (nW (pcA W.1)) := hR'.1.many h hm (Nat.le_refl _)
  have second : loopM (fun (s : Int32 × Int32) G => fX7_inconsistencies_94 265 s.1 s.2 G) FU (nW 0, nW 0) (wIJ G x0 y) = some (nW 0, wIJ G x0 y) := loop_to (f := fun (s : Int32 × Int32) G => fX7_inconsistencies_94 265 s.1 s.2 G) (fun p => (nW 0, nW p)) (fun _ => wIJ G x0 y) (pcA W.1) (nW 0) (wIJ G x0 y) (fun p hp => by
    show fX7_inconsistencies_94 _ _ _ _ = _
    unfold fX7_inconsistencies_94 fX7_inconsistencies_122
    simp only [lits]
    rw [gR_wij, h.g14, Option.bind_some, gR_wij, h.g0, Option.bind_some, hR'.m2 h, Option.bind_some, many, Option.bind_some, if_neg (by rw [nW_le (by omega) (by omega)]; omega), ck_wij, ck_ok h.t, isOdd_ok h hA hR'.1 hp, Option.bind_some, if_pos (show nW 0 = nW 0 from rfl), nW_add]) (by
    show fX7_inconsistencies_94 _ _ _ _ = _
    unfold fX7_inconsistencies_94 fX7_inconsistencies_128
    simp only [lits]
    rw [gR_wij, h.g14, Option.bind_some, gR_wij, h.g0, Option.bind_some, hR'.m2 h, Option.bind_some, many, Option.bind_some, if_pos ((nW_le (by omega) (by omega)).mpr (Nat.le_refl _))]
    rfl) (pcA W.1) 0 FU (by omega) (by show _ < 100000; omega)
  unfold fX7_inconsistencies fX7_inconsistencies_0
  simp only [lits]
  rw [pI_wij h.t, hx0, Option.bind_some, ck_wij, ck_ok h.t, games_ok h hA hR'.1, Option.bind_some]
  have lp := loop_to (f := fun (s : Int32 × Int32) G => fX7_inconsistencies_15 265 (Int64.ofNat (gmA W.1)) s.1 s.2 G) (fun i => (nW 0, nW i)) (fun _ => wIJ G x0 y) W.1.2.2.2.2 (nW 0) (wIJ G x0 y) (fun i hi => by
    show fX7_inconsistencies_15 _ _ _ _ _ = _
    obtain ⟨d1, d2, d3⟩ := hR'.1.edge hA hi
    have g16 : gA (wIJ G x0 y) 1 (265 + 11) (nW i) = some (nW (em W.1.1 (W.1.1 * W.1.2.1) W.1.2.2.1 W.1.2.2.2.1 i)) := by rw [h.r16.rd (by omega) (by decide), d1]
    have tot : sumN (em W.1.1 (W.1.1 * W.1.2.1) W.1.2.2.1 W.1.2.2.2.1 i) (ovr W.1.1 (W.1.1 * W.1.2.1) W.1.2.2.1 W.1.2.2.2.1 W.1.2.2.2.2 i) = gmA W.1 := by
      rw [← Tot_l W0 hn hok hi, Tot_all W0 hn hok (Nat.le_of_lt hi)]
    unfold fX7_inconsistencies_15
    simp only [lits]
    rw [gR_wij, h.g0, Option.bind_some, hR'.m2 h, Option.bind_some, if_neg (by rw [nW_le (by omega) (by omega)]; omega)]
    exact loop_to (f := fun (s : Int64 × Int32) G => fX7_inconsistencies_32 265 (Int64.ofNat (gmA W.1)) (nW 0) (nW i) s.1 s.2 G) (fun e => (Int64.ofNat (sumN e (ovr W.1.1 (W.1.1 * W.1.2.1) W.1.2.2.1 W.1.2.2.2.1 W.1.2.2.2.2 i)), nW e)) (fun _ => wIJ G x0 y) (em W.1.1 (W.1.1 * W.1.2.1) W.1.2.2.1 W.1.2.2.2.1 i) _ _ (fun e he => by
      show fX7_inconsistencies_32 _ _ _ _ _ _ _ = _
      obtain ⟨u1, -⟩ := d3 e he
      have g15 : gA (wIJ G x0 y) 1 (265 + 10) (nW (i * 1600 + e)) = some (nW (mlk (eg W.1.1 (W.1.1 * W.1.2.1) W.1.2.2.1 W.1.2.2.2.1 i e))) := by rw [h.r15.rd (by omega) (by decide), u1]
      unfold fX7_inconsistencies_32
      simp only [lits]
      rw [gR_wij, h.g16, Option.bind_some, g16, Option.bind_some, if_neg (by rw [nW_le (by omega) (by omega)]; omega), gR_wij, h.g15, Option.bind_some, nW_mul, nW_add, g15, Option.bind_some, ck_wij, ck_ok h.t, over_ok h hA hR'.1 hi he, Option.bind_some, ← Int64.ofNat_add, nW_add]
      rfl) (by
      show fX7_inconsistencies_32 _ _ _ _ _ _ _ = _
      unfold fX7_inconsistencies_32 fX7_inconsistencies_75 fX7_inconsistencies_85
      simp only [lits]
      rw [gR_wij, h.g16, Option.bind_some, g16, Option.bind_some, if_pos ((nW_le (by omega) (by omega)).mpr (Nat.le_refl _)), tot, if_pos ((lgc_0 _ _).mpr rfl), nW_add]
      rfl) (em W.1.1 (W.1.1 * W.1.2.1) W.1.2.2.1 W.1.2.2.2.1 i) 0 FU (by omega) (by show _ < 100000; omega)) (by
    show fX7_inconsistencies_15 _ _ _ _ _ = _
    unfold fX7_inconsistencies_15 fX7_inconsistencies_91
    simp only [lits]
    rw [gR_wij, h.g0, Option.bind_some, hR'.m2 h, Option.bind_some, if_pos ((nW_le (by omega) (by omega)).mpr (Nat.le_refl _)), second]
    rfl) W.1.2.2.2.2 0 FU (by omega) (by show _ < 100000; omega)
  rw [show loopM (fun (s : Int32 × Int32) G => fX7_inconsistencies_15 265 (Int64.ofNat (gmA W.1)) s.1 s.2 G) FU (nW 0, nW 0) (wIJ G x0 y) = _ from lp]
  exact ⟨x0, y, rfl, by rw [← hx0]; exact MFm.u2, hR'⟩
theorem mif_ok (h : MSh G 265) (hA : AAOK W.1) (hR : RQ x y W) {k fx tx ty tk hk : Int32} (h5 : tk = 0 ∨ tk = 1) (h6 : hk = 0 ∨ hk = 1) (h0 : hs 0 = nW 1) : MOut G x y (fX7_gamesIfNoted 265 k fx tx ty tk hk (wIJ G x y)) (oIf W k fx tx ty tk hk) hs := by
  obtain ⟨hsz, W0, hm, hok, hwn⟩ := id hA
  have hn := szs36 hsz
  obtain ⟨⟨b1, b2⟩, -⟩ := lyN_run W0 hok
  unfold fX7_gamesIfNoted fX7_gamesIfNoted_0 oIf
  simp only [lits]
  rw [ck_wij, ck_ok h.t, isBad_ok h hA hR, Option.bind_some, ck_wij, ck_ok h.t, fails1_ok h, Option.bind_some]
  cases hok2 : okNote W.1 k fx tx ty with
  | false =>
    rw [if_neg (show ¬ bI (!false) = nW 0 from bIt), if_pos rfl]
    exact MOut.bad hR h0
  | true =>
    have hR' := hR.six (v := nW 0)
    rw [if_pos (show bI (!true) = nW 0 from rfl), if_neg (show ¬ true = false by decide)]
    rw [show fcd (!true) false false = nW 0 from rfl]
    generalize hx0 : u2 x 265 6 (nW 0) = x0 at *
    have M0 : MFm x x0 y y := by rw [← hx0]; exact MFm.u2
    have x06 : x0 265 6 = nW 0 := by rw [← hx0, u2_same]
    rw [gR_wij, h.g0, Option.bind_some, hR'.m2 h, Option.bind_some]
    by_cases hm10 : W.1.2.2.2.2 = 10
    · have ea : aAdd W.1 (ntF k fx tx ty tk hk) = none := aAdd_none (c := W.1.1) (r := W.1.2.1) (N := W.1.2.2.1) (P0 := W.1.2.2.2.1) (m := W.1.2.2.2.2) (fun z => by have := z.1; omega)
      rw [if_pos (by rw [hm10]), ea]
      dsimp only
      rw [if_neg (show ¬ (W.1.2.2.2.2 < 10 ∧ stepL W.1.1 (W.1.1 * W.1.2.1) (ntF k fx tx ty tk hk) (W.1.2.2.2.2 % 2) (lyN W.1.1 (W.1.1 * W.1.2.1) W.1.2.2.1 W.1.2.2.2.1 W.1.2.2.2.2).1 ≠ none) from fun z => by have := z.1; omega)]
      exact MOut.mk' M0 hR' x06
    · obtain ⟨x1, l1, l2, l3⟩ := lay_ok (x := x0) (y := y) h (show W.1.2.2.2.2 < 10 by omega) k fx tx ty tk hk
      rw [b01_id h5, b01_id h6] at l3
      have hR1 := hR'.1.lay l2
      obtain ⟨v, x3, y3, f1, f2, f3⟩ := mfollows_ok (N := ntF k fx tx ty tk hk) h hsz hR1.1.1 (i := W.1.2.2.2.2) (show W.1.2.2.2.2 < 10 by omega) b1 b2 l3 (show ntF k fx tx ty tk hk 5 = 0 ∨ ntF k fx tx ty tk hk 5 = 1 from h5) (hR1.2.1.1 W.1.2.2.2.2 (Nat.le_refl _))
      have hR3 := hR1.fr hA f2
      have R3 : ∀ b, b ≠ 266 → (b < 273 ∨ 277 < b) → x3 b = x0 b := fun b q1 q2 => by rw [f2.1 b q2]; exact funext fun j => l2 b j (fun z => q1 z.1)
      have Q3 : RQ x3 y3 W := hR'.state hR3 (hR'.2.1.rows (R3 265 (by decide) (by decide)) (R3 267 (by decide) (by decide))) (fun j _ _ => by rw [R3 265 (by decide) (by decide)]) (fun b hb => R3 b (by omega) (by omega))
      have M3 : MFm x x3 y y3 := M0.trans fun b hb => ⟨R3 b (by omega) (by omega), f2.2.2.2.2.2.1 b (by omega)⟩
      have x36 : x3 265 6 = nW 0 := by rw [R3 265 (by decide) (by decide), x06]
      have m1 : gA (wIJ G x1 y) 1 (265 + 1) (nW 2) = some (nW W.1.2.2.2.2) := hR1.s2 h
      have m3 : gA (wIJ G x3 y3) 1 (265 + 1) (nW 2) = some (nW W.1.2.2.2.2) := hR3.s2 h
      rw [if_neg (by rw [nW_eq (by omega) (by decide)]; exact hm10), Option.bind_some, hR'.m2 h, Option.bind_some, ck_wij, ck_ok h.t, l1, Option.bind_some, gR_wij, h.g0, Option.bind_some, m1, Option.bind_some, ck_wij, ck_ok h.t, f1, Option.bind_some]
      have low := addN_low (m := W.1.2.2.2.2) (N := W.1.2.2.1) (nt := ntF k fx tx ty tk hk)
      have hokN := okN_cong low hok
      have eN : addN W.1.2.2.1 W.1.2.2.2.2 (ntF k fx tx ty tk hk) W.1.2.2.2.2 = ntF k fx tx ty tk hk := if_pos rfl
      have eL : lyN W.1.1 (W.1.1 * W.1.2.1) (addN W.1.2.2.1 W.1.2.2.2.2 (ntF k fx tx ty tk hk)) W.1.2.2.2.1 W.1.2.2.2.2 = lyN W.1.1 (W.1.1 * W.1.2.1) W.1.2.2.1 W.1.2.2.2.1 W.1.2.2.2.2 := (lyN_cong low).symm
      rcases f3 with ⟨n1, rfl⟩ | ⟨st', n1, rfl, n3, n4⟩
      · have ea : aAdd W.1 (ntF k fx tx ty tk hk) = none := aAdd_none (c := W.1.1) (r := W.1.2.1) (N := W.1.2.2.1) (P0 := W.1.2.2.2.1) (m := W.1.2.2.2.2) (fun z => by
          have := (z.2 W.1.2.2.2.2 (Nat.lt_succ_self _)).1
          rw [eN, eL, n1] at this; cases this)
        rw [if_pos (show nW 0 = nW 0 from rfl), ea]
        dsimp only
        rw [if_neg (show ¬ (W.1.2.2.2.2 < 10 ∧ stepL W.1.1 (W.1.1 * W.1.2.1) (ntF k fx tx ty tk hk) (W.1.2.2.2.2 % 2) (lyN W.1.1 (W.1.1 * W.1.2.1) W.1.2.2.1 W.1.2.2.2.1 W.1.2.2.2.2).1 ≠ none) from fun z => z.2 n1)]
        exact MOut.mk' M3 Q3 x36
      · have n1' : stepL W.1.1 (W.1.1 * W.1.2.1) (addN W.1.2.2.1 W.1.2.2.2.2 (ntF k fx tx ty tk hk) W.1.2.2.2.2) (W.1.2.2.2.2 % 2) (lyN W.1.1 (W.1.1 * W.1.2.1) (addN W.1.2.2.1 W.1.2.2.2.2 (ntF k fx tx ty tk hk)) W.1.2.2.2.1 W.1.2.2.2.2).1 = some st' := by rw [eN, eL]; exact n1
        have e := lyN_of n1'
        have l40 := (evs_RI (Nat.mod_lt W.1.2.2.2.2 (by decide)) b2 (Nat.le_refl _) n1).2.1
        have lp := loop_to (f := fun (s : Int64 × Int32) G => fX7_gamesIfNoted_77 265 s.1 s.2 G) (fun p => (Int64.ofNat (sumN p (lyg st'.1)), nW p)) (fun _ => wIJ G x3 y3) (lyc st'.1) (Int64.ofNat (sumN (lyc st'.1) (lyg st'.1))) (wIJ G x3 y3) (fun p hp => by
          show fX7_gamesIfNoted_77 _ _ _ _ = _
          unfold fX7_gamesIfNoted_77
          simp only [lits]
          rw [gR_wij, h.g14, Option.bind_some, gR_wij, h.g0, Option.bind_some, m3, Option.bind_some, nW_add, h.r14.rd (by omega) (by decide), n3.1, Option.bind_some, if_neg (by rw [nW_le (by omega) (by omega)]; omega), gR_wij, h.g18, Option.bind_some, Option.bind_some, m3, Option.bind_some, nW_add, nW_mul, nW_add, h.r18.rj (by omega) (by decide), (n3.2 p hp).1, Option.bind_some, ← Int64.ofNat_add, nW_add]
          rfl) (by
          show fX7_gamesIfNoted_77 _ _ _ _ = _
          unfold fX7_gamesIfNoted_77 fX7_gamesIfNoted_125
          simp only [lits]
          rw [gR_wij, h.g14, Option.bind_some, gR_wij, h.g0, Option.bind_some, m3, Option.bind_some, nW_add, h.r14.rd (by omega) (by decide), n3.1, Option.bind_some, if_pos ((nW_le (by omega) (by omega)).mpr (Nat.le_refl _))]
          rfl) (lyc st'.1) 0 FU (by omega) (by show _ < 100000; omega)
        rw [if_neg (show ¬ nW 1 = nW 0 by decide), show loopM (fun (s : Int64 × Int32) G => fX7_gamesIfNoted_77 265 s.1 s.2 G) FU ((0 : Int64), nW 0) (wIJ G x3 y3) = _ from lp]
        by_cases hz : lyc st'.1 = 0
        · have ea : aAdd W.1 (ntF k fx tx ty tk hk) = none := aAdd_none (c := W.1.1) (r := W.1.2.1) (N := W.1.2.2.1) (P0 := W.1.2.2.2.1) (m := W.1.2.2.2.2) (fun z => by
            have := (z.2 W.1.2.2.2.2 (Nat.lt_succ_self _)).2
            rw [e] at this; exact this hz)
          rw [ea, hz]
          dsimp only
          rw [if_pos (show (W.1.2.2.2.2 < 10 ∧ stepL W.1.1 (W.1.1 * W.1.2.1) (ntF k fx tx ty tk hk) (W.1.2.2.2.2 % 2) (lyN W.1.1 (W.1.1 * W.1.2.1) W.1.2.2.1 W.1.2.2.2.1 W.1.2.2.2.2).1 ≠ none) from ⟨by omega, by rw [n1]; exact fun z => by cases z⟩)]
          exact MOut.mk' M3 Q3 x36
        · have ea : aAdd W.1 (ntF k fx tx ty tk hk) = some (W.1.1, W.1.2.1, addN W.1.2.2.1 W.1.2.2.2.2 (ntF k fx tx ty tk hk), W.1.2.2.2.1, W.1.2.2.2.2 + 1) := aAdd_some (c := W.1.1) (r := W.1.2.1) (N := W.1.2.2.1) (P0 := W.1.2.2.2.1) (m := W.1.2.2.2.2) ⟨by omega, okN_succ.mpr ⟨hokN, by rw [e]; exact n1', by rw [e]; exact hz⟩⟩
          have ev : gsm (lyN W.1.1 (W.1.1 * W.1.2.1) (addN W.1.2.2.1 W.1.2.2.2.2 (ntF k fx tx ty tk hk)) W.1.2.2.2.1 (W.1.2.2.2.2 + 1)).1 (pcn W.1.1 (W.1.1 * W.1.2.1) (addN W.1.2.2.1 W.1.2.2.2.2 (ntF k fx tx ty tk hk)) W.1.2.2.2.1 (W.1.2.2.2.2 + 1)) = sumN (lyc st'.1) (lyg st'.1) := by
            show sumN (lyc (lyN W.1.1 (W.1.1 * W.1.2.1) (addN W.1.2.2.1 W.1.2.2.2.2 (ntF k fx tx ty tk hk)) W.1.2.2.2.1 (W.1.2.2.2.2 + 1)).1) _ = _
            rw [e]
          rw [ea]
          show MOut G x y _ (.inl (Int64.ofNat (gsm (lyN W.1.1 (W.1.1 * W.1.2.1) (addN W.1.2.2.1 W.1.2.2.2.2 (ntF k fx tx ty tk hk)) W.1.2.2.2.1 (W.1.2.2.2.2 + 1)).1 (pcn W.1.1 (W.1.1 * W.1.2.1) (addN W.1.2.2.1 W.1.2.2.2.2 (ntF k fx tx ty tk hk)) W.1.2.2.2.1 (W.1.2.2.2.2 + 1)))), W) hs
          rw [ev]
          exact MOut.mk' M3 Q3 x36
end MOUT2
