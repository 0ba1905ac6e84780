/-! ===== the reference: all that follows a note ===== -/
theorem lkP_split {c n : Nat} {N : Nat → Int32} {P : Nat → Nat} {col k : Nat} (h0 : 0 < n) : ∀ d, ∃ l, lkP c n N P col (k + d) = lkP c n N P col k ++ l := by
  intro d
  induction d with
  | zero => exact ⟨[], (List.append_nil _).symm⟩
  | succ d ih =>
    obtain ⟨l, h⟩ := ih
    exact ⟨_, by rw [← Nat.add_assoc, lkP_succ h0, h, List.append_assoc]⟩
section MLAYER
variable {G : Mem} {o : Nat} {c r i : Nat} {N : Nat → Int32}
theorem mpos_ok (h : MSh G o) (hs : szs c r) {x : Nat → Nat → Int32} {y : Nat → Nat → Int64} (hz : MSz x o c r) (hi : i < 10) {Lp : Lay} (hp40 : lyc Lp ≤ 40) (hW : ∀ p, p < lyc Lp → WFP (c * r) (lyp Lp p)) (hN : MNt x o i N) (h5 : N 5 = 0 ∨ N 5 = 1) (hLp : MLay x y o i Lp) {p : Nat} (hp : p < lyc Lp) {st : Lay × Edg} (hR : runL (c * r) Lp (evs c (c * r) N (i % 2) Lp p) (Ly0, Eg0) = some st) (hL : MLay x y o (i + 1) st.1) (hE : MEdg x o i st.2) :
    ∃ res x' y', loopM (fun (s : Int32) G => fX7_follows_35 o (nW i) (nW (i % 2)) (nW p) s G) FU (nW 0) (wIJ G x y) = some (res, wIJ G x' y') ∧ MFr o i x y x' y' ∧
      ((∃ st', runL (c * r) Lp (evP c (c * r) N (i % 2) Lp p) st = some st' ∧ res = .inl (nW (p + 1)) ∧ MLay x' y' o (i + 1) st'.1 ∧ MEdg x' o i st'.2) ∨ (runL (c * r) Lp (evP c (c * r) N (i % 2) Lp p) st = none ∧ res = .inr (nW 0))) := by
  have hcol : i % 2 < 2 := Nat.mod_lt _ (by decide)
  have hn : c * r ≤ 36 := szs36 hs
  have n0 : 0 < c * r := Nat.mul_pos (by have := hs.1; omega) (by have := hs.2.2.1; omega)
  have hnn : c * r * (c * r) ≤ 1296 := Nat.mul_le_mul hn hn
  have W := hW p hp
  have hRI := evs_RI hcol hW (Nat.le_of_lt hp) hR
  generalize hn' : c * r = n at *
  have hev : evP c n N (i % 2) Lp p = (mvl c n N (lyp Lp p) (i % 2)).map fun m => (p, m.1, m.2) := rfl
  have pre : ∀ k, k ≤ n * n → ∃ l, mvl c n N (lyp Lp p) (i % 2) = lkP c n N (lyp Lp p) (i % 2) k ++ l := fun k hk => by
    obtain ⟨l, e⟩ := lkP_split (c := c) (N := N) (P := lyp Lp p) (col := i % 2) (k := k) n0 (n * n - k)
    rw [show k + (n * n - k) = n * n by omega, lkP_end n0] at e
    exact ⟨l, e⟩
  have evok : ∀ k, k ≤ n * n → ∀ m ∈ (lkP c n N (lyp Lp p) (i % 2) k).map (fun m : Nat × Nat => (p, m.1, m.2)), EvOK c n N (i % 2) Lp m := fun k hk m hm => evP_ok hp m (by
    obtain ⟨l, e⟩ := pre k hk
    rw [hev, e, List.map_append]
    exact List.mem_append.mpr (Or.inl hm))
  have srt : ∀ k, k ≤ n * n → (evs c n N (i % 2) Lp p ++ (lkP c n N (lyp Lp p) (i % 2) k).map fun m => (p, m.1, m.2)).Pairwise fun a b => evc a < evc b := fun k hk => by
    refine List.Pairwise.sublist ?_ (evs_sorted (c := c) hn (N := N) (col := i % 2) (Lp := Lp) (k := p + 1))
    obtain ⟨l, e⟩ := pre k hk
    rw [evs_succ, hev, e, List.map_append, ← List.append_assoc]
    exact List.sublist_append_left _ _
  obtain ⟨res, Gf, e1, x', y', rfl, e2, e3⟩ := loop_by (f := fun (s : Int32) G => fX7_follows_35 o (nW i) (nW (i % 2)) (nW p) s G)
    (fun d s G' => ∃ k x' y' st', d = n * n - k ∧ k ≤ n * n ∧ s = nW k ∧ G' = wIJ G x' y' ∧ MFr o i x y x' y' ∧ MLay x' y' o (i + 1) st'.1 ∧ MEdg x' o i st'.2 ∧ runL n Lp ((lkP c n N (lyp Lp p) (i % 2) k).map fun m => (p, m.1, m.2)) st = some st')
    (fun (res : Int32 ⊕ Int32) G' => ∃ x' y', G' = wIJ G x' y' ∧ MFr o i x y x' y' ∧ ((∃ st', runL n Lp (evP c n N (i % 2) Lp p) st = some st' ∧ res = .inl (nW (p + 1)) ∧ MLay x' y' o (i + 1) st'.1 ∧ MEdg x' o i st'.2) ∨ (runL n Lp (evP c n N (i % 2) Lp p) st = none ∧ res = .inr (nW 0))))
    (by
      rintro d s G' ⟨k, x1, y1, st1, rfl, hk, rfl, rfl, g1, g2, g3, g4⟩
      have hz1 : MSz x1 o c r := by
        unfold MSz
        rw [g1.1 _ (by omega)]; exact hz
      have hN1 : MNt x1 o i N := fun j hj => by rw [g1.1 _ (by omega)]; exact hN j hj
      have hLp1 := hLp.low hp40 (Nat.le_refl i) g1
      by_cases hend : k = n * n
      · left
        subst hend
        rw [lkP_end n0, ← hev] at g4
        refine ⟨.inl (nW (p + 1)), _, ?_, x1, y1, rfl, g1, Or.inl ⟨st1, g4, rfl, g2, g3⟩⟩
        show fX7_follows_35 _ _ _ _ _ _ = _
        unfold fX7_follows_35 fX7_follows_199
        have sq : fX7_squareMany o (wIJ G x1 y1) = some (nW n, wIJ G x1 y1) := by rw [squareMany_ok h hz1, hn']
        rw [ck_wij, ck_ok h.t, sq, Option.bind_some, ck_wij, ck_ok h.t, sq, Option.bind_some, nW_mul, if_pos (by rw [nW_le (by omega) (by omega)]; omega)]
        simp only [lits, nW_add]
        rfl
      · have hk : k < n * n := by omega
        have hf : k / n < n := Nat.div_lt_of_lt_mul hk
        have ht : k % n < n := Nat.mod_lt k n0
        have hkk : k = k / n * n + k % n := by
          have := Nat.div_add_mod k n
          rw [Nat.mul_comm] at this
          exact this.symm
        have hRj : RI c n (i % 2) Lp (evs c n N (i % 2) Lp p ++ (lkP c n N (lyp Lp p) (i % 2) k).map fun m => (p, m.1, m.2)) st1 := RI.run hcol hW _ _ _ _ hRI (evok k (by omega)) g4
        have sc := lkP_succ (c := c) (N := N) (P := lyp Lp p) (col := i % 2) (k := k) n0
        have mm := mmove_ok (N := N) h hs hz1 hi hp40 hp (by rw [hn']; exact W) hN1 h5 hLp1 (st := st1) (f := k / n) (t := k % n) (by rw [hn']; exact hf) (by rw [hn']; exact ht) g2 g3 hRj.2.1 (by rw [hn']; exact fun q hq => (hRj.2.2.1 q hq).1) (by
          rw [hn']
          intro hne hc
          obtain ⟨st', e⟩ := Option.ne_none_iff_exists'.mp hne
          rw [if_pos hc] at sc
          have hm := evok (k + 1) hk (p, k / n, k % n) (by rw [sc, List.map_append]; exact List.mem_append.mpr (Or.inr List.mem_cons_self))
          have hR' := RI.step hcol hW hRj hm e
          have hlen := hR'.len hp40 (by
            have := srt (k + 1) hk
            rw [sc, List.map_append, ← List.append_assoc] at this
            exact this)
          rw [List.length_append] at hlen
          have h1 : ([(p, k / n, k % n)] : List (Nat × Nat × Nat)).length = 1 := rfl
          have := hRj.1
          omega) (k := k) (by rw [hn']; exact hkk)
        rw [hn'] at mm
        obtain ⟨x2, y2, m1, m2⟩ := mm
        rcases m2 with ⟨c1, c2, c3, c4⟩ | ⟨c1, ⟨c2, c3⟩ | ⟨st', c2, c3, c4, c5⟩⟩
        · right
          rw [if_neg (by rw [c1]; decide), List.append_nil] at sc
          exact ⟨n * n - (k + 1), nW (k + 1), _, by omega, c2, k + 1, x2, y2, st1, rfl, hk, rfl, rfl, g1.trans m1, c3, c4, by rw [sc]; exact g4⟩
        · left
          rw [if_pos c1] at sc
          refine ⟨.inr (nW 0), _, c3, x2, y2, rfl, g1.trans m1, Or.inr ⟨?_, rfl⟩⟩
          obtain ⟨l, e⟩ := pre (k + 1) hk
          rw [hev, e, sc, List.map_append, List.map_append, List.append_assoc, runL_app, g4]
          show ((amv n Lp (p, k / n, k % n) st1).bind _) = none
          rw [c2]; rfl
        · right
          rw [if_pos c1] at sc
          refine ⟨n * n - (k + 1), nW (k + 1), _, by omega, c3, k + 1, x2, y2, st', rfl, hk, rfl, rfl, g1.trans m1, c4, c5, ?_⟩
          rw [sc, List.map_append, runL_app, g4]
          show ((amv n Lp (p, k / n, k % n) st1).bind _) = some st'
          rw [c2]; rfl)
    FU (n * n) (nW 0) (wIJ G x y) (by show n * n < 100000; omega) ⟨0, x, y, st, rfl, Nat.zero_le _, rfl, rfl, MFr.rfl', hL, hE, by rw [lkP_zero]; rfl⟩
  exact ⟨res, x', y', e1, e2, e3⟩
theorem mfollows_ok (h : MSh G o) (hs : szs c r) {x : Nat → Nat → Int32} {y : Nat → Nat → Int64} (hz : MSz x o c r) (hi : i < 10) {Lp : Lay} (hp40 : lyc Lp ≤ 40) (hW : ∀ p, p < lyc Lp → WFP (c * r) (lyp Lp p)) (hN : MNt x o i N) (h5 : N 5 = 0 ∨ N 5 = 1) (hLp : MLay x y o i Lp) :
    ∃ v x' y', fX7_follows o (nW i) (wIJ G x y) = some (v, wIJ G x' y') ∧ MFr o i x y x' y' ∧ ((stepL c (c * r) N (i % 2) Lp = none ∧ v = nW 0) ∨ ∃ st', stepL c (c * r) N (i % 2) Lp = some st' ∧ v = nW 1 ∧ MLay x' y' o (i + 1) st'.1 ∧ MEdg x' o i st'.2) := by
  generalize hx1 : u2 (u2 x (o + 9) (i + 1) (nW 0)) (o + 11) i (nW 0) = x1
  have g0 : MFr o i x y x1 y := by
    refine ⟨fun b hb => ?_, fun k hk => ?_, fun k hk => ?_, fun k hk => ?_, fun k hk => ?_, fun _ _ => rfl, fun _ _ => rfl⟩
    · rw [← hx1, u2_arow (by omega), u2_arow (by omega)]
    · rw [← hx1, u2_apart (by omega), u2_apart (by omega)]
    · rw [← hx1, u2_apart (by omega), u2_other (by omega)]
    · rw [← hx1, u2_apart (by omega), u2_apart (by omega)]
    · rw [← hx1, u2_other (by omega), u2_apart (by omega)]
  have hL0 : MLay x1 y o (i + 1) Ly0 := ⟨by rw [← hx1, u2_apart (by omega), u2_same]; rfl, fun p hp => absurd hp (Nat.not_lt_zero _)⟩
  have hE0 : MEdg x1 o i Eg0 := ⟨by rw [← hx1, u2_same]; rfl, fun e he => absurd he (Nat.not_lt_zero _)⟩
  obtain ⟨v, Gf, e1, x', y', rfl, e2, e3⟩ := loop_by (f := fun (s : Int32) G => fX7_follows_22 o (nW i) (nW (i % 2)) s G)
    (fun d s G' => ∃ p x' y' st, d = lyc Lp - p ∧ p ≤ lyc Lp ∧ s = nW p ∧ G' = wIJ G x' y' ∧ MFr o i x y x' y' ∧ MLay x' y' o (i + 1) st.1 ∧ MEdg x' o i st.2 ∧ runL (c * r) Lp (evs c (c * r) N (i % 2) Lp p) (Ly0, Eg0) = some st)
    (fun (v : Int32) G' => ∃ x' y', G' = wIJ G x' y' ∧ MFr o i x y x' y' ∧ ((stepL c (c * r) N (i % 2) Lp = none ∧ v = nW 0) ∨ ∃ st', stepL c (c * r) N (i % 2) Lp = some st' ∧ v = nW 1 ∧ MLay x' y' o (i + 1) st'.1 ∧ MEdg x' o i st'.2))
    (by
      rintro d s G' ⟨p, x2, y2, st, rfl, hp, rfl, rfl, g1, g2, g3, g4⟩
      have hz1 : MSz x2 o c r := by
        unfold MSz
        rw [g1.1 _ (by omega)]; exact hz
      have hN1 : MNt x2 o i N := fun j hj => by rw [g1.1 _ (by omega)]; exact hN j hj
      have hLp1 := hLp.low hp40 (Nat.le_refl i) g1
      by_cases hend : p = lyc Lp
      · left
        subst hend
        refine ⟨nW 1, _, ?_, x2, y2, rfl, g1, Or.inr ⟨st, g4, rfl, g2, g3⟩⟩
        show fX7_follows_22 _ _ _ _ _ = _
        unfold fX7_follows_22 fX7_follows_205
        rw [gR_wij, h.g14, Option.bind_some, h.r14.rd (by omega) (by decide), hLp1.1, Option.bind_some, if_pos (by rw [nW_le (by omega) (by omega)]; omega)]
        rfl
      · have hp : p < lyc Lp := by omega
        obtain ⟨res, x3, y3, m1, m2, m3⟩ := mpos_ok h hs hz1 hi hp40 hW hN1 h5 hLp1 hp g4 g2 g3
        have body : fX7_follows_22 o (nW i) (nW (i % 2)) (nW p) (wIJ G x2 y2) = some (res, wIJ G x3 y3) := by
          unfold fX7_follows_22
          rw [gR_wij, h.g14, Option.bind_some, h.r14.rd (by omega) (by decide), hLp1.1, Option.bind_some, if_neg (by rw [nW_le (by omega) (by omega)]; omega)]
          exact m1
        rcases m3 with ⟨st', n1, n2, n3, n4⟩ | ⟨n1, n2⟩
        · right
          refine ⟨lyc Lp - (p + 1), nW (p + 1), _, by omega, ?_, p + 1, x3, y3, st', rfl, hp, rfl, rfl, g1.trans m2, n3, n4, by rw [evs_succ, runL_app, g4]; exact n1⟩
          show fX7_follows_22 _ _ _ _ _ = _
          rw [body, n2]
        · left
          refine ⟨nW 0, _, ?_, x3, y3, rfl, g1.trans m2, Or.inl ⟨?_, rfl⟩⟩
          · show fX7_follows_22 _ _ _ _ _ = _
            rw [body, n2]
          · obtain ⟨le, hle2⟩ := evs_split (c := c) (n := c * r) (N := N) (col := i % 2) (Lp := Lp) (k := p + 1) (lyc Lp - (p + 1))
            rw [show p + 1 + (lyc Lp - (p + 1)) = lyc Lp by omega] at hle2
            unfold stepL
            rw [hle2, evs_succ, List.append_assoc]
            refine runL_none g4 ?_
            rw [runL_app, n1]; rfl)
    FU (lyc Lp) (nW 0) (wIJ G x1 y) (by show lyc Lp < 100000; omega) ⟨0, x1, y, (Ly0, Eg0), rfl, Nat.zero_le _, rfl, rfl, g0, hL0, hE0, rfl⟩
  refine ⟨v, x', y', ?_, e2, e3⟩
  unfold fX7_follows fX7_follows_0
  simp only [lits, nW_add]
  rw [gR_wij, h.g14, Option.bind_some, h.r14.wr (by omega) (by decide), Option.bind_some, gR_wij, h.g16, Option.bind_some, h.r16.wr hi (by decide), hx1, Option.bind_some, nW_rem (by omega) (by decide)]
  exact e1
end MLAYER
