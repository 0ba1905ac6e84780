/-! ===== a new StringBuilder; its String ===== -/
theorem mk_ne {G : Mem} {t n w b : Nat} (h : b ≠ mz G) : mt (mk G t n w) b = mt G b ∧ mn (mk G t n w) b = mn G b ∧ mI (mk G t n w) b = mI G b ∧ mJ (mk G t n w) b = mJ G b ∧ mP (mk G t n w) b = mP G b := ⟨if_neg h, if_neg h, ur_arow h, ur_arow h, ur_arow h⟩
theorem mk_frsh {G : Mem} {t n w : Nat} (h : Frsh G) : Frsh (mk G t n w) := fun b hb => by
  have hb : mz G + 1 ≤ b := hb
  rw [(mk_ne (show b ≠ mz G by omega)).1]
  exact h b (by omega)
theorem mk_frm {G : Mem} {t n w a : Nat} (h : a ≤ mz G) : Frm a 1 w G (mk G t n w) := ⟨⟨Nat.le_succ _, Nat.le_refl _, Nat.le_refl _, rfl, rfl⟩, fun b hb => mk_ne (by omega)⟩
theorem nA_ok {G : Mem} {t n : Nat} (hn : n ≤ 60000000) (hr : mz G + 1 ≤ cC G ∧ ml G + n ≤ cS G) : nA G t (nW n) = some (mz G, mk G t n n) := by
  unfold nA
  rw [nW_int (by omega), nW_clamp (by omega), if_pos ⟨⟨Int.natCast_nonneg _, by omega⟩, hr.1, hr.2⟩]
theorem Frm.weak {a a' k k' s s' : Nat} {G G' : Mem} (h : Frm a k s G G') (h1 : a' ≤ a) (h2 : k ≤ k') (h3 : s ≤ s') : Frm a' k' s' G G' := by
  obtain ⟨⟨x1, x2, x3, x4, x5⟩, x6⟩ := h
  exact ⟨⟨x1, by omega, by omega, x4, x5⟩, fun b hb => x6 b (by omega)⟩
theorem SBs.new {G : Mem} (hF : Frsh G) (hz : 266 ≤ mz G) (hr : mz G + 4 ≤ cC G ∧ ml G + 300 ≤ cS G) : ∃ Gn, nO G 18 4 = some (mz G, Gn) ∧ ∃ G' v cap, fJ4_init_a7421 (mz G) 34 Gn = some ((), G') ∧ SBs G' (mz G) v cap (sB 34) ∧ (cap = 56 ∨ cap = 114) ∧ Frm 266 3 300 G G' := by
  refine ⟨mk G 18 0 4, if_pos ⟨by omega, by omega⟩, ?_⟩
  have t0 : mt (mk G 18 0 4) (mz G) = 18 := if_pos rfl
  have na : nA (sI (mk G 18 0 4) (mz G) 1 (nW 0)) 2 (nW 56) = some (mz G + 1, mk (sI (mk G 18 0 4) (mz G) 1 (nW 0)) 2 56 56) := nA_ok (by decide) ⟨by show mz G + 1 + 1 ≤ cC G; omega, by show ml G + 4 + 56 ≤ cS G; omega⟩
  generalize hG2 : sI (mk G 18 0 4) (mz G) 1 (nW 0) = G2 at na
  have z2 : mz G2 = mz G + 1 := by rw [← hG2]; rfl
  have t2 : mt G2 (mz G) = 18 := by rw [← hG2]; exact t0
  have i2 : ∀ j, mI G2 (mz G) j = 0 := fun j => by
    rw [← hG2]
    show u2 (mI (mk G 18 0 4)) (mz G) 1 (nW 0) (mz G) j = 0
    by_cases e : j = 1
    · rw [e, u2_same]; rfl
    · rw [u2_other (fun q => e q.2)]
      exact ur_same (f := mI G) (a := mz G) (g := fun _ => (0 : Int32)) (j := j)
  have f2 : Frm 266 1 4 G G2 := by
    have a := mk_frm (G := G) (t := 18) (n := 0) (w := 4) hz
    rw [← hG2]
    refine ⟨a.1, fun b hb => ?_⟩
    obtain ⟨x1, x2, x3, x4, x5⟩ := a.2 b hb
    exact ⟨x1, x2, (u2_arow (by omega)).trans x3, x4, x5⟩
  have F2 : Frsh G2 := by rw [← hG2]; exact mk_frsh (t := 18) (n := 0) (w := 4) hF
  have f3 := mk_frm (G := G2) (t := 2) (n := 56) (w := 56) (a := 266) (by omega)
  obtain ⟨n1, n2, n3, n4, n5⟩ := mk_ne (G := G2) (t := 2) (n := 56) (w := 56) (show mz G ≠ mz G2 by omega)
  have t3 : mt (mk G2 2 56 56) (mz G) = 18 := n1.trans t2
  have e5 : pR (mk G2 2 56 56) 18 (mz G) 0 (mz G + 1) = some (sP (mk G2 2 56 56) (mz G) 0 (some (mz G + 1))) := if_pos t3
  have s5 : SBs (sP (mk G2 2 56 56) (mz G) 0 (some (mz G + 1))) (mz G) (mz G + 1) 56 [] := by
    refine ⟨⟨t3, u2_same, ?_, ?_⟩, ⟨?_, ?_⟩, ⟨Nat.zero_le _, by decide⟩, fun i hi => absurd hi (Nat.not_lt_zero _), fun i hi => absurd hi (Nat.not_lt_zero _), ⟨mk_frsh (t := 2) (n := 56) (w := 56) F2, by omega, by omega⟩⟩
    · show mI (mk G2 2 56 56) (mz G) 1 = _
      rw [n3, i2]; rfl
    · show mI (mk G2 2 56 56) (mz G) 3 = _
      rw [n3, i2]; rfl
    · show mt (mk G2 2 56 56) (mz G + 1) = 2
      rw [← z2]; exact if_pos rfl
    · show mn (mk G2 2 56 56) (mz G + 1) = 56
      rw [← z2]; exact if_pos rfl
  have f5 : Frm 266 1 56 G2 (sP (mk G2 2 56 56) (mz G) 0 (some (mz G + 1))) := by
    refine ⟨f3.1, fun b hb => ?_⟩
    obtain ⟨x1, x2, x3, x4, x5⟩ := f3.2 b hb
    exact ⟨x1, x2, x3, x4, (u2_arow (by omega)).trans x5⟩
  obtain ⟨⟨g1, g2, g3, g4, g5⟩, -⟩ := f2.trans f5
  generalize sP (mk G2 2 56 56) (mz G) 0 (some (mz G + 1)) = G5 at e5 s5 f5 g1 g2 g3 g4 g5
  have l34 : (sB 34).length = 40 := by decide +kernel
  obtain ⟨G6, v6, cap6, e6, s6, c6, f6⟩ := s5.str (a := 34) (by decide) (Or.inl rfl) (by rw [l34]; decide) ⟨by omega, by omega⟩
  refine ⟨G6, v6, cap6, ?_, s6, c6, ((f2.trans f5).trans f6).weak (Nat.le_refl _) (by omega) (by omega)⟩
  unfold fJ4_init_a7421 fJ4_init_a7421_0 fJ5_init_a7421 fJ5_init_a7421_0 fJ5_init_a7421_24
  rw [ckS_ok (by decide), slen2_ok (by decide), Option.bind_some, if_neg (show ¬ (2147483631 : Int32) ≤ (nW (sB 34).length, mk G 18 0 4).1 from (by show ¬ (2147483631 : Int32) ≤ nW (sB 34).length; rw [l34]; decide)), ckS_ok (by decide), scod_ok (by decide), Option.bind_some]
  have ez : pZ (mk G 18 0 4) 18 (mz G) 1 (nW 0) = some G2 := by rw [← hG2]; exact if_pos ⟨t0, Or.inl rfl⟩
  rw [show (nW (sB 34).length, mk G 18 0 4).1 + (16 : Int32) = nW 56 from (by show nW (sB 34).length + (16 : Int32) = nW 56; rw [l34]; decide), ez, Option.bind_some, if_pos (show (nW 0, mk G 18 0 4).1 = (0 : Int32) from rfl), na, Option.bind_some, e5, Option.bind_some, show ck G5 18 (mz G) _ = _ from if_pos s5.t]
  have ap : fJ4_append_cf1ce (mz G) 34 G5 = some (mz G, G6) := by
    unfold fJ4_append_cf1ce fJ4_append_cf1ce_0
    rw [show ck G5 18 (mz G) _ = _ from if_pos s5.t, e6]; rfl
  rw [ap]; rfl
/-- a String above: s, its bytes w -/
def STR (G : Mem) (s w : Nat) (B : List Nat) : Prop := (mt G s = 17 ∧ mP G s 0 = some w ∧ mI G s 1 = nW 0) ∧ (mt G w = 2 ∧ mn G w = B.length) ∧ (∀ i, i < B.length → mI G w i = nW (B.getD i 0)) ∧ (∀ i, i < B.length → B.getD i 0 < 128) ∧ 265 ≤ s ∧ 265 ≤ w
theorem SBs.keep {G G' : Mem} {o v cap : Nat} {B : List Nat} (h : SBs G o v cap B) (h1 : mt G' o = mt G o ∧ mI G' o = mI G o ∧ mP G' o = mP G o) (h2 : mt G' v = mt G v ∧ mn G' v = mn G v ∧ mI G' v = mI G v) (hF : Frsh G') : SBs G' o v cap B := by
  obtain ⟨⟨a1, a2, a3, a4⟩, ⟨a5, a5n⟩, a6, a8, a9, ⟨-, ho, hv⟩⟩ := h
  exact ⟨⟨h1.1.trans a1, (congrFun h1.2.2 0).trans a2, (congrFun h1.2.1 1).trans a3, (congrFun h1.2.1 3).trans a4⟩, ⟨h2.1.trans a5, h2.2.1.trans a5n⟩, a6, fun i hi => (congrFun h2.2.2 i).trans (a8 i hi), a9, ⟨hF, ho, hv⟩⟩
theorem SBs.rng {G2 : Mem} {o v cap : Nat} {B : List Nat} (s2 : SBs G2 o v cap B) (hne : B.length ≠ cap) (hr : mz G2 + 1 ≤ cC G2 ∧ ml G2 + B.length ≤ cS G2) : ∃ x, fJ7_copyOfRange_39247 v 0 (nW B.length) G2 = some (mz G2, wI (mk G2 2 B.length B.length) x) ∧ (∀ b, b ≠ mz G2 → x b = mI G2 b) ∧ ∀ i, i < B.length → x (mz G2) i = nW (B.getD i 0) := by
  have hlt := s2.lt
  obtain ⟨hl1, hl2⟩ := s2.2.2.1
  have na : nA G2 2 (nW B.length) = some (mz G2, mk G2 2 B.length B.length) := nA_ok (by omega) hr
  have kv2 := mk_ne (G := G2) (t := 2) (n := B.length) (w := B.length) (show v ≠ mz G2 by omega)
  have w1 : mt (mk G2 2 B.length B.length) (mz G2) = 2 := if_pos rfl
  have w2 : mn (mk G2 2 B.length B.length) (mz G2) = B.length := if_pos rfl
  have v1 : mt (mk G2 2 B.length B.length) v = 2 := kv2.1.trans s2.2.1.1
  have v2 : mn (mk G2 2 B.length B.length) v = cap := kv2.2.1.trans s2.2.1.2
  have xo : ∀ b, b ≠ mz G2 → mI (mk G2 2 B.length B.length) b = mI G2 b := fun b hb => (mk_ne hb).2.2.1
  have z2 : mz G2 = mz G2 := rfl
  generalize hM : mk G2 2 B.length B.length = M at na w1 w2 v1 v2 xo ⊢
  refine ⟨ur (mI M) (mz G2) (va_cpy (mI M v) (mI M (mz G2)) 0 0 B.length), ?_, fun b hb => (ur_arow hb).trans (xo b hb), fun i hi => ?_⟩
  · have cb : cpB M v 0 (mz G2) 0 (nW B.length) = some (wI M (ur (mI M) (mz G2) (va_cpy (mI M v) (mI M (mz G2)) 0 0 B.length))) := by
      unfold cpB
      rw [nW_int (by omega), nW_clamp (by omega), if_pos ⟨v1, w1, by decide, by decide, by omega, by rw [v2]; show 0 + _ ≤ _; omega, by rw [w2]; show 0 + _ ≤ _; omega⟩]
      rfl
    have gl : gL M v = some (nW cap) := by rw [gL_ok (Or.inr (Or.inl v1)), v2]
    have s0 : nW B.length - (0 : Int32) = nW B.length := Int32.sub_zero _
    have s1 : nW cap - (0 : Int32) = nW cap := Int32.sub_zero _
    unfold fJ7_copyOfRange_39247 fJ7_copyOfRange_39247_0 fJ7_copyOfRange_39247_10 fJ7_copyOfRangeByte_39247 fJ7_copyOfRangeByte_39247_0 fJ7_checkLength_df160 fJ7_checkLength_df160_0
    rw [if_pos rfl, s2.len, Option.bind_some, if_neg (show ¬ nW B.length = nW cap from fun q => hne ((nW_eq (by omega) (by omega)).mp q)), if_pos (show (0 : Int32) ≤ nW B.length from (nW_le (a := 0) (by decide) (by omega)).mpr (Nat.zero_le _)), Option.bind_some, s0, na, Option.bind_some, gl, Option.bind_some, s1, if_pos (show nW B.length < nW cap from (nW_lt (by omega) (by omega)).mpr (by omega)), cb]
    rfl
  · rw [ur_same, cpy_in (Nat.zero_le _) (by omega), show 0 + (i - 0) = i by omega, ← hM, congrFun kv2.2.2.1 i]
    exact s2.2.2.2.1 i hi
theorem SBs.tostr {G : Mem} {o v cap : Nat} {B : List Nat} (h : SBs G o v cap B) (hne : B.length ≠ cap) (hr : mz G + 4 ≤ cC G ∧ ml G + 300 ≤ cS G) : ∃ s w G', fJ4_toString_0e30d o G = some (s, G') ∧ STR G' s w B ∧ Frsh G' ∧ Frm 266 2 120 G G' := by
  have hlt := h.lt
  obtain ⟨-, -, ⟨hl1, hl2⟩, -, -, ⟨hF, ho, hv⟩⟩ := id h
  have e1 : nO G 17 4 = some (mz G, mk G 17 0 4) := if_pos ⟨by omega, by omega⟩
  have t1 : mt (mk G 17 0 4) (mz G) = 17 := if_pos rfl
  have ko := mk_ne (G := G) (t := 17) (n := 0) (w := 4) (show o ≠ mz G by omega)
  have kv := mk_ne (G := G) (t := 17) (n := 0) (w := 4) (show v ≠ mz G by omega)
  have s1 : SBs (mk G 17 0 4) o v cap B := h.keep ⟨ko.1, ko.2.2.1, ko.2.2.2.2⟩ ⟨kv.1, kv.2.1, kv.2.2.1⟩ (mk_frsh hF)
  have ez : pZ (mk G 17 0 4) 17 (mz G) 1 (0 : Int32) = some (sI (mk G 17 0 4) (mz G) 1 (nW 0)) := if_pos ⟨t1, Or.inl rfl⟩
  have f1 : Frm 266 1 4 G (sI (mk G 17 0 4) (mz G) 1 (nW 0)) := by
    have a := mk_frm (G := G) (t := 17) (n := 0) (w := 4) (a := 266) (by omega)
    refine ⟨a.1, fun b hb => ?_⟩
    obtain ⟨x1, x2, x3, x4, x5⟩ := a.2 b hb
    exact ⟨x1, x2, (u2_arow (by omega)).trans x3, x4, x5⟩
  have s2 : SBs (sI (mk G 17 0 4) (mz G) 1 (nW 0)) o v cap B := s1.keep ⟨rfl, u2_arow (by omega), rfl⟩ ⟨rfl, rfl, u2_arow (by omega)⟩ (mk_frsh (t := 17) (n := 0) (w := 4) hF)
  have m1 : mI (sI (mk G 17 0 4) (mz G) 1 (nW 0)) (mz G) 1 = nW 0 := u2_same
  have z2 : mz (sI (mk G 17 0 4) (mz G) 1 (nW 0)) = mz G + 1 := rfl
  have t2 : mt (sI (mk G 17 0 4) (mz G) 1 (nW 0)) (mz G) = 17 := t1
  have F2 : Frsh (sI (mk G 17 0 4) (mz G) 1 (nW 0)) := mk_frsh (t := 17) (n := 0) (w := 4) hF
  have l2 : ml (sI (mk G 17 0 4) (mz G) 1 (nW 0)) = ml G + 4 := rfl
  have q2 : cC (sI (mk G 17 0 4) (mz G) 1 (nW 0)) = cC G ∧ cS (sI (mk G 17 0 4) (mz G) 1 (nW 0)) = cS G := ⟨rfl, rfl⟩
  generalize sI (mk G 17 0 4) (mz G) 1 (nW 0) = G2 at ez f1 s2 m1 z2 t2 F2 l2 q2
  obtain ⟨x, cr, xo, xb⟩ := s2.rng hne ⟨by omega, by omega⟩
  have ks2 := mk_ne (G := G2) (t := 2) (n := B.length) (w := B.length) (show mz G ≠ mz G2 by omega)
  have w1 : mt (mk G2 2 B.length B.length) (mz G2) = 2 := if_pos rfl
  have w2 : mn (mk G2 2 B.length B.length) (mz G2) = B.length := if_pos rfl
  have t3 : mt (wI (mk G2 2 B.length B.length) x) (mz G) = 17 := ks2.1.trans t2
  refine ⟨mz G, mz G2, sP (wI (mk G2 2 B.length B.length) x) (mz G) 0 (some (mz G2)), ?_, ⟨⟨t3, u2_same, ?_⟩, ⟨w1, w2⟩, fun i hi => ?_, h.2.2.2.2.1, by omega, by omega⟩, mk_frsh (t := 2) (n := B.length) (w := B.length) F2, ?_⟩
  · have ep : pR (wI (mk G2 2 B.length B.length) x) 17 (mz G) 0 (mz G2) = some (sP (wI (mk G2 2 B.length B.length) x) (mz G) 0 (some (mz G2))) := if_pos t3
    have gv : fJ5_getValue_6d5f1 o (mk G 17 0 4) = some (v, mk G 17 0 4) := by
      unfold fJ5_getValue_6d5f1 fJ5_getValue_6d5f1_0
      rw [s1.f0, Option.bind_some]
    have gl : fJ4_length_8abf5 o (mk G 17 0 4) = some (nW B.length, mk G 17 0 4) := by
      unfold fJ4_length_8abf5 fJ4_length_8abf5_0 fJ5_length_8abf5 fJ5_length_8abf5_0
      rw [show ck (mk G 17 0 4) 18 o _ = _ from if_pos s1.t, s1.f3, Option.bind_some, Option.bind_some]
    have la := s1.latin
    have ti : fJ0_init_db425 (mz G) o (mk G 17 0 4) = some ((), sP (wI (mk G2 2 B.length B.length) x) (mz G) 0 (some (mz G2))) := by
      have st := s1.t
      generalize sP (wI (mk G2 2 B.length B.length) x) (mz G) 0 (some (mz G2)) = Gf at ep ⊢
      generalize wI (mk G2 2 B.length B.length) x = Gc at ep cr
      generalize mk G 17 0 4 = Ga at gv gl la ez st ⊢
      unfold fJ0_init_db425 fJ0_init_db425_0 fJ0_init_db425_97
      rw [show ck Ga 18 o _ = _ from if_pos st, gv, Option.bind_some, show ck Ga 18 o _ = _ from if_pos st, gl, Option.bind_some, show ck Ga 18 o _ = _ from if_pos st, la, Option.bind_some, if_neg (show ¬ (nW 1, Ga).1 = (0 : Int32) from (by decide : ¬ nW 1 = (0 : Int32))), ez, Option.bind_some, cr, Option.bind_some, ep, Option.bind_some]
    unfold fJ4_toString_0e30d fJ4_toString_0e30d_0 fJ0_init_81219 fJ0_init_81219_0
    rw [e1, Option.bind_some, ti, Option.bind_some, Option.bind_some]
  · show x (mz G) 1 = _
    rw [xo _ (by omega)]; exact m1
  · exact xb i hi
  · have f3 := mk_frm (G := G2) (t := 2) (n := B.length) (w := B.length) (a := 266) (by omega)
    have f4 : Frm 266 1 B.length G2 (sP (wI (mk G2 2 B.length B.length) x) (mz G) 0 (some (mz G2))) := by
      refine ⟨f3.1, fun b hb => ?_⟩
      obtain ⟨x1, x2, x3, x4, x5⟩ := f3.2 b hb
      exact ⟨x1, x2, xo b (by omega), x4, (u2_arow (by omega)).trans x5⟩
    exact (f1.trans f4).weak (Nat.le_refl _) (by omega) (by omega)
