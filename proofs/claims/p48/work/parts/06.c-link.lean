/-! ===== links, which may get a longer row ===== -/
/-- nothing lies where no cell is -/
def Frsh (G : Mem) : Prop := ∀ b, mz G ≤ b → mt G b = 0
def SS (G : Mem) (a l K : Nat) : Prop := SSh G a l (250 * 2 ^ K) ∧ K ≤ 6 ∧ (l = a + 10 ∨ a + 21 ≤ l)
/-- room for the longer rows to come -/
def Rm (G : Mem) (K : Nat) : Prop := mz G + (6 - K) ≤ cC G ∧ ml G + 32000 ≤ cS G + 2 * (250 * 2 ^ K)
/-- what was there stays, but for the reference to the links of the state at a; what may have changed of the contents: 'ch' -/
def Gro (a : Nat) (ch : Nat → Prop) (G G' : Mem) (K K' : Nat) : Prop := (mz G ≤ mz G' ∧ mz G' + K ≤ mz G + K' ∧ ml G' + 2 * (250 * 2 ^ K) ≤ ml G + 2 * (250 * 2 ^ K') ∧ cC G' = cC G ∧ cS G' = cS G) ∧ (∀ b, b < mz G → mt G' b = mt G b ∧ mn G' b = mn G b ∧ ∀ k, ¬ (b = a ∧ k = 8) → mP G' b k = mP G b k) ∧ ∀ b, b < mz G → ¬ ch b → mI G' b = mI G b ∧ mJ G' b = mJ G b
theorem Gro.rfl' {a : Nat} {ch : Nat → Prop} {G : Mem} {K : Nat} : Gro a ch G G K K := ⟨⟨Nat.le_refl _, Nat.le_refl _, Nat.le_refl _, rfl, rfl⟩, fun _ _ => ⟨rfl, rfl, fun _ _ => rfl⟩, fun _ _ _ => ⟨rfl, rfl⟩⟩
theorem Gro.trans {a : Nat} {ch ch2 ch3 : Nat → Prop} {G G' G2 : Mem} {K K' K2 : Nat} (h : Gro a ch G G' K K') (h2 : Gro a ch2 G' G2 K' K2) (hc : ∀ b, ch b → ch3 b) (hc2 : ∀ b, b < mz G → ch2 b → ch3 b) : Gro a ch3 G G2 K K2 := by
  obtain ⟨⟨a1, a2, a3, a4, a5⟩, a6, a7⟩ := h
  obtain ⟨⟨b1, b2, b3, b4, b5⟩, b6, b7⟩ := h2
  refine ⟨⟨by omega, by omega, by omega, b4.trans a4, b5.trans a5⟩, fun b hb => ?_, fun b hb hn => ?_⟩
  · obtain ⟨p1, p2, p3⟩ := a6 b hb
    obtain ⟨q1, q2, q3⟩ := b6 b (by omega)
    exact ⟨q1.trans p1, q2.trans p2, fun k hk => (q3 k hk).trans (p3 k hk)⟩
  · obtain ⟨p1, p2⟩ := a7 b hb (fun q => hn (hc b q))
    obtain ⟨q1, q2⟩ := b7 b (by omega) (fun q => hn (hc2 b hb q))
    exact ⟨q1.trans p1, q2.trans p2⟩
theorem Gro.of_wij {a : Nat} {ch : Nat → Prop} {G : Mem} {K : Nat} {x : Nat → Nat → Int32} {y : Nat → Nat → Int64} (h : ∀ b, b < mz G → ¬ ch b → x b = mI G b ∧ y b = mJ G b) : Gro a ch G (wIJ G x y) K K := ⟨⟨Nat.le_refl _, Nat.le_refl _, Nat.le_refl _, rfl, rfl⟩, fun _ _ => ⟨rfl, rfl, fun _ _ => rfl⟩, h⟩
theorem Frsh.lt {G : Mem} (h : Frsh G) {b : Nat} (hb : mt G b ≠ 0) : b < mz G := by
  by_cases hl : b < mz G
  · exact hl
  · exact absurd (h b (by omega)) hb
theorem SSh.lts {G : Mem} {a l ln : Nat} (h : SSh G a l ln) (hF : Frsh G) : a + 20 < mz G ∧ l < mz G := ⟨by
  have := hF.lt (b := a + 11 + 9) (by rw [h.nk (by decide)]; decide); omega, hF.lt (by rw [h.lt]; decide)⟩
/-- another state's shape lives on -/
theorem SSh.grow {G G' : Mem} {a a2 l ln K K' : Nat} {ch : Nat → Prop} (h : SSh G a2 l ln) (hF : Frsh G) (hg : Gro a ch G G' K K') (hne : a2 ≠ a) (hfar : a2 + 4 ≠ a ∧ a2 + 1 ≠ a) : SSh G' a2 l ln := by
  obtain ⟨b1, b2⟩ := h.lts hF
  have k := fun b hb => (hg.2.1 b hb)
  have kt : ∀ b, b < mz G → mt G' b = mt G b := fun b hb => (k b hb).1
  have kn : ∀ b, b < mz G → mn G' b = mn G b := fun b hb => (k b hb).2.1
  have kp : ∀ b j, b < mz G → b ≠ a → mP G' b j = mP G b j := fun b j hb hn => (k b hb).2.2 j (fun q => hn q.1)
  obtain ⟨⟨h1, h2, h3, h4, h5, h6, h7, h8, h9⟩, ⟨c1, c2, c3, c4, c5, c6, c7⟩, ⟨d1, d2⟩, e, ⟨f1, f2⟩, ⟨g1, g2⟩, ⟨i1, i2⟩, ⟨j1, j2⟩, ⟨m1, m2⟩, ⟨n1, n2⟩, o⟩ := h
  refine ⟨⟨?_, ?_, ?_, ?_, ?_, ?_, ?_, ?_, ?_⟩, ⟨?_, ?_, ?_, ?_, ?_, ?_, ?_⟩, ⟨?_, ?_⟩, fun i hi => ⟨?_, ?_⟩, ⟨?_, ?_⟩, ⟨?_, ?_⟩, ⟨?_, ?_⟩, ⟨?_, ?_⟩, ⟨?_, ?_⟩, ⟨?_, ?_⟩, o⟩
  all_goals first | rw [kt _ (by omega)] | rw [kn _ (by omega)] | rw [kp _ _ (by omega) (by omega)]
  all_goals first | assumption | exact (e i hi).1 | exact (e i hi).2
section LINK
variable {G : Mem} {a l K : Nat}
theorem pw_mono {K K' : Nat} (h : K ≤ K') : 2 ^ K ≤ 2 ^ K' := Nat.pow_le_pow_right (by decide) h
theorem SS.len (h : SS G a l K) : 250 * 2 ^ K ≤ 16000 := h.1.lb
/-- one more link -/
theorem addLink_ok (h : SS G a l K) (hF : Frsh G) (hr : Rm G K) {i e : Nat} {lk : Int32} (hi : i < 10) (he : mI G (a + 9) (i + 1) = nW e) (he2 : e < 16000) (hle : e ≤ 250 * 2 ^ K) :
    ∃ G' l' K', fX3_addLink a (nW i) lk G = some ((), G') ∧ SS G' a l' K' ∧ Frsh G' ∧ Rm G' K' ∧ Gro a (fun b => b = l ∨ b = a + 9) G G' K K' ∧ (l' = l ∨ mz G ≤ l') ∧ e < 250 * 2 ^ K' ∧ mI G' (a + 9) = updF (mI G (a + 9)) (i + 1) (nW (e + 1)) ∧ (∀ j, j < e → mI G' l' j = mI G l j) ∧ mI G' l' e = lk := by
  obtain ⟨hS, hK6, hl⟩ := h
  obtain ⟨lt1, lt2⟩ := hS.lts hF
  have la9 : l ≠ a + 9 := by omega
  -- the end, with the links at l2 of a memory G2
  have tail : ∀ (G2 : Mem) (l2 K2 : Nat), SS G2 a l2 K2 → e < 250 * 2 ^ K2 → mI G2 (a + 9) (i + 1) = nW e → fX3_addLink_36 a (nW i) lk (nW e) G2 = some ((), wIJ G2 (u2 (u2 (mI G2) l2 e lk) (a + 9) (i + 1) (nW (e + 1))) (mJ G2)) := by
    intro G2 l2 K2 h2 hlt _
    obtain ⟨h2, -, -⟩ := h2
    unfold fX3_addLink_36
    have hg : gR G2 13 a 8 = some l2 := h2.g8
    rw [hg, Option.bind_some]
    have hw := h2.wl (x := mI G2) (y := mJ G2) (v := lk) hlt
    rw [wij_self] at hw
    rw [hw, Option.bind_some, gR_wij, h2.g7, Option.bind_some]
    simp only [lits, nW_add]
    rw [h2.w9 (by omega), Option.bind_some]
  have hr9 := hS.r9 (x := mI G) (y := mJ G) (i := i + 1) (by omega)
  rw [wij_self, he] at hr9
  unfold fX3_addLink fX3_addLink_0
  simp only [lits, nW_add]
  rw [hS.g7, Option.bind_some, hr9, Option.bind_some, hS.g8, Option.bind_some, hS.lenl, Option.bind_some]
  by_cases hlt : e < 250 * 2 ^ K
  · rw [if_pos (by rw [nW_lt (by omega) (by have := hS.lb; omega)]; exact hlt), tail G l K ⟨hS, hK6, hl⟩ hlt he]
    refine ⟨_, l, K, rfl, ⟨hS, hK6, hl⟩, hF, hr, Gro.of_wij (fun b hb hn => ⟨?_, rfl⟩), Or.inl rfl, hlt, ?_, fun j hj => ?_, ?_⟩
    · rw [u2_arow (fun q => hn (Or.inr q)), u2_arow (fun q => hn (Or.inl q))]
    · show u2 (u2 (mI G) l e lk) (a + 9) (i + 1) (nW (e + 1)) (a + 9) = _
      rw [u2_eq]
      funext j
      unfold updF
      by_cases hj : j = i + 1
      · rw [if_pos hj, if_pos hj]
      · rw [if_neg hj, if_neg hj, u2_arow (by omega)]
    · show u2 (u2 (mI G) l e lk) (a + 9) (i + 1) (nW (e + 1)) l j = _
      rw [u2_apart la9, u2_other (by omega)]
    · show u2 (u2 (mI G) l e lk) (a + 9) (i + 1) (nW (e + 1)) l e = _
      rw [u2_apart la9, u2_same]
  · have eK : e = 250 * 2 ^ K := by omega
    have hK5 : K < 6 := by
      by_cases hk : K < 6
      · exact hk
      · have : K = 6 := by omega
        rw [this] at eK; omega
    have pK : 2 ^ (K + 1) = 2 * 2 ^ K := by rw [Nat.pow_succ, Nat.mul_comm]
    have p6 : 2 ^ (K + 1) ≤ 2 ^ 6 := pw_mono (by omega)
    have p6' : (2 : Nat) ^ 6 = 64 := by decide
    have p0 : 0 < 2 ^ K := Nat.two_pow_pos K
    obtain ⟨hr1, hr2⟩ := hr
    have nn : 250 * 2 ^ (K + 1) ≤ 16000 := by omega
    rw [if_neg (by rw [nW_lt (by omega) (by have := hS.lb; omega)]; exact hlt), Option.bind_some, Option.bind_some, hS.lenl, Option.bind_some]
    -- the new row
    have hnew : nA G 1 (nW (250 * 2 ^ (K + 1))) = some (mz G, mk G 1 (250 * 2 ^ (K + 1)) (250 * 2 ^ (K + 1))) := by
      unfold nA
      rw [nW_int (by omega), nW_clamp (by omega), if_pos ⟨⟨by omega, by omega⟩, by omega, by omega⟩]
    have hcopy : ∃ G5, fJ7_copyOf_59c91 l (nW 2 * nW (250 * 2 ^ K)) G = some (mz G, G5) ∧ G5 = wIJ (mk G 1 (250 * 2 ^ (K + 1)) (250 * 2 ^ (K + 1))) (ur (ur (mI G) (mz G) (fun _ => 0)) (mz G) (va_cpy (mI G l) (fun _ => 0) 0 0 (250 * 2 ^ K))) (ur (mJ G) (mz G) (fun _ => 0)) := by
      refine ⟨_, ?_, rfl⟩
      unfold fJ7_copyOf_59c91 fJ7_copyOf_59c91_0
      have eq2 : nW 2 * nW (250 * 2 ^ K) = nW (250 * 2 ^ (K + 1)) := by rw [nW_mul]; congr 1; omega
      rw [eq2, hS.lenl, Option.bind_some, if_neg (by rw [nW_eq (by omega) (by omega)]; omega), hnew, Option.bind_some]
      have hgl : gL (mk G 1 (250 * 2 ^ (K + 1)) (250 * 2 ^ (K + 1))) l = some (nW (250 * 2 ^ K)) := by
        have e1 : mt (mk G 1 (250 * 2 ^ (K + 1)) (250 * 2 ^ (K + 1))) l = 1 := by
          show (if l = mz G then 1 else mt G l) = 1
          rw [if_neg (by omega)]; exact hS.lt
        have e2 : mn (mk G 1 (250 * 2 ^ (K + 1)) (250 * 2 ^ (K + 1))) l = 250 * 2 ^ K := by
          show (if l = mz G then _ else mn G l) = _
          rw [if_neg (by omega)]; exact hS.ll
        rw [gL_ok (Or.inl e1), e2]
      show ((gL (mk G 1 (250 * 2 ^ (K + 1)) (250 * 2 ^ (K + 1))) l).bind _) = _
      rw [hgl, Option.bind_some, if_neg (by rw [nW_lt (by omega) (by omega)]; omega)]
      simp only [lits]
      have hc := cpI_wij (G := mk G 1 (250 * 2 ^ (K + 1)) (250 * 2 ^ (K + 1))) (x := mI (mk G 1 (250 * 2 ^ (K + 1)) (250 * 2 ^ (K + 1)))) (y := mJ (mk G 1 (250 * 2 ^ (K + 1)) (250 * 2 ^ (K + 1)))) (a := l) (b := mz G) (p := 0) (q := 0) (n := 250 * 2 ^ K)
        (by show (if l = mz G then 1 else mt G l) = 1; rw [if_neg (by omega)]; exact hS.lt) (by show (if mz G = mz G then 1 else _) = 1; rw [if_pos rfl])
        (by show 0 + 250 * 2 ^ K ≤ (if l = mz G then _ else mn G l); rw [if_neg (by omega), hS.ll]; omega) (by show 0 + 250 * 2 ^ K ≤ (if mz G = mz G then _ else _); rw [if_pos rfl]; omega) (by omega)
      rw [wij_self] at hc
      rw [hc, Option.bind_some]
      have ex : ur (mI (mk G 1 (250 * 2 ^ (K + 1)) (250 * 2 ^ (K + 1)))) (mz G) (va_cpy (mI (mk G 1 (250 * 2 ^ (K + 1)) (250 * 2 ^ (K + 1))) l) (mI (mk G 1 (250 * 2 ^ (K + 1)) (250 * 2 ^ (K + 1))) (mz G)) 0 0 (250 * 2 ^ K)) = ur (ur (mI G) (mz G) (fun _ => 0)) (mz G) (va_cpy (mI G l) (fun _ => 0) 0 0 (250 * 2 ^ K)) := by
        show ur (ur (mI G) (mz G) (fun _ => 0)) (mz G) (va_cpy (ur (mI G) (mz G) (fun _ => 0) l) (ur (mI G) (mz G) (fun _ => 0) (mz G)) 0 0 (250 * 2 ^ K)) = _
        rw [ur_arow (by omega), ur_row]
      rw [ex]
      rfl
    obtain ⟨G5, hc1, hc2⟩ := hcopy
    rw [hc1, Option.bind_some]
    have t5 : mt G5 a = 13 := by
      rw [hc2]
      show (if a = mz G then 1 else mt G a) = 13
      rw [if_neg (by omega)]; exact hS.t
    have hpR : pR G5 13 a 8 (mz G) = some (sP G5 a 8 (some (mz G))) := by
      unfold pR; rw [if_pos t5]
    rw [hpR, Option.bind_some]
    have hSS : SS (sP G5 a 8 (some (mz G))) a (mz G) (K + 1) := by
      refine ⟨?_, by omega, Or.inr (by omega)⟩
      have kt : ∀ b, b < mz G → mt (sP G5 a 8 (some (mz G))) b = mt G b := fun b hb => by
        rw [hc2]; show (if b = mz G then 1 else mt G b) = _; rw [if_neg (by omega)]
      have kn : ∀ b, b < mz G → mn (sP G5 a 8 (some (mz G))) b = mn G b := fun b hb => by
        rw [hc2]; show (if b = mz G then _ else mn G b) = _; rw [if_neg (by omega)]
      have kp : ∀ b j, b < mz G → ¬ (b = a ∧ j = 8) → mP (sP G5 a 8 (some (mz G))) b j = mP G b j := fun b j hb hn => by
        rw [hc2]
        show (if b = a ∧ j = 8 then _ else (if b = mz G then none else mP G b j)) = _
        rw [if_neg hn, if_neg (by omega)]
      obtain ⟨⟨h1, h2, h3, h4, h5, h6, h7, h8, h9⟩, ⟨c1, c2, c3, c4, c5, c6, c7⟩, ⟨d1, d2⟩, e3, ⟨f1, f2⟩, ⟨g1, g2⟩, ⟨i1, i2⟩, ⟨j1, j2⟩, ⟨m1, m2⟩, ⟨n1, n2⟩, o⟩ := hS
      refine ⟨⟨?_, ?_, ?_, ?_, ?_, ?_, ?_, ?_, ?_⟩, ⟨?_, ?_, ?_, ?_, ?_, ?_, ?_⟩, ⟨?_, ?_⟩, fun i hi => ⟨?_, ?_⟩, ⟨?_, ?_⟩, ⟨?_, ?_⟩, ⟨?_, ?_⟩, ⟨?_, ?_⟩, ⟨?_, ?_⟩, ⟨?_, ?_⟩, nn⟩
      case _ => rw [kt _ (by omega)]; exact h1
      case _ => rw [kp _ _ (by omega) (by omega)]; exact h2
      case _ => rw [kp _ _ (by omega) (by omega)]; exact h3
      case _ => rw [kp _ _ (by omega) (by omega)]; exact h4
      case _ => rw [kp _ _ (by omega) (by omega)]; exact h5
      case _ => rw [kp _ _ (by omega) (by omega)]; exact h6
      case _ => rw [kp _ _ (by omega) (by omega)]; exact h7
      case _ => rw [kp _ _ (by omega) (by omega)]; exact h8
      case _ => exact u2_same
      case _ => rw [kt _ (by omega)]; exact c1
      case _ => rw [kp _ _ (by omega) (by omega)]; exact c2
      case _ => rw [kp _ _ (by omega) (by omega)]; exact c3
      case _ => rw [kt _ (by omega)]; exact c4
      case _ => rw [kn _ (by omega)]; exact c5
      case _ => rw [kt _ (by omega)]; exact c6
      case _ => rw [kn _ (by omega)]; exact c7
      case _ => rw [kt _ (by omega)]; exact d1
      case _ => rw [kn _ (by omega)]; exact d2
      case _ => rw [kp _ _ (by omega) (by omega)]; exact (e3 i hi).1
      case _ => rw [kt _ (by omega)]; exact (e3 i hi).2
      case _ => rw [kt _ (by omega)]; exact f1
      case _ => rw [kn _ (by omega)]; exact f2
      case _ => rw [kt _ (by omega)]; exact g1
      case _ => rw [kn _ (by omega)]; exact g2
      case _ => rw [kt _ (by omega)]; exact i1
      case _ => rw [kn _ (by omega)]; exact i2
      case _ => rw [kt _ (by omega)]; exact j1
      case _ => rw [kn _ (by omega)]; exact j2
      case _ => rw [kt _ (by omega)]; exact m1
      case _ => rw [kn _ (by omega)]; exact m2
      case _ => rw [hc2]; show (if mz G = mz G then 1 else _) = 1; rw [if_pos rfl]
      case _ => rw [hc2]; show (if mz G = mz G then _ else _) = _; rw [if_pos rfl]
    have hI6 : mI (sP G5 a 8 (some (mz G))) = ur (ur (mI G) (mz G) (fun _ => 0)) (mz G) (va_cpy (mI G l) (fun _ => 0) 0 0 (250 * 2 ^ K)) := by rw [hc2]; rfl
    have hJ6 : mJ (sP G5 a 8 (some (mz G))) = ur (mJ G) (mz G) (fun _ => 0) := by rw [hc2]; rfl
    rw [tail (sP G5 a 8 (some (mz G))) (mz G) (K + 1) hSS (by omega) (by rw [hI6, ur_apart (by omega), ur_apart (by omega)]; exact he)]
    have kz : mz (sP G5 a 8 (some (mz G))) = mz G + 1 := by rw [hc2]; rfl
    have kl : ml (sP G5 a 8 (some (mz G))) = ml G + 250 * 2 ^ (K + 1) := by rw [hc2]; rfl
    have kC : cC (sP G5 a 8 (some (mz G))) = cC G := by rw [hc2]; rfl
    have kS : cS (sP G5 a 8 (some (mz G))) = cS G := by rw [hc2]; rfl
    refine ⟨_, mz G, K + 1, rfl, hSS, ?_, ⟨?_, ?_⟩, ⟨⟨?_, ?_, ?_, kC, kS⟩, fun b hb => ⟨?_, ?_, fun k hk => ?_⟩, fun b hb hn => ⟨?_, ?_⟩⟩, Or.inr (Nat.le_refl _), by omega, ?_, fun j hj => ?_, ?_⟩
    · intro b hb
      have hb : mz (sP G5 a 8 (some (mz G))) ≤ b := hb
      rw [kz] at hb
      show mt (sP G5 a 8 (some (mz G))) b = 0
      rw [hc2]
      show (if b = mz G then 1 else mt G b) = 0
      rw [if_neg (by omega)]; exact hF b (by omega)
    · show mz (sP G5 a 8 (some (mz G))) + _ ≤ cC (sP G5 a 8 (some (mz G)))
      rw [kz, kC]; omega
    · show ml (sP G5 a 8 (some (mz G))) + _ ≤ cS (sP G5 a 8 (some (mz G))) + _
      rw [kl, kS]; omega
    · show mz G ≤ mz (sP G5 a 8 (some (mz G))); omega
    · show mz (sP G5 a 8 (some (mz G))) + K ≤ _; omega
    · show ml (sP G5 a 8 (some (mz G))) + _ ≤ _; rw [kl]; omega
    · show mt (sP G5 a 8 (some (mz G))) b = _
      rw [hc2]; show (if b = mz G then 1 else mt G b) = _; rw [if_neg (by omega)]
    · show mn (sP G5 a 8 (some (mz G))) b = _
      rw [hc2]; show (if b = mz G then _ else mn G b) = _; rw [if_neg (by omega)]
    · show mP (sP G5 a 8 (some (mz G))) b k = _
      rw [hc2]
      show (if b = a ∧ k = 8 then _ else (if b = mz G then none else mP G b k)) = _
      rw [if_neg hk, if_neg (by omega)]
    · show u2 (u2 (mI (sP G5 a 8 (some (mz G)))) (mz G) e lk) (a + 9) (i + 1) (nW (e + 1)) b = _
      rw [u2_arow (fun q => hn (Or.inr q)), u2_arow (by omega), hI6, ur_arow (by omega), ur_arow (by omega)]
    · show mJ (sP G5 a 8 (some (mz G))) b = _
      rw [hJ6, ur_arow (by omega)]
    · show u2 (u2 (mI (sP G5 a 8 (some (mz G)))) (mz G) e lk) (a + 9) (i + 1) (nW (e + 1)) (a + 9) = _
      rw [u2_eq]
      funext j
      unfold updF
      by_cases hj : j = i + 1
      · rw [if_pos hj, if_pos hj]
      · rw [if_neg hj, if_neg hj, u2_arow (by omega), hI6, ur_arow (by omega), ur_arow (by omega)]
    · show u2 (u2 (mI (sP G5 a 8 (some (mz G)))) (mz G) e lk) (a + 9) (i + 1) (nW (e + 1)) (mz G) j = _
      rw [u2_apart (by omega), u2_other (by omega), hI6, ur_same, cpy_in (Nat.zero_le _) (by omega)]
      congr 1; omega
    · show u2 (u2 (mI (sP G5 a 8 (some (mz G)))) (mz G) e lk) (a + 9) (i + 1) (nW (e + 1)) (mz G) e = _
      rw [u2_apart (by omega), u2_same]
end LINK
