/-! ===== copies of notes and of states ===== -/
/-- the cells of a state -/
def CHa (a l b : Nat) : Prop := (a ≤ b ∧ b < a + 21) ∨ b = l
theorem CHf.cha {a l b : Nat} (h : CHf a l b) : CHa a l b := by
  unfold CHf CHs at h
  unfold CHa
  omega
/-- two states that share nothing -/
def Dis (a l a2 l2 : Nat) : Prop := (a + 21 ≤ a2 ∨ a2 + 21 ≤ a) ∧ (l2 < a ∨ a + 21 ≤ l2) ∧ (l < a2 ∨ a2 + 21 ≤ l) ∧ l ≠ l2
theorem Dis.symm {a l a2 l2 : Nat} (h : Dis a l a2 l2) : Dis a2 l2 a l := ⟨h.1.symm, h.2.2.1, h.2.1, fun e => h.2.2.2 e.symm⟩
theorem Dis.not {a l a2 l2 b : Nat} (h : Dis a l a2 l2) (hb : CHa a2 l2 b) : ¬ CHa a l b := by
  obtain ⟨h1, h2, h3, h4⟩ := h
  unfold CHa at *
  omega
def ncp (x : Nat → Nat → Int32) (d s : Nat) : Nat → Nat → Int32 := fun b j => if b = d ∧ j < 7 then x s j else x b j
section COPY
variable {G : Mem} {a l K a2 l2 K2 : Nat} {x : Nat → Nat → Int32} {y : Nat → Nat → Int64}
theorem noteCopy_ok {d s : Nat} (hd : mt G d = 11) (hs : mt G s = 11) (hne : s ≠ d) (h5 : x s 5 = 0 ∨ x s 5 = 1) (h6 : x s 6 = 0 ∨ x s 6 = 1) : fX1_copyFrom d s (wIJ G x y) = some ((), wIJ G (ncp x d s) y) := by
  unfold fX1_copyFrom fX1_copyFrom_0
  rw [gF_wij hs, Option.bind_some, pI_wij hd, Option.bind_some, gF_wij hs, Option.bind_some, pI_wij hd, Option.bind_some, gF_wij hs, Option.bind_some, pI_wij hd, Option.bind_some, gF_wij hs, Option.bind_some, pI_wij hd, Option.bind_some, gF_wij hs, Option.bind_some, pI_wij hd, Option.bind_some, gF_wij hs, Option.bind_some]
  simp only [u2_arow hne]
  rw [pZ_wij hd h5, Option.bind_some, gF_wij hs, Option.bind_some]
  simp only [u2_arow hne]
  rw [pZ_wij hd h6, Option.bind_some]
  congr 3
  funext b j
  unfold ncp
  by_cases hb : b = d
  · subst hb
    by_cases hj : j < 7
    · rw [if_pos ⟨rfl, hj⟩]
      have : j = 0 ∨ j = 1 ∨ j = 2 ∨ j = 3 ∨ j = 4 ∨ j = 5 ∨ j = 6 := by omega
      rcases this with e | e | e | e | e | e | e <;> subst e <;> simp [u2]
    · rw [if_neg (fun q => hj q.2)]
      rw [u2_other (by omega), u2_other (by omega), u2_other (by omega), u2_other (by omega), u2_other (by omega), u2_other (by omega), u2_other (by omega)]
  · rw [if_neg (fun q => hb q.1), u2_apart hb, u2_apart hb, u2_apart hb, u2_apart hb, u2_apart hb, u2_apart hb, u2_apart hb]
theorem SS.relink {G' : Mem} {l' K' : Nat} (h : SS G a l K) (hF : Frsh G) (kt : ∀ b, b < mz G → mt G' b = mt G b) (kn : ∀ b, b < mz G → mn G' b = mn G b) (kp : ∀ b j, a ≤ b → b < a + 21 → ¬ (b = a ∧ j = 8) → mP G' b j = mP G b j) (h8 : mP G' a 8 = some l') (hl : mt G' l' = 1 ∧ mn G' l' = 250 * 2 ^ K') (hK : K' ≤ 6) (hl2 : l' = a + 10 ∨ a + 21 ≤ l') : SS G' a l' K' := by
  obtain ⟨hS, -, -⟩ := h
  obtain ⟨lt1, lt2⟩ := hS.lts hF
  have p6 : 2 ^ K' ≤ 2 ^ 6 := pw_mono hK
  have p6' : (2 : Nat) ^ 6 = 64 := by decide
  obtain ⟨⟨h1, h2, h3, h4, h5, h6, h7, h8', h9⟩, ⟨c1, c2, c3, c4, c5, c6, c7⟩, ⟨d1, d2⟩, e3, ⟨f1, f2⟩, ⟨g1, g2⟩, ⟨i1, i2⟩, ⟨j1, j2⟩, ⟨m1, m2⟩, ⟨n1, n2⟩, o⟩ := hS
  refine ⟨⟨⟨?_, ?_, ?_, ?_, ?_, ?_, ?_, ?_, h8⟩, ⟨?_, ?_, ?_, ?_, ?_, ?_, ?_⟩, ⟨?_, ?_⟩, fun i hi => ⟨?_, ?_⟩, ⟨?_, ?_⟩, ⟨?_, ?_⟩, ⟨?_, ?_⟩, ⟨?_, ?_⟩, ⟨?_, ?_⟩, hl, by omega⟩, hK, hl2⟩
  all_goals first | rw [kt _ (by omega)] | rw [kn _ (by omega)] | rw [kp _ _ (by omega) (by omega) (by omega)]
  all_goals first | assumption | exact (e3 i hi).1 | exact (e3 i hi).2
/-- the rows of the layers and links -/
theorem copy60_ok (h : SS G a l K) (h2 : SS G a2 l2 K2) (hD : Dis a l a2 l2) (hF : Frsh G) (hr : Rm G K) {m M : Nat} (hm : m ≤ 10) (hxm : x a 1 = nW m) (hM : M ≤ 250 * 2 ^ K2) (hx9 : x (a2 + 9) m = nW M) :
    ∃ G' l' K', fX3_copyFrom_60 a a2 (wIJ G x y) = some ((), G') ∧ SS G' a l' K' ∧ Frsh G' ∧ Rm G' K' ∧ Gro a (CHa a l) (wIJ G x y) G' K K' ∧ (l' = l ∨ mz G ≤ l') ∧ M ≤ 250 * 2 ^ K' ∧
      (∀ j, j ≤ m → mI G' (a + 5) j = x (a2 + 5) j) ∧ (∀ k, k < (m + 1) * 40 → mJ G' (a + 6) k = y (a2 + 6) k) ∧ (∀ k, k < (m + 1) * 120 → mJ G' (a + 7) k = y (a2 + 7) k) ∧ (∀ j, j ≤ m → mI G' (a + 9) j = x (a2 + 9) j) ∧ (∀ j, j < M → mI G' l' j = x l2 j) ∧
      ∀ b, b < mz G → b ≠ a + 5 → b ≠ a + 9 → b ≠ l → mI G' b = x b := by
  have hS := h.1
  have hS2 := h2.1
  obtain ⟨lt1, lt2⟩ := hS.lts hF
  obtain ⟨lt3, lt4⟩ := hS2.lts hF
  have hlp := h.2.2
  have hlp2 := h2.2.2
  obtain ⟨D1, D2, D3, D4⟩ := hD
  have hb2 := h2.len
  have hb := h.len
  generalize hx1 : ur (ur x (a + 5) (va_cpy (x (a2 + 5)) (x (a + 5)) 0 0 (m + 1))) (a + 9) (va_cpy (x (a2 + 9)) (x (a + 9)) 0 0 (m + 1)) = x1
  generalize hy1 : ur (ur y (a + 6) (va_cpy (y (a2 + 6)) (y (a + 6)) 0 0 ((m + 1) * 40))) (a + 7) (va_cpy (y (a2 + 7)) (y (a + 7)) 0 0 ((m + 1) * 40 * 3)) = y1
  have xo : ∀ b, b ≠ a + 5 → b ≠ a + 9 → x1 b = x b := fun b q1 q2 => by rw [← hx1, ur_arow q2, ur_arow q1]
  have yo : ∀ b, b ≠ a + 6 → b ≠ a + 7 → y1 b = y b := fun b q1 q2 => by rw [← hy1, ur_arow q2, ur_arow q1]
  have x5 : ∀ j, j ≤ m → x1 (a + 5) j = x (a2 + 5) j := fun j hj => by rw [← hx1, ur_apart (by omega), ur_same, cpy_in (Nat.zero_le _) (by omega)]; congr 1; omega
  have x9 : ∀ j, j ≤ m → x1 (a + 9) j = x (a2 + 9) j := fun j hj => by rw [← hx1, ur_same, cpy_in (Nat.zero_le _) (by omega)]; congr 1; omega
  have y6 : ∀ k, k < (m + 1) * 40 → y1 (a + 6) k = y (a2 + 6) k := fun k hk => by rw [← hy1, ur_apart (by omega), ur_same, cpy_in (Nat.zero_le _) (by omega)]; congr 1; omega
  have y7 : ∀ k, k < (m + 1) * 120 → y1 (a + 7) k = y (a2 + 7) k := fun k hk => by rw [← hy1, ur_same, cpy_in (Nat.zero_le _) (by omega)]; congr 1; omega
  have s5 := hS.2.2.2.2.1
  have s6 := hS.2.2.2.2.2.1
  have s7 := hS.2.2.2.2.2.2.1
  have s9 := hS.2.2.2.2.2.2.2.2.1
  have t5 := hS2.2.2.2.2.1
  have t6 := hS2.2.2.2.2.2.1
  have t7 := hS2.2.2.2.2.2.2.1
  have t9 := hS2.2.2.2.2.2.2.2.2.1
  have head : fX3_copyFrom_60 a a2 (wIJ G x y) = if M ≤ 250 * 2 ^ K then fX3_copyFrom_159 a a2 (wIJ G x1 y1) else ((nA (wIJ G x1 y1) 1 (nW (250 * 2 ^ K2))).bind fun q22 => (pR q22.2 13 a 8 q22.1).bind fun G23 => fX3_copyFrom_159 a a2 G23) := by
    unfold fX3_copyFrom_60
    simp only [lits]
    rw [gF_wij hS.t, Option.bind_some, gR_wij, hS2.g3, Option.bind_some, gR_wij, hS.g3, Option.bind_some, hxm, nW_add, cpI_wij t5.1 s5.1 (by rw [t5.2]; omega) (by rw [s5.2]; omega) (by omega), Option.bind_some]
    rw [gR_wij, hS2.g4, Option.bind_some, gR_wij, hS.g4, Option.bind_some, nW_mul, cpJ_wij t6.1 s6.1 (by rw [t6.2]; omega) (by rw [s6.2]; omega) (by omega), Option.bind_some]
    rw [gR_wij, hS2.g5, Option.bind_some, gR_wij, hS.g5, Option.bind_some, nW_mul, cpJ_wij t7.1 s7.1 (by rw [t7.2]; omega) (by rw [s7.2]; omega) (by omega), Option.bind_some]
    rw [ur_arow (a := a + 6) (b := a2 + 7) (by omega), ur_arow (a := a + 6) (b := a + 7) (by omega), hy1]
    rw [gR_wij, hS2.g7, Option.bind_some, gR_wij, hS.g7, Option.bind_some, cpI_wij t9.1 s9.1 (by rw [t9.2]; omega) (by rw [s9.2]; omega) (by omega), Option.bind_some]
    rw [ur_arow (a := a + 5) (b := a2 + 9) (by omega), ur_arow (a := a + 5) (b := a + 9) (by omega), hx1]
    rw [gR_wij, hS.g8, Option.bind_some, gL_wij, hS.lenl, Option.bind_some, gR_wij, hS.g7, Option.bind_some, gF_wij hS.t, xo a (by omega) (by omega), hxm, Option.bind_some, hS.r9 (by omega), x9 m (Nat.le_refl _), hx9, Option.bind_some]
    rw [gR_wij, hS2.g8, Option.bind_some, gL_wij, hS2.lenl, Option.bind_some]
    by_cases hc : M ≤ 250 * 2 ^ K
    · rw [if_pos hc, if_pos (by rw [nW_le (by omega) (by omega)]; exact hc)]
    · rw [if_neg hc, if_neg (by rw [nW_le (by omega) (by omega)]; exact hc)]
  -- the end: the links
  have tail : ∀ (G3 : Mem) (l3 K3 : Nat), SS G3 a l3 K3 → SS G3 a2 l2 K2 → mI G3 a 1 = nW m → mI G3 (a + 9) m = nW M → M ≤ 250 * 2 ^ K3 → fX3_copyFrom_159 a a2 G3 = some ((), wIJ G3 (ur (mI G3) l3 (va_cpy (mI G3 l2) (mI G3 l3) 0 0 M)) (mJ G3)) := by
    intro G3 l3 K3 q1 q2 q3 q4 q5
    have q6 := q1.len
    unfold fX3_copyFrom_159
    simp only [lits]
    have f1 : gF G3 13 a 1 = some (nW m) := by
      have := gF_wij (x := mI G3) (y := mJ G3) q1.1.t (k := 1)
      rw [wij_self, q3] at this
      exact this
    have f2 : gA G3 1 (a + 9) (nW m) = some (nW M) := by
      have := q1.1.r9 (x := mI G3) (y := mJ G3) (i := m) (by omega)
      rw [wij_self, q4] at this
      exact this
    rw [q2.1.g8, Option.bind_some, q1.1.g8, Option.bind_some, q1.1.g7, Option.bind_some, f1, Option.bind_some, f2, Option.bind_some]
    have := cpI_wij (G := G3) (x := mI G3) (y := mJ G3) (a := l2) (b := l3) (p := 0) (q := 0) (n := M) q2.1.lt q1.1.lt (by rw [q2.1.ll]; omega) (by rw [q1.1.ll]; omega) (by omega)
    rw [wij_self] at this
    rw [this]; rfl
  rw [head]
  by_cases hc : M ≤ 250 * 2 ^ K
  · rw [if_pos hc, tail (wIJ G x1 y1) l K h h2 (by show x1 a 1 = _; rw [xo _ (by omega) (by omega)]; exact hxm) (by show x1 (a + 9) m = _; rw [x9 m (Nat.le_refl _)]; exact hx9) hc]
    have rI : ∀ b, b ≠ l → mI (wIJ (wIJ G x1 y1) (ur (mI (wIJ G x1 y1)) l (va_cpy (mI (wIJ G x1 y1) l2) (mI (wIJ G x1 y1) l) 0 0 M)) (mJ (wIJ G x1 y1))) b = x1 b := fun b hb => ur_arow hb
    refine ⟨_, l, K, rfl, h, hF, hr, Gro.of_wij (G := wIJ G x y) (fun b _ hn => ⟨?_, ?_⟩), Or.inl rfl, hc, fun j hj => ?_, y6, y7, fun j hj => ?_, fun j hj => ?_, fun b _ q1 q2 q3 => ?_⟩
    · show ur x1 l _ b = x b
      unfold CHa at hn
      rw [ur_arow (by omega), xo b (by omega) (by omega)]
    · show y1 b = y b
      unfold CHa at hn
      exact yo b (by omega) (by omega)
    · rw [rI _ (by omega)]; exact x5 j hj
    · rw [rI _ (by omega)]; exact x9 j hj
    · show ur x1 l (va_cpy (x1 l2) (x1 l) 0 0 M) l j = _
      rw [ur_same, cpy_in (Nat.zero_le _) (by omega), xo l2 (by omega) (by omega)]
      congr 1; omega
    · rw [rI b q3]; exact xo b q1 q2
  · rw [if_neg hc]
    have hKK : K < K2 := by
      by_cases hk : K < K2
      · exact hk
      · have : 2 ^ K2 ≤ 2 ^ K := pw_mono (by omega)
        omega
    have hK6 := h2.2.1
    have pd : 2 * 2 ^ K ≤ 2 ^ K2 := by
      have : 2 ^ (K + 1) ≤ 2 ^ K2 := pw_mono hKK
      rw [Nat.pow_succ] at this; omega
    obtain ⟨hr1, hr2⟩ := hr
    have hnew : nA (wIJ G x1 y1) 1 (nW (250 * 2 ^ K2)) = some (mz G, mk (wIJ G x1 y1) 1 (250 * 2 ^ K2) (250 * 2 ^ K2)) := by
      unfold nA
      rw [nW_int (by omega), nW_clamp (by omega), if_pos ⟨⟨by omega, by omega⟩, by show mz G + 1 ≤ cC G; omega, by show ml G + _ ≤ cS G; omega⟩]
      rfl
    rw [hnew, Option.bind_some]
    have t5' : mt (mk (wIJ G x1 y1) 1 (250 * 2 ^ K2) (250 * 2 ^ K2)) a = 13 := by
      show (if a = mz G then 1 else mt G a) = 13
      rw [if_neg (by omega)]; exact hS.t
    have hpR : pR (mk (wIJ G x1 y1) 1 (250 * 2 ^ K2) (250 * 2 ^ K2)) 13 a 8 (mz G) = some (sP (mk (wIJ G x1 y1) 1 (250 * 2 ^ K2) (250 * 2 ^ K2)) a 8 (some (mz G))) := by
      unfold pR; rw [if_pos t5']
    rw [hpR, Option.bind_some]
    generalize hG3 : sP (mk (wIJ G x1 y1) 1 (250 * 2 ^ K2) (250 * 2 ^ K2)) a 8 (some (mz G)) = G3
    have kt : ∀ b, mt G3 b = if b = mz G then 1 else mt G b := fun b => by rw [← hG3]; rfl
    have kn : ∀ b, mn G3 b = if b = mz G then 250 * 2 ^ K2 else mn G b := fun b => by rw [← hG3]; rfl
    have kp : ∀ b j, mP G3 b j = if b = a ∧ j = 8 then some (mz G) else if b = mz G then none else mP G b j := fun b j => by rw [← hG3]; rfl
    have kI : mI G3 = ur x1 (mz G) (fun _ => 0) := by rw [← hG3]; rfl
    have kJ : mJ G3 = ur y1 (mz G) (fun _ => 0) := by rw [← hG3]; rfl
    have kz : mz G3 = mz G + 1 := by rw [← hG3]; rfl
    have kl : ml G3 = ml G + 250 * 2 ^ K2 := by rw [← hG3]; rfl
    have kC : cC G3 = cC G := by rw [← hG3]; rfl
    have kS : cS G3 = cS G := by rw [← hG3]; rfl
    have n1 : SS G3 a (mz G) K2 := h.relink hF (fun b hb => by rw [kt, if_neg (by omega)]) (fun b hb => by rw [kn, if_neg (by omega)]) (fun b j hb hb' hn => by rw [kp, if_neg hn, if_neg (by omega)]) (by rw [kp, if_pos ⟨rfl, rfl⟩]) ⟨by rw [kt, if_pos rfl], by rw [kn, if_pos rfl]⟩ hK6 (Or.inr (by omega))
    have n2 : SS G3 a2 l2 K2 := h2.relink hF (fun b hb => by rw [kt, if_neg (by omega)]) (fun b hb => by rw [kn, if_neg (by omega)]) (fun b j hb hb' hn => by rw [kp, if_neg (by omega), if_neg (by omega)]) (by rw [kp, if_neg (by omega), if_neg (by omega)]; exact hS2.1.2.2.2.2.2.2.2.2) ⟨by rw [kt, if_neg (by omega)]; exact hS2.lt, by rw [kn, if_neg (by omega)]; exact hS2.ll⟩ hK6 hlp2
    have gI : ∀ b, b ≠ mz G → mI G3 b = x1 b := fun b hb => by rw [kI, ur_arow hb]
    rw [tail G3 (mz G) K2 n1 n2 (by rw [gI _ (by omega), xo _ (by omega) (by omega)]; exact hxm) (by rw [gI _ (by omega), x9 m (Nat.le_refl _)]; exact hx9) hM]
    have rI : ∀ b, b ≠ mz G → mI (wIJ G3 (ur (mI G3) (mz G) (va_cpy (mI G3 l2) (mI G3 (mz G)) 0 0 M)) (mJ G3)) b = x1 b := fun b hb => by
      show ur _ _ _ b = _
      rw [ur_arow hb]; exact gI b hb
    refine ⟨_, mz G, K2, rfl, n1, ?_, ⟨?_, ?_⟩, ⟨⟨?_, ?_, ?_, kC, kS⟩, fun b hb => ⟨?_, ?_, fun k hk => ?_⟩, fun b hb hn => ⟨?_, ?_⟩⟩, Or.inr (Nat.le_refl _), hM, fun j hj => ?_, fun k hk => ?_, fun k hk => ?_, fun j hj => ?_, fun j hj => ?_, fun b hb q1 q2 q3 => ?_⟩
    · intro b hb
      have hb : mz G3 ≤ b := hb
      show mt G3 b = 0
      rw [kt, if_neg (by omega)]; exact hF b (by omega)
    · show mz G3 + _ ≤ cC G3; rw [kz, kC]; omega
    · show ml G3 + _ ≤ cS G3 + _; rw [kl, kS]; omega
    · show mz G ≤ mz G3; omega
    · show mz G3 + K ≤ mz G + K2; omega
    · show ml G3 + _ ≤ ml G + _; rw [kl]; omega
    · have hb : b < mz G := hb
      show mt G3 b = mt G b; rw [kt, if_neg (by omega)]
    · have hb : b < mz G := hb
      show mn G3 b = mn G b; rw [kn, if_neg (by omega)]
    · have hb : b < mz G := hb
      show mP G3 b k = mP G b k; rw [kp, if_neg hk, if_neg (by omega)]
    · have hb : b < mz G := hb
      unfold CHa at hn
      rw [rI b (by omega), xo b (by omega) (by omega)]; rfl
    · have hb : b < mz G := hb
      unfold CHa at hn
      show mJ G3 b = y b
      rw [kJ, ur_arow (by omega), yo b (by omega) (by omega)]
    · rw [rI _ (by omega)]; exact x5 j hj
    · show mJ G3 (a + 6) k = _
      rw [kJ, ur_arow (by omega)]; exact y6 k hk
    · show mJ G3 (a + 7) k = _
      rw [kJ, ur_arow (by omega)]; exact y7 k hk
    · rw [rI _ (by omega)]; exact x9 j hj
    · show ur (mI G3) (mz G) (va_cpy (mI G3 l2) (mI G3 (mz G)) 0 0 M) (mz G) j = _
      rw [ur_same, cpy_in (Nat.zero_le _) (by omega), gI l2 (by omega), xo l2 (by omega) (by omega)]
      congr 1; omega
    · rw [rI b (by omega)]; exact xo b q1 q2
end COPY
