/-! ===== the reference loads and plays ===== -/
theorem cnt_pos {f : Nat → Bool} {k : Nat} (hf : f k = true) : ∀ n, k < n → 1 ≤ cnt n f := by
  intro n
  induction n with
  | zero => intro h; exact absurd h (Nat.not_lt_zero _)
  | succ n ih =>
    intro h
    show 1 ≤ cnt n f + (if f n = true then 1 else 0)
    by_cases e : k = n
    · rw [← e, if_pos hf]; omega
    · have := ih (by omega); omega
theorem cnt_two {P : Nat → Nat} {col : Nat} (hc : col < 2) (h11 : ∀ k, P k < 11) : ∀ n, cnt n (fun k => own (P k) col) + cnt n (fun k => own (P k) (1 - col)) = npc n P := by
  intro n
  induction n with
  | zero => rfl
  | succ n ih =>
    show (cnt n _ + if own (P n) col = true then 1 else 0) + (cnt n _ + if own (P n) (1 - col) = true then 1 else 0) = cnt n _ + if (!decide (P n = 0)) = true then 1 else 0
    have e : ∀ m, m < 11 → ∀ col, col < 2 → (if own m col = true then 1 else 0) + (if own m (1 - col) = true then 1 else 0) = (if (!decide (m = 0)) = true then 1 else 0) := by decide +kernel
    have := e _ (h11 n) _ hc
    unfold npc at ih
    omega
theorem PInv.wfp {c r : Nat} {P : Nat → Nat} (h : PInv c r P) (hk : fnd (c * r) P 1 < c * r ∧ fnd (c * r) P 6 < c * r) : WFP (c * r) P := by
  obtain ⟨h1, h2, h3, h4, h5⟩ := h
  obtain ⟨k1, a1, a2⟩ := fnd_iff.mp hk.1
  obtain ⟨k6, b1, b2⟩ := fnd_iff.mp hk.2
  refine ⟨h2, h3, ⟨k1, a1, a2, fun j hj => h4 0 (by decide) j k1 hj a2⟩, ⟨k6, b1, b2, fun j hj => h4 1 (by decide) j k6 hj b2⟩, fun col hc => ?_⟩
  have e := cnt_two (P := P) hc h2 (c * r)
  have p : 1 ≤ cnt (c * r) (fun k => own (P k) (1 - col)) := by
    have : col = 0 ∨ col = 1 := by omega
    rcases this with rfl | rfl
    · exact cnt_pos (k := k6) (by show own (P k6) 1 = true; rw [b2]; decide) _ b1
    · exact cnt_pos (k := k1) (by show own (P k1) 0 = true; rw [a2]; decide) _ a1
  omega
theorem PInv.aok {c r : Nat} {P : Nat → Nat} (h : PInv c r P) (hk : fnd (c * r) P 1 < c * r ∧ fnd (c * r) P 6 < c * r) : AOK c r N00 P 0 := ⟨h.1, h.wfp hk, Nat.zero_le _, okN_zero, fun i hi => absurd hi (Nat.not_lt_zero _)⟩
theorem pCmd_keep {T : Nat → Nat} {L : Nat} {A A' : ASt} {s s' : Nat} (h : pCmd T L A s = .inr (A', s')) : A'.1 = A.1 ∧ A'.2.1 = A.2.1 ∧ A'.2.2.2.1 = A.2.2.2.1 := by
  have key : ∀ z s1, pRes T L z s1 = .inr (A', s') → (∀ B, z = some B → B.1 = A.1 ∧ B.2.1 = A.2.1 ∧ B.2.2.2.1 = A.2.2.2.1) → A'.1 = A.1 ∧ A'.2.1 = A.2.1 ∧ A'.2.2.2.1 = A.2.2.2.1 := fun z s1 h1 h2 => h2 A' (pRes_inr h1).1
  unfold pCmd at h
  split at h
  · obtain ⟨a, -, h⟩ := zB_inr h
    refine key _ _ h fun B hB => ?_
    unfold aAdd at hB
    split at hB
    · cases hB; exact ⟨rfl, rfl, rfl⟩
    · cases hB
  · split at h
    · obtain ⟨a, -, h⟩ := zB_inr h
      refine key _ _ h fun B hB => ?_
      unfold aOrg at hB
      split at hB
      · cases hB; exact ⟨rfl, rfl, rfl⟩
      · cases hB
    · split at h
      · split at h
        · refine key _ _ h fun B hB => ?_
          unfold aDrop at hB
          split at hB
          · cases hB
          · cases hB; exact ⟨rfl, rfl, rfl⟩
        · cases h
      · cases h
theorem pCmds_keep {T : Nat → Nat} {L : Nat} {A' : ASt} {n' : Nat} : ∀ (d : Nat) (A : ASt) (s n : Nat), pCmds T L d A s n = .inr (A', n') → (A'.1 = A.1 ∧ A'.2.1 = A.2.1 ∧ A'.2.2.2.1 = A.2.2.2.1) ∧ n' ≤ n + d := by
  intro d
  induction d with
  | zero => intro A s n h; cases h
  | succ d ih =>
    intro A s n h
    unfold pCmds at h
    split at h
    · cases h; exact ⟨⟨rfl, rfl, rfl⟩, by omega⟩
    · obtain ⟨q, g1, g2⟩ := zB_inr h
      obtain ⟨k1, k2⟩ := ih q.1 q.2 (n + 1) g2
      have := pCmd_keep (A' := q.1) (s' := q.2) g1
      exact ⟨⟨k1.1.trans this.1, k1.2.1.trans this.2.1, k1.2.2.trans this.2.2⟩, by omega⟩
/-- a setup with its commands -/
noncomputable def pLoad (T : Nat → Nat) (L : Nat) : (Nat × Nat) ⊕ (ASt × Nat) := zB (pSetup T L (spN T L 0)) fun q => pCmds T L (L + 1) (q.1, q.2.1, N00, q.2.2.1, 0) q.2.2.2 0
noncomputable def pPlay (T : Nat → Nat) (L : Nat) (A : ASt) : (Nat × Nat) ⊕ (ASt × Nat) := pCmds T L (L + 1) A (spN T L 0) 0
section MLOAD
variable {G : Mem} {o : Nat} {x : Nat → Nat → Int32} {y : Nat → Nat → Int64} {T : Nat → Nat} {L : Nat}
abbrev MRa (x : Nat → Nat → Int32) (y : Nat → Nat → Int64) (o : Nat) (A : ASt) : Prop := MRep x y o A.1 A.2.1 A.2.2.1 A.2.2.2.1 A.2.2.2.2
theorem MSh.g3 (h : MSh G o) : gR G 17 o 3 = some (o + 4) := gR_ok h.1.1 h.1.2.2.2.2.1
theorem MSh.r3 (h : MSh G o) : RW G 1 (o + 4) 109 := h.2.2.2.2.1
theorem KRep.same {x' : Nat → Nat → Int32} {l : List ASt} (h : KRep x o l) (h5 : x' o 5 = x o 5) (h2 : x' (o + 2) = x (o + 2)) : KRep x' o l := by
  unfold KRep MKa MKp at h ⊢
  rw [h5, h2]; exact h
theorem MKp.same {x' : Nat → Nat → Int32} {b p c r m : Nat} {N : Nat → Nat → Int32} {P0 : Nat → Nat} (h : MKp x b p c r N P0 m) (hb : x' b = x b) : MKp x' b p c r N P0 m := by
  unfold MKp at h ⊢
  rw [hb]; exact h
/-- a text begins; the state is copied -/
theorem mstarts_ok (h : MSh G o) (hb : RBy x o T L) {A : ASt} (hm : A.2.2.2.2 ≤ 10) (hP : MKa x (o + 1) 0 A) :
    ∃ x', fX7_starts o (wIJ G x y) = some ((), wIJ G x' y) ∧ RSt x' o T L (spN T L 0) ∧ MKa x' (o + 4) 0 A ∧ x' o 6 = nW 0 ∧ (∀ b j, ¬ (b = o ∧ (j = 6 ∨ j = 11 ∨ j = 12 ∨ 21 ≤ j)) → b ≠ o + 4 → x' b j = x b j) := by
  generalize hx1 : u2 (u2 (u2 (u2 (u2 x o 6 (nW 0)) o 23 (nW 0)) o 25 (nW 0)) o 11 (nW 0)) o 12 (-nW 1) = x1
  have x1o : ∀ b j, ¬ (b = o ∧ (j = 6 ∨ j = 11 ∨ j = 12 ∨ 21 ≤ j)) → x1 b j = x b j := fun b j q => by
    rw [← hx1, u2_other (by omega), u2_other (by omega), u2_other (by omega), u2_other (by omega), u2_other (by omega)]
  have x1r : ∀ b, b ≠ o → x1 b = x b := fun b hb => funext fun j => x1o b j (fun q => hb q.1)
  obtain ⟨c1, c2⟩ := copyRow_ok (x := x1) (y := y) h.r0 h.r3 (p := 0) (q := 0) (by decide) (by decide) ⟨by decide, by decide⟩
  generalize hx2 : ur x1 (o + 4) (va_cpy (x1 (o + 1)) (x1 (o + 4)) 0 0 109) = x2 at *
  have x2o : ∀ b, b ≠ o + 4 → x2 b = x1 b := fun b hb => by rw [← hx2, ur_arow hb]
  have b2 : RBy x2 o T L := hb.frame (by rw [x2o o (by omega), x1o o 9 (by omega)]) (by rw [x2o (o + 6) (by omega), x1r (o + 6) (by omega)])
  have f23 : x2 o 23 = nW 0 := by
    rw [x2o o (by omega), ← hx1, u2_other (by omega), u2_other (by omega), u2_other (by omega), u2_same]
  obtain ⟨x', n1, n2, n3⟩ := mnext_ok (y := y) h b2 (Nat.zero_le L) f23
  refine ⟨x', ?_, ⟨b2.next n2, n3, ?_, ?_, ?_⟩, ?_, ?_, fun b j q1 q2 => ?_⟩
  · unfold fX7_starts fX7_starts_0
    simp only [lits]
    rw [pI_wij h.t, Option.bind_some, pI_wij h.t, Option.bind_some, pZ_wij (v := nW 0) h.t (Or.inl rfl), Option.bind_some, pI_wij h.t, Option.bind_some, pI_wij h.t, Option.bind_some, hx1, gR_wij, h.g0, Option.bind_some, gR_wij, h.g3, Option.bind_some, c1, Option.bind_some, ck_wij, ck_ok h.t, n1]
    rfl
  · rw [n2 o 25 (by omega), x2o o (by omega), ← hx1, u2_other (by omega), u2_other (by omega), u2_same]
  · rw [n2 o 11 (by omega), x2o o (by omega), ← hx1, u2_other (by omega), u2_same]
  · rw [n2 o 12 (by omega), x2o o (by omega), ← hx1, u2_same]
  · have h1 : MKa x1 (o + 1) 0 A := hP.same (x1r (o + 1) (by omega))
    have h2 : MKa x2 (o + 4) 0 A := h1.move hm (fun k hk => c2 k hk)
    exact h2.same (funext fun j => n2 (o + 4) j (by omega))
  · rw [n2 o 6 (by omega), x2o o (by omega), ← hx1, u2_other (by omega), u2_other (by omega), u2_other (by omega), u2_other (by omega), u2_same]
  · rw [n2 b j (by omega), x2o b q2, x1o b j q1]
/-- what a whole text may change in the reference, but for the history -/
def MTX (o : Nat) (x x' : Nat → Nat → Int32) : Prop := ∀ b j, ¬ (b = o ∧ (j = 5 ∨ j = 9 ∨ j = 11 ∨ j = 12 ∨ 21 ≤ j)) → b ≠ o + 1 → b ≠ o + 2 → (b < o + 8 ∨ o + 12 < b) → x' b j = x b j
theorem MTX.trans {x' x2 : Nat → Nat → Int32} (h : MTX o x x') (h2 : MTX o x' x2) : MTX o x x2 := fun b j q1 q2 q3 q4 => (h2 b j q1 q2 q3 q4).trans (h b j q1 q2 q3 q4)
theorem MCX.mtx {x' : Nat → Nat → Int32} (h : MCX o x x') : MTX o x x' := fun b j q1 q2 _ q4 => h b j (by omega) q2 q4
theorem MSX.mtx {x' : Nat → Nat → Int32} (h : MSX o x x') : MTX o x x' := fun b j q1 q2 _ _ => h b j (by omega) q2
theorem mfinds_rep (h : MSh G o) {A : ASt} (hA : AAOK A) (hP : MKa x (o + 1) 0 A) : ∃ x' y', fX7_finds o (wIJ G x y) = some (nW 1, wIJ G x' y') ∧ (∀ b, b < o + 8 ∨ o + 12 < b → x' b = x b) ∧ MCY o y y' ∧ MRa x' y' o A := by
  obtain ⟨hs, W, hm, hok, hwn⟩ := hA
  obtain ⟨v, x', y', f1, f2, f3, f4⟩ := finds_ok (x := x) (y := y) h hs W hm hwn (MKp.present hP)
  rcases f4 with ⟨-, e1, e2, e3⟩ | ⟨e1, -⟩
  · rw [e1] at f1
    exact ⟨x', y', f1, f2, f3, (MKp.present hP).frame (f2 (o + 1) (by omega)), e2, e3⟩
  · exact absurd hok e1
/-- the end of a text with something wrong -/
theorem mend_bad (h : MSh G o) {A : ASt} (hA : AAOK A) (hP : MKa x (o + 4) 0 A) (hw : x o 25 = nW 1) {v : Int32} :
    ∃ x' y', fX7_commands_26 o v (wIJ G x y) = some (-nW 1, wIJ G x' y') ∧ MRa x' y' o A ∧ MCY o y y' ∧ x' o 9 = nW 0 ∧ (∀ b j, ¬ (b = o ∧ j = 9) → b ≠ o + 1 → (b < o + 8 ∨ o + 12 < b) → x' b j = x b j) := by
  generalize hx1 : u2 x o 9 (nW 0) = x1
  have x1r : ∀ b, b ≠ o → x1 b = x b := fun b hb => by rw [← hx1, u2_arow hb]
  obtain ⟨c1, c2⟩ := copyRow_ok (x := x1) (y := y) h.r3 h.r0 (p := 0) (q := 0) (by decide) (by decide) ⟨by decide, by decide⟩
  generalize hx2 : ur x1 (o + 1) (va_cpy (x1 (o + 4)) (x1 (o + 1)) 0 0 109) = x2 at *
  have x2o : ∀ b, b ≠ o + 1 → x2 b = x1 b := fun b hb => by rw [← hx2, ur_arow hb]
  have h1 : MKa x1 (o + 4) 0 A := hP.same (x1r (o + 4) (by omega))
  have h2 : MKa x2 (o + 1) 0 A := h1.move hA.2.2.1 (fun k hk => c2 k hk)
  obtain ⟨x', y', f1, f2, f3, f4⟩ := mfinds_rep (y := y) h hA h2
  have w2 : x' o 25 = nW 1 := by
    rw [f2 o (by omega), x2o o (by omega), ← hx1, u2_other (by omega)]; exact hw
  refine ⟨x', y', ?_, f4, f3, ?_, fun b j q1 q2 q3 => ?_⟩
  · unfold fX7_commands_26 fX7_commands_67 fX7_commands_79
    simp only [lits]
    rw [pI_wij h.t, Option.bind_some, hx1, gF_wij h.t, ← hx1, u2_other (by omega), hw, hx1, Option.bind_some, if_neg (by decide), gR_wij, h.g3, Option.bind_some, gR_wij, h.g0, Option.bind_some, c1, Option.bind_some, ck_wij, ck_ok h.t, f1, Option.bind_some, gF_wij h.t, w2, Option.bind_some, if_neg (by decide)]
  · rw [f2 o (by omega), x2o o (by omega), ← hx1, u2_same]
  · rw [f2 b q3, x2o b q2, ← hx1, u2_other (by omega)]
/-- the end of a text that was carried out -/
theorem mend_ok (h : MSh G o) {A B : ASt} (hR : MRa x y o A) (hB : B.2.2.2.2 ≤ 10) (hP : MKa x (o + 4) 0 B) (hw : x o 25 = nW 0) {l : List ASt} (hK : KRep x o l) {v : Int32} :
    ∃ x', fX7_commands_26 o v (wIJ G x y) = some (v, wIJ G x' y) ∧ MRa x' y o A ∧ KRep x' o (rem8 l B) ∧ x' o 9 = nW 0 ∧ (∀ b j, ¬ (b = o ∧ (j = 5 ∨ j = 9)) → b ≠ o + 2 → x' b j = x b j) := by
  generalize hx1 : u2 x o 9 (nW 0) = x1
  have x1r : ∀ b, b ≠ o → x1 b = x b := fun b hb => by rw [← hx1, u2_arow hb]
  have h1 : MKa x1 (o + 4) 0 B := hP.same (x1r (o + 4) (by omega))
  have K1 : KRep x1 o l := hK.same (by rw [← hx1, u2_other (by omega)]) (x1r _ (by omega))
  obtain ⟨x', r1, r2, r3, r4⟩ := remember_ok (y := y) h h.r3 (by omega) (by omega) h1 hB K1
  have fr : ∀ b j, ¬ (b = o ∧ (j = 5 ∨ j = 9)) → b ≠ o + 2 → x' b j = x b j := fun b j q1 q2 => by
    by_cases e : b = o
    · rw [e, r3 j (by omega), ← hx1, u2_other (by omega)]
    · rw [r2 b e q2, x1r b e]
  have w2 : x' o 25 = nW 0 := (fr o 25 (by omega) (by omega)).trans hw
  refine ⟨x', ?_, ?_, r4, ?_, fr⟩
  · unfold fX7_commands_26 fX7_commands_67 fX7_commands_79
    simp only [lits]
    rw [pI_wij h.t, Option.bind_some, hx1, gF_wij h.t, ← hx1, u2_other (by omega), hw, hx1, Option.bind_some, if_pos rfl, gR_wij, h.g3, Option.bind_some, ck_wij, ck_ok h.t, r1, Option.bind_some, gF_wij h.t, w2, Option.bind_some, if_pos rfl]
  · have row : ∀ b, b ≠ o → b ≠ o + 2 → x' b = x b := fun b q1 q2 => funext fun j => fr b j (fun z => q1 z.1) q2
    obtain ⟨p1, p2, p3⟩ := hR
    exact ⟨p1.frame (row _ (by omega) (by omega)), p2.same (row _ (by omega) (by omega)) (row _ (by omega) (by omega)) (row _ (by omega) (by omega)) (row _ (by omega) (by omega)) rfl, p3⟩
  · rw [r3 9 (by decide), ← hx1, u2_same]
/-- how a text ends in the reference -/
def MFin (o : Nat) (x' : Nat → Nat → Int32) (y' : Nat → Nat → Int64) (B : ASt) (l : List ASt) (p : (Nat × Nat) ⊕ (ASt × Nat)) : Prop := x' o 9 = nW 0 ∧ ((∃ e, p = .inl e ∧ MRa x' y' o B ∧ KRep x' o l ∧ x' o 11 = nW e.1 ∧ x' o 12 = nW e.2) ∨ (∃ A' n', p = .inr (A', n') ∧ AAOK A' ∧ MRa x' y' o A' ∧ KRep x' o (rem8 l B) ∧ x' o 11 = nW 0 ∧ x' o 12 = -nW 1))
theorem mcommands_ok (h : MSh G o) {A B : ASt} (hA : AAOK A) (hR : MRa x y o A) {s : Nat} (hs : RSt x o T L s) (hB : AAOK B) (hP : MKa x (o + 4) 0 B) {l : List ASt} (hK : KRep x o l) :
    ∃ v x' y', fX7_commands o (wIJ G x y) = some (v, wIJ G x' y') ∧ MTX o x x' ∧ MCY o y y' ∧ MFin o x' y' B l (pCmds T L (L + 1) A s 0) ∧ ((∃ e, pCmds T L (L + 1) A s 0 = .inl e ∧ v = -nW 1) ∨ (∃ A' n', pCmds T L (L + 1) A s 0 = .inr (A', n') ∧ v = nW n')) := by
  have hL := hs.1.1
  obtain ⟨n', x1, y1, r1, r2, r3, r4⟩ := mrun_ok h (L + 1) FU x y A s 0 (by omega) (by show L + 1 ≤ 100000; omega) hA hR hs
  have P1 : MKa x1 (o + 4) 0 B := hP.same (funext fun j => r2 (o + 4) j (by omega) (by omega) (by omega))
  have K1 : KRep x1 o l := hK.same (r2 o 5 (by omega) (by omega) (by omega)) (funext fun j => r2 (o + 2) j (by omega) (by omega) (by omega))
  have head : fX7_commands o (wIJ G x y) = fX7_commands_26 o (nW n') (wIJ G x1 y1) := r1
  rcases r4 with ⟨e, e1, e2⟩ | ⟨A', e1, e2, e3, e4, e5, e6⟩
  · obtain ⟨x', y', f1, f2, f3, f4, f5⟩ := mend_bad (y := y1) (v := nW n') h hB P1 e2.1
    refine ⟨_, x', y', head.trans f1, r2.mtx.trans (fun b j q1 q2 q3 q4 => f5 b j (by omega) q2 q4), r3.trans f3, ⟨f4, Or.inl ⟨e, e1, f2, K1.same (f5 o 5 (by omega) (by omega) (by omega)) (funext fun j => f5 (o + 2) j (by omega) (by omega) (by omega)), ?_, ?_⟩⟩, Or.inl ⟨e, e1, rfl⟩⟩
    · rw [f5 o 11 (by omega) (by omega) (by omega)]; exact e2.2.1
    · rw [f5 o 12 (by omega) (by omega) (by omega)]; exact e2.2.2
  · obtain ⟨x', f1, f2, f3, f4, f5⟩ := mend_ok (v := nW n') h e3 hB.2.2.1 P1 e4 K1
    refine ⟨_, x', y1, head.trans f1, r2.mtx.trans (fun b j q1 q2 q3 q4 => f5 b j (by omega) q3), r3, ⟨f4, Or.inr ⟨A', n', e1, e2, f2, f3, ?_, ?_⟩⟩, Or.inr ⟨A', n', e1, rfl⟩⟩
    · rw [f5 o 11 (by omega) (by omega)]; exact e5
    · rw [f5 o 12 (by omega) (by omega)]; exact e6
theorem mplay_ok (h : MSh G o) {A : ASt} (hA : AAOK A) (hR : MRa x y o A) (hb : RBy x o T L) {l : List ASt} (hK : KRep x o l) :
    ∃ v x' y', fX7_play o (wIJ G x y) = some (v, wIJ G x' y') ∧ (∀ b j, ¬ (b = o ∧ (j = 5 ∨ j = 6 ∨ j = 9 ∨ j = 11 ∨ j = 12 ∨ 21 ≤ j)) → b ≠ o + 1 → b ≠ o + 2 → b ≠ o + 4 → (b < o + 8 ∨ o + 12 < b) → x' b j = x b j) ∧ x' o 6 = nW 0 ∧ MCY o y y' ∧ MFin o x' y' A l (pPlay T L A) ∧ ((∃ e, pPlay T L A = .inl e ∧ v = -nW 1) ∨ (∃ A' n', pPlay T L A = .inr (A', n') ∧ v = nW n')) := by
  obtain ⟨x1, a1, a2, a3, a4, a5⟩ := mstarts_ok (y := y) h hb hA.2.2.1 hR.1.kept
  have row : ∀ b, b ≠ o → b ≠ o + 4 → x1 b = x b := fun b q1 q2 => funext fun j => a5 b j (fun z => q1 z.1) q2
  have R1 : MRa x1 y o A := ⟨hR.1.frame (row _ (by omega) (by omega)), hR.2.1.same (row _ (by omega) (by omega)) (row _ (by omega) (by omega)) (row _ (by omega) (by omega)) (row _ (by omega) (by omega)) rfl, hR.2.2⟩
  obtain ⟨v, x', y', c1, c2, c3, c4, c5⟩ := mcommands_ok h hA R1 a2 hA a3 (hK.same (a5 o 5 (by omega) (by omega)) (row _ (by omega) (by omega)))
  refine ⟨v, x', y', ?_, fun b j q1 q2 q3 q4 q5 => ?_, ?_, c3, c4, c5⟩
  · unfold fX7_play fX7_play_0
    rw [ck_wij, ck_ok h.t, a1, Option.bind_some, ck_wij, ck_ok h.t, c1]
    rfl
  · rw [c2 b j (by omega) q2 q3 q5, a5 b j (by omega) q4]
  · rw [c2 o 6 (by omega) (by omega) (by omega) (by omega)]; exact a4
end MLOAD
