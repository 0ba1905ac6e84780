/-! ===== commands, as mathematics; the reference carries them out ===== -/
abbrev AAOK (A : ASt) : Prop := AOK A.1 A.2.1 A.2.2.1 A.2.2.2.1 A.2.2.2.2
noncomputable def aAdd (A : ASt) (nt : Nat → Int32) : Option ASt := @ite _ (A.2.2.2.2 < 10 ∧ okN A.1 (A.1 * A.2.1) (addN A.2.2.1 A.2.2.2.2 nt) A.2.2.2.1 (A.2.2.2.2 + 1)) (Classical.propDecidable _) (some (A.1, A.2.1, addN A.2.2.1 A.2.2.2.2 nt, A.2.2.2.1, A.2.2.2.2 + 1)) none
noncomputable def aOrg (A : ASt) (k : Nat) (cx ry : Int32) : Option ASt := @ite _ (okN A.1 (A.1 * A.2.1) (orgN A.2.2.1 k cx ry) A.2.2.2.1 A.2.2.2.2) (Classical.propDecidable _) (some (A.1, A.2.1, orgN A.2.2.1 k cx ry, A.2.2.2.1, A.2.2.2.2)) none
def aDrop (A : ASt) : Option ASt := if A.2.2.2.2 = 0 then none else some (A.1, A.2.1, A.2.2.1, A.2.2.2.1, A.2.2.2.2 - 1)
def pRes (T : Nat → Nat) (L : Nat) (z : Option ASt) (s : Nat) : (Nat × Nat) ⊕ (ASt × Nat) := match z with
  | some A => .inr (A, nx T L s)
  | none => .inl (6, s)
/-- one command, whose word stands at s -/
noncomputable def pCmd (T : Nat → Nat) (L : Nat) (A : ASt) (s : Nat) : (Nat × Nat) ⊕ (ASt × Nat) :=
  if isw T L s 8 = true then zB (pNote T L A.1 A.2.1 (nx T L s)) fun q => pRes T L (aAdd A q.1) q.2
  else if isw T L s 9 = true then zB (pOrg T L A.1 A.2.1 A.2.2.2.2 (nx T L s)) fun q => pRes T L (aOrg A q.1 (nW q.2.1) (nW q.2.2.1)) q.2.2.2
  else if isw T L s 10 = true then (if srt T L (nx T L s) = 4 then pRes T L (aDrop A) (nx T L s) else .inl (1, nx T L s))
  else .inl (1, s)
theorem aAdd_some {c r m : Nat} {N : Nat → Nat → Int32} {P0 : Nat → Nat} {nt : Nat → Int32} (h : m < 10 ∧ okN c (c * r) (addN N m nt) P0 (m + 1)) : aAdd (c, r, N, P0, m) nt = some (c, r, addN N m nt, P0, m + 1) := if_pos h
theorem aAdd_none {c r m : Nat} {N : Nat → Nat → Int32} {P0 : Nat → Nat} {nt : Nat → Int32} (h : ¬ (m < 10 ∧ okN c (c * r) (addN N m nt) P0 (m + 1))) : aAdd (c, r, N, P0, m) nt = none := if_neg h
theorem aOrg_some {c r m k : Nat} {N : Nat → Nat → Int32} {P0 : Nat → Nat} {cx ry : Int32} (h : okN c (c * r) (orgN N k cx ry) P0 m) : aOrg (c, r, N, P0, m) k cx ry = some (c, r, orgN N k cx ry, P0, m) := if_pos h
theorem aOrg_none {c r m k : Nat} {N : Nat → Nat → Int32} {P0 : Nat → Nat} {cx ry : Int32} (h : ¬ okN c (c * r) (orgN N k cx ry) P0 m) : aOrg (c, r, N, P0, m) k cx ry = none := if_neg h
theorem AOK.add {c r m : Nat} {N : Nat → Nat → Int32} {P0 : Nat → Nat} {nt : Nat → Int32} (hA : AOK c r N P0 m) (hm : m < 10) (hok : okN c (c * r) (addN N m nt) P0 (m + 1)) (h5 : nt 5 = 0 ∨ nt 5 = 1) (h6 : nt 6 = 0 ∨ nt 6 = 1) : AOK c r (addN N m nt) P0 (m + 1) := by
  refine ⟨hA.1, hA.2.1, hm, hok, fun i hi => ?_⟩
  unfold addN updF
  by_cases e : i = m
  · rw [if_pos e]; exact ⟨h5, h6⟩
  · rw [if_neg e]; exact hA.2.2.2.2 i (by omega)
theorem AOK.org {c r m k : Nat} {N : Nat → Nat → Int32} {P0 : Nat → Nat} {cx ry : Int32} (hA : AOK c r N P0 m) (hok : okN c (c * r) (orgN N k cx ry) P0 m) : AOK c r (orgN N k cx ry) P0 m := ⟨hA.1, hA.2.1, hA.2.2.1, hok, hA.2.2.2.2.org⟩
theorem b01_bI (b : Bool) : b01 (bI b) = bI b := by cases b <;> decide
section MCMD
variable {G : Mem} {o : Nat} {c r m : Nat} {N : Nat → Nat → Int32} {P0 : Nat → Nat} {x : Nat → Nat → Int32} {y : Nat → Nat → Int64} {T : Nat → Nat} {L : Nat}
/-- what a command may change in the reference -/
def MCX (o : Nat) (x x' : Nat → Nat → Int32) : Prop := ∀ b j, ¬ (b = o ∧ (j = 11 ∨ j = 12 ∨ 21 ≤ j)) → b ≠ o + 1 → (b < o + 8 ∨ o + 12 < b) → x' b j = x b j
def MCY (o : Nat) (y y' : Nat → Nat → Int64) : Prop := ∀ b, b < o + 13 ∨ o + 14 < b → y' b = y b
theorem MCX.trans {x' x2 : Nat → Nat → Int32} (h : MCX o x x') (h2 : MCX o x' x2) : MCX o x x2 := fun b j q1 q2 q3 => (h2 b j q1 q2 q3).trans (h b j q1 q2 q3)
theorem MCY.trans {y' y2 : Nat → Nat → Int64} (h : MCY o y y') (h2 : MCY o y' y2) : MCY o y y2 := fun b q => (h2 b q).trans (h b q)
theorem MTF.mcx {x' : Nat → Nat → Int32} (h : MTF o x x') : MCX o x x' := fun b j q _ _ => h b j q
theorem MCX.of {x' : Nat → Nat → Int32} (h : ∀ b, b ≠ o + 1 → (b < o + 8 ∨ o + 12 < b) → x' b = x b) : MCX o x x' := fun b j _ q2 q3 => by rw [h b q2 q3]
theorem MCY.rfl' : MCY o y y := fun _ _ => rfl
theorem MRep.text {x' : Nat → Nat → Int32} (hR : MRep x y o c r N P0 m) (h : MTF o x x') : MRep x' y o c r N P0 m := by
  obtain ⟨h1, h2, h3⟩ := hR
  exact ⟨h1.frame (h.row (by omega)), h2.same (h.row (by omega)) (h.row (by omega)) (h.row (by omega)) (h.row (by omega)) rfl, h3⟩
theorem RSt.same {x' : Nat → Nat → Int32} {s : Nat} (hs : RSt x o T L s) (h0 : x' o = x o) (h6 : x' (o + 6) = x (o + 6)) : RSt x' o T L s := ⟨hs.1.frame (by rw [h0]) h6, hs.2.1.frame (fun j _ _ => by rw [h0]), by rw [h0]; exact hs.2.2.1, by rw [h0]; exact hs.2.2.2.1, by rw [h0]; exact hs.2.2.2.2⟩
theorem MPs.cong {N' : Nat → Nat → Int32} (hP : MPs x o c r N P0 m) (h : ∀ k, k < m → ∀ j, j < 7 → N k j = N' k j) : MPs x o c r N' P0 m := ⟨hP.1, hP.2.1, hP.2.2.1, fun i hi j hj => (hP.2.2.2 i hi j hj).trans (h i hi j hj)⟩
/-- a note is laid behind the others, and tried -/
theorem layPoss_ok (h : MSh G o) (hA : AOK c r N P0 m) (hR : MRep x y o c r N P0 m) (hm : m < 10) (kd fx tx ty tk ck : Int32) :
    ∃ x1, fX7_lay o (nW m) kd fx tx ty tk ck (wIJ G x y) = some ((), wIJ G x1 y) ∧ ∃ v x2 y2, fX7_isPossible o (wIJ G x1 y) = some (v, wIJ G x2 y2) ∧ (∀ b, b ≠ o + 1 → (b < o + 8 ∨ o + 12 < b) → x2 b = x b) ∧ MCY o y y2 ∧ MRep x2 y2 o c r N P0 m ∧
      ((okN c (c * r) (addN N m (ntF kd fx tx ty (b01 tk) (b01 ck))) P0 (m + 1) ∧ v = nW 1 ∧ AOK c r (addN N m (ntF kd fx tx ty (b01 tk) (b01 ck))) P0 (m + 1) ∧ MPs x2 o c r (addN N m (ntF kd fx tx ty (b01 tk) (b01 ck))) P0 m ∧ (∀ i, i < m + 1 → MNt x2 o i (addN N m (ntF kd fx tx ty (b01 tk) (b01 ck)) i)) ∧ MLs x2 y2 o c (c * r) (addN N m (ntF kd fx tx ty (b01 tk) (b01 ck))) P0 (m + 1)) ∨ (¬ okN c (c * r) (addN N m (ntF kd fx tx ty (b01 tk) (b01 ck))) P0 (m + 1) ∧ v = nW 0)) := by
  obtain ⟨x1, l1, l2, l3⟩ := lay_ok (x := x) (y := y) h hm kd fx tx ty tk ck
  have R1 := hR.lay l2
  refine ⟨x1, l1, ?_⟩
  have h5 : ntF kd fx tx ty (b01 tk) (b01 ck) 5 = 0 ∨ ntF kd fx tx ty (b01 tk) (b01 ck) 5 = 1 := b01_01 tk
  have h6 : ntF kd fx tx ty (b01 tk) (b01 ck) 6 = 0 ∨ ntF kd fx tx ty (b01 tk) (b01 ck) 6 = 1 := b01_01 ck
  generalize ntF kd fx tx ty (b01 tk) (b01 ck) = nt at *
  obtain ⟨v, x2, y2, p1, p2, p3⟩ := isPossible_ok (y := y) h hA R1 hm l3 h5
  have R2 := R1.fr hA p2
  have fr : ∀ b, b ≠ o + 1 → (b < o + 8 ∨ o + 12 < b) → x2 b = x b := fun b q1 q2 => (p2.1 b q2).trans (funext fun j => l2 b j (fun z => q1 z.1))
  have fy : MCY o y y2 := fun b q => p2.2.2.2.2.2.1 b (by omega)
  refine ⟨v, x2, y2, p1, fr, fy, R2, ?_⟩
  rcases p3 with ⟨q1, q2, q3⟩ | ⟨q1, q2⟩
  · refine Or.inl ⟨q1, q2, hA.add hm q1 h5 h6, R2.1.cong addN_low, fun i hi j hj => ?_, q3⟩
    by_cases e : i = m
    · have : addN N m nt i = nt := if_pos e
      rw [this, e, p2.1 _ (by omega)]; exact l3 j hj
    · have : addN N m nt i = N i := if_neg e
      rw [this]; exact R2.1.2.2.2 i (by omega) j hj
  · exact Or.inr ⟨q1, q2⟩
theorem note169_bad (h : MSh G o) {a1 a2 a3 a4 a5 a6 : Int32} (hb : x o 25 = nW 1) : fX7_noteTold_169 o a1 a2 a3 a4 a5 a6 (wIJ G x y) = some ((), wIJ G x y) := by
  have e : ∀ s1, fX7_noteTold_183 o a1 a2 a3 a4 a5 a6 o s1 (wIJ G x y) = some ((), wIJ G x y) := fun s1 => by
    unfold fX7_noteTold_183
    simp only [lits]
    rw [ck_wij, ck_ok h.t, wrong_bad h hb, Option.bind_some, gF_wij h.t, hb, Option.bind_some, if_neg (by decide)]
  unfold fX7_noteTold_169
  rw [gF_wij h.t, Option.bind_some, e, e, ite_self]
theorem note136_bad (h : MSh G o) {a1 a2 a3 a4 a5 : Int32} (hb : x o 25 = nW 1) : fX7_noteTold_136 o a1 a2 a3 a4 a5 (wIJ G x y) = some ((), wIJ G x y) := by
  unfold fX7_noteTold_136 fX7_noteTold_157 fX7_noteTold_158
  simp only [lits]
  rw [gF_wij h.t, hb, Option.bind_some, if_neg (by decide), if_pos trivial, note169_bad h hb]
theorem note103_bad (h : MSh G o) {a1 a2 a3 a4 : Int32} (hb : x o 25 = nW 1) : fX7_noteTold_103 o a1 a2 a3 a4 (wIJ G x y) = some ((), wIJ G x y) := by
  unfold fX7_noteTold_103 fX7_noteTold_124 fX7_noteTold_125
  simp only [lits]
  rw [gF_wij h.t, hb, Option.bind_some, if_neg (by decide), if_pos trivial, note136_bad h hb]
theorem note71_bad (h : MSh G o) {a1 a2 a3 a4 : Int32} (hb : x o 25 = nW 1) : fX7_noteTold_71 o a1 a2 a3 a4 (wIJ G x y) = some ((), wIJ G x y) := by
  unfold fX7_noteTold_71
  simp only [lits]
  rw [gF_wij h.t, hb, Option.bind_some, if_neg (by decide), note103_bad h hb]
/-- how a command ends in the reference: wrong, or with another state -/
def MEn (G : Mem) (o : Nat) (T : Nat → Nat) (L : Nat) (x : Nat → Nat → Int32) (y : Nat → Nat → Int64) (z : Option (Unit × Mem)) (p : (Nat × Nat) ⊕ (ASt × Nat)) : Prop :=
  ∃ x' y', z = some ((), wIJ G x' y') ∧ MCX o x x' ∧ MCY o y y' ∧ ((∃ e, p = .inl e ∧ RBd x' o e) ∨ (∃ A s', p = .inr (A, s') ∧ AAOK A ∧ MRep x' y' o A.1 A.2.1 A.2.2.1 A.2.2.2.1 A.2.2.2.2 ∧ RSt x' o T L s'))
theorem MEn.from {x1 : Nat → Nat → Int32} {y1 : Nat → Nat → Int64} {z : Option (Unit × Mem)} {p : (Nat × Nat) ⊕ (ASt × Nat)} (hx : MCX o x x1) (hy : MCY o y y1) (h : MEn G o T L x1 y1 z p) : MEn G o T L x y z p := by
  obtain ⟨x', y', e1, e2, e3, e4⟩ := h
  exact ⟨x', y', e1, hx.trans e2, hy.trans e3, e4⟩
/-- the semicolon behind a note: z is without the step behind the semicolon -/
theorem note169_ok (h : MSh G o) (hA : AOK c r N P0 m) (hR : MRep x y o c r N P0 m) {s : Nat} (hs : RSt x o T L s) {kd fx tx ty tk ck : Int32} :
    ∃ x' y', fX7_noteTold_169 o kd fx tx ty tk ck (wIJ G x y) = some ((), wIJ G x' y') ∧ MCX o x x' ∧ MCY o y y' ∧ ((srt T L s ≠ 4 ∧ RBd x' o (1, s)) ∨ (srt T L s = 4 ∧ ¬ (m < 10 ∧ okN c (c * r) (addN N m (ntF kd fx tx ty (b01 tk) (b01 ck))) P0 (m + 1)) ∧ RBd x' o (6, s)) ∨ (srt T L s = 4 ∧ (m < 10 ∧ okN c (c * r) (addN N m (ntF kd fx tx ty (b01 tk) (b01 ck))) P0 (m + 1)) ∧ AOK c r (addN N m (ntF kd fx tx ty (b01 tk) (b01 ck))) P0 (m + 1) ∧ MRep x' y' o c r (addN N m (ntF kd fx tx ty (b01 tk) (b01 ck))) P0 (m + 1) ∧ RSt x' o T L s)) := by
  have hm10 := hA.2.2.1
  unfold fX7_noteTold_169
  simp only [lits]
  rw [gF_wij h.t, Option.bind_some]
  by_cases e4 : srt T L s = 4
  · rw [if_pos (hs.2.1.semi.mpr e4)]
    unfold fX7_noteTold_183
    simp only [lits]
    rw [ck_wij, ck_ok h.t, wrong_no h, Option.bind_some, gF_wij h.t, hs.2.2.1, Option.bind_some, if_pos rfl, gR_wij, h.g0, Option.bind_some, hR.s2 h, Option.bind_some]
    have full : ∀ x2 y2, RSt x2 o T L s → ∃ x', fX7_noteTold_255 o o (nW 1) (wIJ G x2 y2) = some ((), wIJ G x' y2) ∧ MTF o x2 x' ∧ RBd x' o (6, s) := fun x2 y2 q => by
      obtain ⟨x', w1, w2, w3, -⟩ := wrong_yes (y := y2) (k := 6) h q
      unfold fX7_noteTold_255 fX7_noteTold_275
      simp only [lits]
      rw [ck_wij, ck_ok h.t, w1, Option.bind_some, gF_wij h.t, w3.1, Option.bind_some, if_neg (by decide)]
      exact ⟨x', rfl, w2, w3⟩
    by_cases hm : m = 10
    · rw [if_pos (by rw [hm])]
      unfold fX7_noteTold_211 fX7_noteTold_237 fX7_noteTold_250
      simp only [lits]
      rw [if_neg (by decide), if_neg (by decide)]
      obtain ⟨x', f1, f2, f3⟩ := full x y hs
      exact ⟨x', y, f1, f2.mcx, MCY.rfl', Or.inr (Or.inl ⟨e4, fun q => by omega, f3⟩)⟩
    · have hm : m < 10 := by omega
      rw [if_neg (by rw [nW_eq (by omega) (by decide)]; omega)]
      obtain ⟨x1, l1, v, x2, y2, p1, p2, p3, p4, p5⟩ := layPoss_ok (y := y) h hA hR hm kd fx tx ty tk ck
      have s2 : RSt x2 o T L s := hs.same (p2 o (by omega) (by omega)) (p2 (o + 6) (by omega) (by omega))
      unfold fX7_noteTold_211 fX7_noteTold_237 fX7_noteTold_250
      simp only [lits]
      rw [if_pos trivial, gR_wij, h.g0, Option.bind_some, hR.s2 h, Option.bind_some, ck_wij, ck_ok h.t, l1, Option.bind_some, if_pos trivial, ck_wij, ck_ok h.t, p1, Option.bind_some]
      rcases p5 with ⟨q1, q2, q3, q4, q5, q6⟩ | ⟨q1, q2⟩
      · rw [q2, if_neg (show ¬ nW 1 = nW 0 by decide)]
        obtain ⟨x3, y3, a1, a2, a3, a4⟩ := adds_ok h rfl q3 q4 q5 q6
        unfold fX7_noteTold_255 fX7_noteTold_275
        simp only [lits]
        rw [ck_wij, ck_ok h.t, wrong_no h, Option.bind_some, gF_wij h.t, s2.2.2.1, Option.bind_some, if_pos rfl, ck_wij, ck_ok h.t, a1, Option.bind_some, pI_wij h.t, Option.bind_some]
        have s3 : RSt x3 o T L s := s2.same (a2 o (by omega)) (a2 (o + 6) (by omega))
        have t3 : MTF o x3 (u2 x3 o 26 (nW (pcn c (c * r) (addN N m (ntF kd fx tx ty (b01 tk) (b01 ck))) P0 (m + 1)))) := fun b j q => u2_other (by omega)
        refine ⟨_, y3, rfl, ((MCX.of p2).trans (MCX.of (fun b z _ => a2 b z))).trans t3.mcx, p3.trans (fun b z => a3 b (by omega)), Or.inr (Or.inr ⟨e4, ⟨hm, q1⟩, q3, a4.text t3, ?_⟩)⟩
        exact ⟨s3.1.frame (by rw [u2_other (by omega)]) (by rw [u2_arow (by omega)]), s3.2.1.frame (fun j z1 z2 => by rw [u2_other (by omega)]), by rw [u2_other (by omega)]; exact s3.2.2.1, by rw [u2_other (by omega)]; exact s3.2.2.2.1, by rw [u2_other (by omega)]; exact s3.2.2.2.2⟩
      · rw [q2, if_pos (show nW 0 = nW 0 from rfl)]
        obtain ⟨x', f1, f2, f3⟩ := full x2 y2 s2
        exact ⟨x', y2, f1, (MCX.of p2).trans f2.mcx, p3, Or.inr (Or.inl ⟨e4, fun z => q1 z.2, f3⟩)⟩
  · obtain ⟨x', w1, w2, w3, -⟩ := wrong_yes (y := y) (k := 1) h hs
    rw [if_neg (fun q => e4 (hs.2.1.semi.mp q))]
    unfold fX7_noteTold_183
    simp only [lits]
    rw [ck_wij, ck_ok h.t, w1, Option.bind_some, gF_wij h.t, w3.1, Option.bind_some, if_neg (by decide)]
    exact ⟨x', y, rfl, w2.mcx, MCY.rfl', Or.inl ⟨e4, w3⟩⟩
/-- takes, check, and what follows -/
theorem note103_ok (h : MSh G o) (hA : AOK c r N P0 m) (hR : MRep x y o c r N P0 m) {s : Nat} (hs : RSt x o T L s) {kd fx tx ty : Int32} :
    ∃ x' y', fX7_noteTold_103 o kd fx tx ty (wIJ G x y) = some ((), wIJ G x' y') ∧ MCX o x x' ∧ MCY o y y' ∧ ((∃ e, pEnd T L s = .inl e ∧ RBd x' o e) ∨ (∃ tk ck s', pEnd T L s = .inr (tk, ck, s') ∧ ((¬ (m < 10 ∧ okN c (c * r) (addN N m (ntF kd fx tx ty tk ck)) P0 (m + 1)) ∧ RBd x' o (6, s')) ∨ ((m < 10 ∧ okN c (c * r) (addN N m (ntF kd fx tx ty tk ck)) P0 (m + 1)) ∧ AOK c r (addN N m (ntF kd fx tx ty tk ck)) P0 (m + 1) ∧ MRep x' y' o c r (addN N m (ntF kd fx tx ty tk ck)) P0 (m + 1) ∧ RSt x' o T L s')))) := by
  -- one optional word
  have opt : ∀ (x0 : Nat → Nat → Int32) (s0 w : Nat), w < 16 → RSt x0 o T L s0 → ∃ x1, MTF o x0 x1 ∧ RSt x1 o T L (pOpt T L s0 w) ∧ ((isw T L s0 w = false ∧ x1 = x0) ∨ (isw T L s0 w = true ∧ fX7_go o (wIJ G x0 y) = some ((), wIJ G x1 y))) := by
    intro x0 s0 w hw q
    unfold pOpt
    cases hb : isw T L s0 w with
    | false => exact ⟨x0, MTF.rfl', by rw [if_neg (by decide)]; exact q, Or.inl ⟨rfl, rfl⟩⟩
    | true =>
      obtain ⟨x1, g1, g2, g3⟩ := go_ok (y := y) h q
      exact ⟨x1, g2, by rw [if_pos rfl]; exact g3, Or.inr ⟨rfl, g1⟩⟩
  obtain ⟨x1, a1, a2, a3⟩ := opt x s 14 (by decide) hs
  obtain ⟨x2, b1, b2, b3⟩ := opt x1 _ 15 (by decide) a2
  have R2 := (hR.text a1).text b1
  obtain ⟨x', y', c1, c2, c3, c4⟩ := note169_ok (kd := kd) (fx := fx) (tx := tx) (ty := ty) (tk := bI (isw T L s 14)) (ck := bI (isw T L (pOpt T L s 14) 15)) h hA R2 b2
  have second : fX7_noteTold_136 o kd fx tx ty (bI (isw T L s 14)) (wIJ G x1 y) = some ((), wIJ G x' y') := by
    unfold fX7_noteTold_136 fX7_noteTold_157 fX7_noteTold_158
    simp only [lits]
    rw [gF_wij h.t, a2.2.2.1, Option.bind_some, if_pos rfl, ck_wij, ck_ok h.t, mis_ok h a2.1 a2.2.1 (by decide), Option.bind_some]
    rcases b3 with ⟨e, rfl⟩ | ⟨e, g⟩
    · rw [e] at c1 ⊢
      rw [if_pos bIf, if_pos trivial]
      exact c1
    · rw [e] at c1 ⊢
      rw [if_neg bIt, if_neg (by decide), ck_wij, ck_ok h.t, g, Option.bind_some]
      exact c1
  have first : fX7_noteTold_103 o kd fx tx ty (wIJ G x y) = some ((), wIJ G x' y') := by
    unfold fX7_noteTold_103 fX7_noteTold_124 fX7_noteTold_125
    simp only [lits]
    rw [gF_wij h.t, hs.2.2.1, Option.bind_some, if_pos rfl, ck_wij, ck_ok h.t, mis_ok h hs.1 hs.2.1 (by decide), Option.bind_some]
    rcases a3 with ⟨e, rfl⟩ | ⟨e, g⟩
    · rw [e] at second ⊢
      rw [if_pos bIf, if_pos trivial]
      exact second
    · rw [e] at second ⊢
      rw [if_neg bIt, if_neg (by decide), ck_wij, ck_ok h.t, g, Option.bind_some]
      exact second
  refine ⟨x', y', first, (a1.mcx.trans b1.mcx).trans c2, c3, ?_⟩
  unfold pEnd
  rw [b01_bI, b01_bI] at c4
  rcases c4 with ⟨e, e2⟩ | ⟨e, e2⟩ | ⟨e, e2⟩
  · exact Or.inl ⟨_, if_neg e, e2⟩
  · exact Or.inr ⟨_, _, _, if_pos e, Or.inl e2⟩
  · exact Or.inr ⟨_, _, _, if_pos e, Or.inr e2⟩
/-- to .. -/
theorem note71_ok (h : MSh G o) (hA : AOK c r N P0 m) (hR : MRep x y o c r N P0 m) {s : Nat} (hs : RSt x o T L s) {kd fx : Int32} :
    ∃ x' y', fX7_noteTold_71 o kd fx (-nW 1) (-nW 1) (wIJ G x y) = some ((), wIJ G x' y') ∧ MCX o x x' ∧ MCY o y y' ∧ ((∃ e, zB (pTo T L c r s) (fun q2 => zB (pEnd T L q2.2.2) fun q3 => .inr (ntF kd fx q2.1 q2.2.1 q3.1 q3.2.1, q3.2.2)) = .inl e ∧ RBd x' o e) ∨ (∃ nt s', zB (pTo T L c r s) (fun q2 => zB (pEnd T L q2.2.2) fun q3 => .inr (ntF kd fx q2.1 q2.2.1 q3.1 q3.2.1, q3.2.2)) = .inr (nt, s') ∧ ((¬ (m < 10 ∧ okN c (c * r) (addN N m nt) P0 (m + 1)) ∧ RBd x' o (6, s')) ∨ ((m < 10 ∧ okN c (c * r) (addN N m nt) P0 (m + 1)) ∧ AOK c r (addN N m nt) P0 (m + 1) ∧ MRep x' y' o c r (addN N m nt) P0 (m + 1) ∧ RSt x' o T L s')))) := by
  obtain ⟨c3, c7, r3, r7⟩ := hA.1
  -- from where the target is known
  have fin : ∀ (x5 : Nat → Nat → Int32) (s5 : Nat) (tx ty : Int32), MTF o x x5 → RSt x5 o T L s5 → pTo T L c r s = .inr (tx, ty, s5) → ∃ x' y', fX7_noteTold_103 o kd fx tx ty (wIJ G x5 y) = some ((), wIJ G x' y') ∧ MCX o x x' ∧ MCY o y y' ∧ ((∃ e, zB (pTo T L c r s) (fun q2 => zB (pEnd T L q2.2.2) fun q3 => .inr (ntF kd fx q2.1 q2.2.1 q3.1 q3.2.1, q3.2.2)) = .inl e ∧ RBd x' o e) ∨ (∃ nt s', zB (pTo T L c r s) (fun q2 => zB (pEnd T L q2.2.2) fun q3 => .inr (ntF kd fx q2.1 q2.2.1 q3.1 q3.2.1, q3.2.2)) = .inr (nt, s') ∧ ((¬ (m < 10 ∧ okN c (c * r) (addN N m nt) P0 (m + 1)) ∧ RBd x' o (6, s')) ∨ ((m < 10 ∧ okN c (c * r) (addN N m nt) P0 (m + 1)) ∧ AOK c r (addN N m nt) P0 (m + 1) ∧ MRep x' y' o c r (addN N m nt) P0 (m + 1) ∧ RSt x' o T L s')))) := by
    intro x5 s5 tx ty f5 g5 kp
    obtain ⟨x', y', q1, q2, q3, q4⟩ := note103_ok (y := y) (kd := kd) (fx := fx) (tx := tx) (ty := ty) h hA (hR.text f5) g5
    refine ⟨x', y', q1, f5.mcx.trans q2, q3, ?_⟩
    rw [kp]
    rcases q4 with ⟨e, e1, e2⟩ | ⟨tk, ck, s', e1, e2⟩
    · exact Or.inl ⟨e, zB_l e1 _, e2⟩
    · exact Or.inr ⟨_, s', zB_r e1 _, e2⟩
  unfold fX7_noteTold_71
  simp only [lits]
  rw [gF_wij h.t, hs.2.2.1, Option.bind_some, if_pos rfl, ck_wij, ck_ok h.t, mis_ok h hs.1 hs.2.1 (by decide), Option.bind_some]
  cases hw : isw T L s 13 with
  | false =>
    rw [if_pos bIf]
    exact fin x s _ _ MTF.rfl' hs (if_neg (by rw [hw]; decide))
  | true =>
    have eT : pTo T L c r s = zB (pNum T L (nx T L s) 0 c) (fun q => zB (pNum T L q.2 0 r) fun q2 => .inr (nW q.1, nW q2.1, q2.2)) := if_pos hw
    obtain ⟨x1, a1, a2, a3⟩ := go_ok (y := y) h hs
    rw [if_neg bIt, ck_wij, ck_ok h.t, a1, Option.bind_some, ck_wij, ck_ok h.t]
    obtain ⟨v2, x2, b1, b2, b3⟩ := column_ok (y := y) h (hR.text a2).1.1 (by omega) a3
    rw [b1, Option.bind_some, ck_wij, ck_ok h.t]
    rcases b3 with ⟨e, e1, e2, e3, -⟩ | ⟨k, s2, e1, e2, e3⟩
    · rw [row_bad h e3.1, Option.bind_some, note103_bad h e3.1]
      exact ⟨x2, y, rfl, (a2.trans b2).mcx, MCY.rfl', Or.inl ⟨e, zB_l (eT.trans (zB_l e1 _)) _, e3⟩⟩
    · obtain ⟨v3, x3, c1, c2, c3⟩ := row_ok (y := y) h ((hR.text a2).text b2).1.1 (by omega) e3
      rw [c1, Option.bind_some]
      rcases c3 with ⟨e, g1, g2, g3, -⟩ | ⟨k2, s3, g1, g2, g3⟩
      · rw [note103_bad h g3.1]
        exact ⟨x3, y, rfl, ((a2.trans b2).trans c2).mcx, MCY.rfl', Or.inl ⟨e, zB_l (eT.trans ((zB_r e1 _).trans (zB_l g1 _))) _, g3⟩⟩
      · rw [e2, g2]
        exact fin x3 s3 _ _ ((a2.trans b2).trans c2) g3 (eT.trans ((zB_r e1 _).trans (zB_r g1 _)))
/-- the command "note", without the step behind its semicolon -/
theorem noteTold_ok (h : MSh G o) (hA : AOK c r N P0 m) (hR : MRep x y o c r N P0 m) {s : Nat} (hs : RSt x o T L s) :
    ∃ x' y', fX7_noteTold o (wIJ G x y) = some ((), wIJ G x' y') ∧ MCX o x x' ∧ MCY o y y' ∧ ((∃ e, pNote T L c r (nx T L s) = .inl e ∧ RBd x' o e) ∨ (∃ nt s', pNote T L c r (nx T L s) = .inr (nt, s') ∧ ((¬ (m < 10 ∧ okN c (c * r) (addN N m nt) P0 (m + 1)) ∧ RBd x' o (6, s')) ∨ ((m < 10 ∧ okN c (c * r) (addN N m nt) P0 (m + 1)) ∧ AOK c r (addN N m nt) P0 (m + 1) ∧ MRep x' y' o c r (addN N m nt) P0 (m + 1) ∧ RSt x' o T L s')))) := by
  obtain ⟨c3, c7, r3, r7⟩ := hA.1
  obtain ⟨x1, a1, a2, a3⟩ := go_ok (y := y) h hs
  have R1 := hR.text a2
  unfold fX7_noteTold fX7_noteTold_0
  simp only [lits]
  rw [ck_wij, ck_ok h.t, a1, Option.bind_some, ck_wij, ck_ok h.t, mkindHere_ok h a3.1 a3.2.1, Option.bind_some]
  generalize hkd : knd T L (nx T L s) = kd
  have good : ¬ (kd = -nW 1 ∧ isw T L (nx T L s) 11 = false) → ∃ x' y', fX7_noteTold_30 o kd o (nW 0) (wIJ G x1 y) = some ((), wIJ G x' y') ∧ MCX o x x' ∧ MCY o y y' ∧ ((∃ e, pNote T L c r (nx T L s) = .inl e ∧ RBd x' o e) ∨ (∃ nt s', pNote T L c r (nx T L s) = .inr (nt, s') ∧ ((¬ (m < 10 ∧ okN c (c * r) (addN N m nt) P0 (m + 1)) ∧ RBd x' o (6, s')) ∨ ((m < 10 ∧ okN c (c * r) (addN N m nt) P0 (m + 1)) ∧ AOK c r (addN N m nt) P0 (m + 1) ∧ MRep x' y' o c r (addN N m nt) P0 (m + 1) ∧ RSt x' o T L s')))) := by
    intro hne
    have eN : pNote T L c r (nx T L s) = zB (pFrom T L c (nx T L (nx T L s))) fun q => zB (pTo T L c r q.2) fun q2 => zB (pEnd T L q2.2.2) fun q3 => .inr (ntF kd q.1 q2.1 q2.2.1 q3.1 q3.2.1, q3.2.2) := by
      unfold pNote
      rw [hkd, if_neg hne]
    obtain ⟨x2, b1, b2, b3⟩ := go_ok (y := y) h a3
    have R2 := R1.text b2
    have fin : ∀ (x5 : Nat → Nat → Int32) (s5 : Nat) (fx : Int32), MTF o x x5 → RSt x5 o T L s5 → pFrom T L c (nx T L (nx T L s)) = .inr (fx, s5) → ∃ x' y', fX7_noteTold_71 o kd fx (-nW 1) (-nW 1) (wIJ G x5 y) = some ((), wIJ G x' y') ∧ MCX o x x' ∧ MCY o y y' ∧ ((∃ e, pNote T L c r (nx T L s) = .inl e ∧ RBd x' o e) ∨ (∃ nt s', pNote T L c r (nx T L s) = .inr (nt, s') ∧ ((¬ (m < 10 ∧ okN c (c * r) (addN N m nt) P0 (m + 1)) ∧ RBd x' o (6, s')) ∨ ((m < 10 ∧ okN c (c * r) (addN N m nt) P0 (m + 1)) ∧ AOK c r (addN N m nt) P0 (m + 1) ∧ MRep x' y' o c r (addN N m nt) P0 (m + 1) ∧ RSt x' o T L s')))) := by
      intro x5 s5 fx f5 g5 kp
      obtain ⟨x', y', q1, q2, q3, q4⟩ := note71_ok (y := y) (kd := kd) (fx := fx) h hA (hR.text f5) g5
      refine ⟨x', y', q1, f5.mcx.trans q2, q3, ?_⟩
      rw [eN, zB_r kp]
      exact q4
    unfold fX7_noteTold_30
    simp only [lits]
    rw [ck_wij, ck_ok h.t, wrong_no h, Option.bind_some, ck_wij, ck_ok h.t, b1, Option.bind_some, gF_wij h.t, b3.2.2.1, Option.bind_some, if_pos rfl, ck_wij, ck_ok h.t, mis_ok h b3.1 b3.2.1 (by decide), Option.bind_some]
    cases hw : isw T L (nx T L (nx T L s)) 12 with
    | false =>
      rw [if_pos bIf]
      exact fin x2 _ _ (a2.trans b2) b3 (if_neg (by rw [hw]; decide))
    | true =>
      have eF : pFrom T L c (nx T L (nx T L s)) = zB (pNum T L (nx T L (nx T L (nx T L s))) 0 c) (fun q => .inr (nW q.1, q.2)) := if_pos hw
      obtain ⟨x3, c1, c2, c3⟩ := go_ok (y := y) h b3
      obtain ⟨v4, x4, d1, d2, d3⟩ := column_ok (y := y) h (R2.text c2).1.1 (by omega) c3
      rw [if_neg bIt, ck_wij, ck_ok h.t, c1, Option.bind_some, ck_wij, ck_ok h.t, d1, Option.bind_some]
      rcases d3 with ⟨e, e1, e2, e3, -⟩ | ⟨k, s2, e1, e2, e3⟩
      · rw [note71_bad h e3.1]
        exact ⟨x4, y, rfl, (((a2.trans b2).trans c2).trans d2).mcx, MCY.rfl', Or.inl ⟨e, eN.trans (zB_l (eF.trans (zB_l e1 _)) _), e3⟩⟩
      · rw [e2]
        exact fin x4 s2 _ (((a2.trans b2).trans c2).trans d2) e3 (eF.trans (zB_r e1 _))
  by_cases hk : kd = -nW 1
  · rw [if_pos hk, ck_wij, ck_ok h.t, mis_ok h a3.1 a3.2.1 (by decide), Option.bind_some]
    cases hw : isw T L (nx T L s) 11 with
    | false =>
      obtain ⟨x2, w1, w2, w3, -⟩ := wrong_yes (y := y) (k := 1) h a3
      rw [if_pos bIf]
      unfold fX7_noteTold_30
      simp only [lits]
      rw [ck_wij, ck_ok h.t, w1, Option.bind_some, ck_wij, ck_ok h.t, go_bad h w3.1, Option.bind_some, gF_wij h.t, w3.1, Option.bind_some, if_neg (by decide), note71_bad h w3.1]
      refine ⟨x2, y, rfl, (a2.trans w2).mcx, MCY.rfl', Or.inl ⟨_, ?_, w3⟩⟩
      unfold pNote
      rw [hkd, if_pos ⟨hk, hw⟩]
    | true =>
      rw [if_neg bIt]
      unfold fX7_noteTold_29
      exact good (fun q => by rw [hw] at q; exact absurd q.2 (by decide))
  · rw [if_neg hk]
    unfold fX7_noteTold_29
    exact good (fun q => hk q.1)
theorem origin42_bad (h : MSh G o) {a b d v : Int32} (hb : x o 25 = nW 1) : fX7_originTold_42 o a b d o v (wIJ G x y) = some ((), wIJ G x y) := by
  unfold fX7_originTold_42
  simp only [lits]
  rw [ck_wij, ck_ok h.t, wrong_bad h hb, Option.bind_some, gF_wij h.t, hb, Option.bind_some, if_neg (by decide)]
/-- the command "origin", without the step behind its semicolon -/
theorem originTold_ok (h : MSh G o) (hA : AOK c r N P0 m) (hR : MRep x y o c r N P0 m) {s : Nat} (hs : RSt x o T L s) :
    ∃ x' y', fX7_originTold o (wIJ G x y) = some ((), wIJ G x' y') ∧ MCX o x x' ∧ MCY o y y' ∧ ((∃ e, pOrg T L c r m (nx T L s) = .inl e ∧ RBd x' o e) ∨ (∃ k cx ry s', pOrg T L c r m (nx T L s) = .inr (k, cx, ry, s') ∧ ((¬ okN c (c * r) (orgN N k (nW cx) (nW ry)) P0 m ∧ RBd x' o (6, s')) ∨ (okN c (c * r) (orgN N k (nW cx) (nW ry)) P0 m ∧ MRep x' y' o c r (orgN N k (nW cx) (nW ry)) P0 m ∧ RSt x' o T L s')))) := by
  obtain ⟨c3, c7, r3, r7⟩ := hA.1
  have hm10 := hA.2.2.1
  obtain ⟨x1, a1, a2, a3⟩ := go_ok (y := y) h hs
  have R1 := hR.text a2
  unfold fX7_originTold fX7_originTold_0 pOrg
  simp only [lits]
  rw [ck_wij, ck_ok h.t, a1, Option.bind_some, gR_wij, h.g0, Option.bind_some, R1.s2 h, Option.bind_some, ck_wij, ck_ok h.t]
  obtain ⟨v2, x2, b1, b2, b3⟩ := number_ok (y := y) (lo := 0) (hb := m) h a3 (by decide) (by omega)
  rw [b1, Option.bind_some, ck_wij, ck_ok h.t]
  rcases b3 with ⟨e, e1, e2, e3, -⟩ | ⟨k, s2, e1, e2, e3⟩
  · rw [column_bad h e3.1, Option.bind_some, ck_wij, ck_ok h.t, row_bad h e3.1, Option.bind_some, gF_wij h.t, Option.bind_some, origin42_bad h e3.1, origin42_bad h e3.1, ite_self]
    exact ⟨x2, y, rfl, (a2.trans b2).mcx, MCY.rfl', Or.inl ⟨e, zB_l e1 _, e3⟩⟩
  · have R2 := R1.text b2
    have hk := (pNum_lt e1).2.1
    obtain ⟨v3, x3, c1, c2, c3⟩ := column_ok (y := y) h R2.1.1 (by omega) e3
    rw [c1, Option.bind_some, ck_wij, ck_ok h.t]
    rcases c3 with ⟨e, g1, g2, g3, -⟩ | ⟨cx, s3, g1, g2, g3⟩
    · rw [row_bad h g3.1, Option.bind_some, gF_wij h.t, Option.bind_some, origin42_bad h g3.1, origin42_bad h g3.1, ite_self]
      exact ⟨x3, y, rfl, ((a2.trans b2).trans c2).mcx, MCY.rfl', Or.inl ⟨e, (zB_r e1 _).trans (zB_l g1 _), g3⟩⟩
    · have R3 := R2.text c2
      obtain ⟨v4, x4, d1, d2, d3⟩ := row_ok (y := y) h R3.1.1 (by omega) g3
      rw [d1, Option.bind_some, gF_wij h.t, Option.bind_some]
      rcases d3 with ⟨e, p1, p2, p3, -⟩ | ⟨ry, s4, p1, p2, p3⟩
      · rw [origin42_bad h p3.1, origin42_bad h p3.1, ite_self]
        exact ⟨x4, y, rfl, (((a2.trans b2).trans c2).trans d2).mcx, MCY.rfl', Or.inl ⟨e, (zB_r e1 _).trans ((zB_r g1 _).trans (zB_l p1 _)), p3⟩⟩
      · have R4 := R3.text d2
        have fr4 : MTF o x x4 := ((a2.trans b2).trans c2).trans d2
        have eO : ∀ (z : (Nat × Nat) ⊕ (Nat × Nat × Nat × Nat)), (if srt T L s4 = 4 then (.inr (k, cx, ry, s4) : (Nat × Nat) ⊕ (Nat × Nat × Nat × Nat)) else .inl (1, s4)) = z → zB (pNum T L (nx T L s) 0 m) (fun q => zB (pNum T L q.2 0 c) fun q2 => zB (pNum T L q2.2 0 r) fun q3 => if srt T L q3.2 = 4 then (.inr (q.1, q2.1, q3.1, q3.2) : (Nat × Nat) ⊕ (Nat × Nat × Nat × Nat)) else .inl (1, q3.2)) = z := fun z hz => (zB_r e1 _).trans ((zB_r g1 _).trans ((zB_r p1 _).trans hz))
        by_cases e4 : srt T L s4 = 4
        · rw [if_pos (p3.2.1.semi.mpr e4), e2, g2, p2]
          unfold fX7_originTold_42
          simp only [lits]
          rw [ck_wij, ck_ok h.t, wrong_no h, Option.bind_some, gF_wij h.t, p3.2.2.1, Option.bind_some, if_pos rfl, ck_wij, ck_ok h.t]
          obtain ⟨v5, x5, y5, f1, f2, f3, f4⟩ := states_ok (cx := nW cx) (ry := nW ry) h hA R4 hk
          have s5 : RSt x5 o T L s4 := p3.same (f2 o (by omega) (by omega)) (f2 (o + 6) (by omega) (by omega))
          rw [f1, Option.bind_some]
          rcases f4 with ⟨n1, n2, n3⟩ | ⟨n1, n2, n3⟩
          · have o1 : orgN N k (nW cx) (nW ry) k 1 = nW cx := by
              unfold orgN updF
              rw [if_pos rfl, if_pos rfl]
            have o2 : orgN N k (nW cx) (nW ry) k 2 = nW ry := by
              unfold orgN updF
              rw [if_pos rfl, if_neg (by decide), if_pos rfl]
            have hN := n3.1.2.2.2 k hk
            rw [n2, if_neg (show ¬ nW 1 = nW 0 by decide), ck_wij, ck_ok h.t, of_ok h (by omega) (by decide) hN, Option.bind_some, o1, if_pos rfl, ck_wij, ck_ok h.t, of_ok h (by omega) (by decide) hN, Option.bind_some, o2, if_pos rfl]
            unfold fX7_originTold_89 fX7_originTold_102
            simp only [lits]
            rw [if_neg (by decide), ck_wij, ck_ok h.t, wrong_no h, Option.bind_some]
            exact ⟨x5, y5, rfl, fr4.mcx.trans (MCX.of f2), f3, Or.inr ⟨k, cx, ry, s4, eO _ (if_pos e4), Or.inr ⟨n1, n3, s5⟩⟩⟩
          · obtain ⟨x6, w1, w2, w3, -⟩ := wrong_yes (y := y5) (k := 6) h s5
            rw [n2, if_pos (show nW 0 = nW 0 from rfl)]
            unfold fX7_originTold_88 fX7_originTold_89 fX7_originTold_102
            simp only [lits]
            rw [if_pos trivial, ck_wij, ck_ok h.t, w1, Option.bind_some]
            exact ⟨x6, y5, rfl, (fr4.mcx.trans (MCX.of f2)).trans w2.mcx, f3, Or.inr ⟨k, cx, ry, s4, eO _ (if_pos e4), Or.inl ⟨n1, w3⟩⟩⟩
        · obtain ⟨x6, w1, w2, w3, -⟩ := wrong_yes (y := y) (k := 1) h p3
          rw [if_neg (fun q => e4 (p3.2.1.semi.mp q))]
          unfold fX7_originTold_42
          simp only [lits]
          rw [ck_wij, ck_ok h.t, w1, Option.bind_some, gF_wij h.t, w3.1, Option.bind_some, if_neg (by decide)]
          exact ⟨x6, y, rfl, (fr4.trans w2).mcx, MCY.rfl', Or.inl ⟨_, eO _ (if_neg e4), w3⟩⟩
/-- the step behind a command -/
theorem cmd118_bad (h : MSh G o) (hb : x o 25 = nW 1) : fX7_command_118 o (wIJ G x y) = some ((), wIJ G x y) := by
  unfold fX7_command_118
  rw [ck_wij, ck_ok h.t, go_bad h hb]; rfl
theorem cmd118_ok (h : MSh G o) {s : Nat} (hs : RSt x o T L s) : ∃ x', fX7_command_118 o (wIJ G x y) = some ((), wIJ G x' y) ∧ MTF o x x' ∧ RSt x' o T L (nx T L s) := by
  obtain ⟨x', g1, g2, g3⟩ := go_ok (y := y) h hs
  unfold fX7_command_118
  rw [ck_wij, ck_ok h.t, g1]
  exact ⟨x', rfl, g2, g3⟩
theorem command_ok (h : MSh G o) (hA : AOK c r N P0 m) (hR : MRep x y o c r N P0 m) {s : Nat} (hs : RSt x o T L s) : MEn G o T L x y (fX7_command o (wIJ G x y)) (pCmd T L (c, r, N, P0, m) s) := by
  have hm10 := hA.2.2.1
  unfold fX7_command fX7_command_0 pCmd
  simp only [lits]
  rw [ck_wij, ck_ok h.t, mis_ok h hs.1 hs.2.1 (by decide), Option.bind_some]
  cases h8 : isw T L s 8 with
  | true =>
    rw [if_neg bIt, if_pos rfl, ck_wij, ck_ok h.t]
    obtain ⟨x', y', q1, q2, q3, q4⟩ := noteTold_ok h hA hR hs
    rw [q1, Option.bind_some]
    rcases q4 with ⟨e, e1, e2⟩ | ⟨nt, s', e1, ⟨e2, e3⟩ | ⟨e2, e3, e4, e5⟩⟩
    · rw [cmd118_bad h e2.1]
      exact ⟨x', y', rfl, q2, q3, Or.inl ⟨e, zB_l e1 _, e2⟩⟩
    · rw [cmd118_bad h e3.1]
      refine ⟨x', y', rfl, q2, q3, Or.inl ⟨_, (zB_r e1 _).trans ?_, e3⟩⟩
      show pRes T L (aAdd (c, r, N, P0, m) nt) s' = _
      rw [aAdd_none e2]; rfl
    · obtain ⟨x2, g1, g2, g3⟩ := cmd118_ok (y := y') h e5
      rw [g1]
      refine ⟨x2, y', rfl, q2.trans g2.mcx, q3, Or.inr ⟨(c, r, addN N m nt, P0, m + 1), nx T L s', (zB_r e1 _).trans ?_, e3, e4.text g2, g3⟩⟩
      show pRes T L (aAdd (c, r, N, P0, m) nt) s' = _
      rw [aAdd_some e2]; rfl
  | false =>
    rw [if_pos bIf, if_neg (by decide), ck_wij, ck_ok h.t, mis_ok h hs.1 hs.2.1 (by decide), Option.bind_some]
    cases h9 : isw T L s 9 with
    | true =>
      rw [if_neg bIt, if_pos rfl, ck_wij, ck_ok h.t]
      obtain ⟨x', y', q1, q2, q3, q4⟩ := originTold_ok h hA hR hs
      rw [q1, Option.bind_some]
      rcases q4 with ⟨e, e1, e2⟩ | ⟨k, cx, ry, s', e1, ⟨e2, e3⟩ | ⟨e2, e3, e4⟩⟩
      · rw [cmd118_bad h e2.1]
        exact ⟨x', y', rfl, q2, q3, Or.inl ⟨e, zB_l e1 _, e2⟩⟩
      · rw [cmd118_bad h e3.1]
        refine ⟨x', y', rfl, q2, q3, Or.inl ⟨_, (zB_r e1 _).trans ?_, e3⟩⟩
        show pRes T L (aOrg (c, r, N, P0, m) k (nW cx) (nW ry)) s' = _
        rw [aOrg_none e2]; rfl
      · obtain ⟨x2, g1, g2, g3⟩ := cmd118_ok (y := y') h e4
        rw [g1]
        refine ⟨x2, y', rfl, q2.trans g2.mcx, q3, Or.inr ⟨(c, r, orgN N k (nW cx) (nW ry), P0, m), nx T L s', (zB_r e1 _).trans ?_, hA.org e2, e3.text g2, g3⟩⟩
        show pRes T L (aOrg (c, r, N, P0, m) k (nW cx) (nW ry)) s' = _
        rw [aOrg_some e2]; rfl
    | false =>
      rw [if_pos bIf, if_neg (by decide), ck_wij, ck_ok h.t, mis_ok h hs.1 hs.2.1 (by decide), Option.bind_some]
      cases h10 : isw T L s 10 with
      | true =>
        rw [if_neg bIt, if_pos rfl]
        obtain ⟨x1, a1, a2, a3⟩ := go_ok (y := y) h hs
        have R1 := hR.text a2
        unfold fX7_command_50
        simp only [lits]
        rw [ck_wij, ck_ok h.t, wrong_no h, Option.bind_some, ck_wij, ck_ok h.t, a1, Option.bind_some, gF_wij h.t, Option.bind_some]
        by_cases e4 : srt T L (nx T L s) = 4
        · rw [if_pos (a3.2.1.semi.mpr e4), if_pos e4]
          unfold fX7_command_72 fX7_command_97
          simp only [lits]
          rw [ck_wij, ck_ok h.t, wrong_no h, Option.bind_some, gF_wij h.t, a3.2.2.1, Option.bind_some, if_pos rfl, gR_wij, h.g0, Option.bind_some, R1.s2 h, Option.bind_some]
          by_cases hm : m = 0
          · obtain ⟨x2, w1, w2, w3, -⟩ := wrong_yes (y := y) (k := 6) h a3
            rw [if_pos (by rw [hm])]
            unfold fX7_command_98
            simp only [lits]
            rw [ck_wij, ck_ok h.t, w1, Option.bind_some, gF_wij h.t, w3.1, Option.bind_some, if_neg (by decide), cmd118_bad h w3.1]
            refine ⟨x2, y, rfl, (a2.trans w2).mcx, MCY.rfl', Or.inl ⟨_, ?_, w3⟩⟩
            have : aDrop (c, r, N, P0, m) = none := if_pos hm
            rw [this]; rfl
          · obtain ⟨x2, y2, d1, d2, d3, d4⟩ := drops_ok (y := y) h (show m = m - 1 + 1 by omega) hA R1
            have s2 : RSt x2 o T L (nx T L s) := a3.same (d2 o (by omega)) (d2 (o + 6) (by omega))
            have t3 : MTF o x2 (u2 x2 o 26 (nW (m - 1))) := fun b j q => u2_other (by omega)
            have s3 : RSt (u2 x2 o 26 (nW (m - 1))) o T L (nx T L s) := ⟨s2.1.frame (by rw [u2_other (by omega)]) (by rw [u2_arow (by omega)]), s2.2.1.frame (fun j z1 z2 => by rw [u2_other (by omega)]), by rw [u2_other (by omega)]; exact s2.2.2.1, by rw [u2_other (by omega)]; exact s2.2.2.2.1, by rw [u2_other (by omega)]; exact s2.2.2.2.2⟩
            obtain ⟨x4, g1, g2, g3⟩ := cmd118_ok (y := y2) h s3
            rw [if_neg (by rw [nW_eq (by omega) (by decide)]; exact hm)]
            unfold fX7_command_98
            simp only [lits]
            rw [ck_wij, ck_ok h.t, wrong_no h, Option.bind_some, gF_wij h.t, a3.2.2.1, Option.bind_some, if_pos rfl, ck_wij, ck_ok h.t, d1, Option.bind_some, pI_wij h.t, Option.bind_some, g1]
            refine ⟨x4, y2, rfl, ((a2.mcx.trans (MCX.of (fun b z _ => d2 b z))).trans t3.mcx).trans g2.mcx, fun b z => d3 b (by omega), Or.inr ⟨(c, r, N, P0, m - 1), nx T L (nx T L s), ?_, hA.mono (Nat.sub_le m 1), (d4.text t3).text g2, g3⟩⟩
            have : aDrop (c, r, N, P0, m) = some (c, r, N, P0, m - 1) := if_neg hm
            rw [this]; rfl
        · obtain ⟨x2, w1, w2, w3, -⟩ := wrong_yes (y := y) (k := 1) h a3
          rw [if_neg (fun q => e4 (a3.2.1.semi.mp q)), if_neg e4]
          unfold fX7_command_72 fX7_command_97 fX7_command_98
          simp only [lits]
          rw [ck_wij, ck_ok h.t, w1, Option.bind_some, gF_wij h.t, w3.1, Option.bind_some, if_neg (by decide), ck_wij, ck_ok h.t, wrong_no h, Option.bind_some, gF_wij h.t, w3.1, Option.bind_some, if_neg (by decide), cmd118_bad h w3.1]
          exact ⟨x2, y, rfl, (a2.trans w2).mcx, MCY.rfl', Or.inl ⟨_, rfl, w3⟩⟩
      | false =>
        obtain ⟨x2, w1, w2, w3, -⟩ := wrong_yes (y := y) (k := 1) h hs
        rw [if_pos bIf, if_neg (by decide)]
        unfold fX7_command_50 fX7_command_72 fX7_command_97 fX7_command_98
        simp only [lits]
        rw [ck_wij, ck_ok h.t, w1, Option.bind_some, ck_wij, ck_ok h.t, go_bad h w3.1, Option.bind_some, gF_wij h.t, Option.bind_some]
        have e72 : ∀ v : Int32, (ck (wIJ G x2 y) 17 o ((fX7_wrong o v (nW 1) (wIJ G x2 y)).bind fun q1 => (gF q1.2 17 o 25).bind fun v2 => if v2 = nW 0 then (gR q1.2 17 o 0).bind fun v4 => (gA q1.2 1 v4 (nW 2)).bind fun v5 => if v5 = nW 0 then ck q1.2 17 o ((fX7_wrong o (nW 1) (nW 6) q1.2).bind fun q1 => (gF q1.2 17 o 25).bind fun v2 => if v2 = nW 0 then ck q1.2 17 o ((fX7_drops o q1.2).bind fun q4 => (pI q4.2 17 o 26 q4.1).bind fun G5 => fX7_command_118 o G5) else fX7_command_118 o q1.2) else ck q1.2 17 o ((fX7_wrong o (nW 0) (nW 6) q1.2).bind fun q1 => (gF q1.2 17 o 25).bind fun v2 => if v2 = nW 0 then ck q1.2 17 o ((fX7_drops o q1.2).bind fun q4 => (pI q4.2 17 o 26 q4.1).bind fun G5 => fX7_command_118 o G5) else fX7_command_118 o q1.2) else ck q1.2 17 o ((fX7_wrong o (nW 0) (nW 6) q1.2).bind fun q1 => (gF q1.2 17 o 25).bind fun v2 => if v2 = nW 0 then ck q1.2 17 o ((fX7_drops o q1.2).bind fun q4 => (pI q4.2 17 o 26 q4.1).bind fun G5 => fX7_command_118 o G5) else fX7_command_118 o q1.2))) = some ((), wIJ G x2 y) := fun v => by
          rw [ck_wij, ck_ok h.t, wrong_bad h w3.1, Option.bind_some, gF_wij h.t, w3.1, Option.bind_some, if_neg (by decide), ck_wij, ck_ok h.t, wrong_no h, Option.bind_some, gF_wij h.t, w3.1, Option.bind_some, if_neg (by decide), cmd118_bad h w3.1]
        refine ⟨x2, y, ?_, w2.mcx, MCY.rfl', Or.inl ⟨_, rfl, w3⟩⟩
        split
        · exact e72 _
        · exact e72 _
end MCMD
