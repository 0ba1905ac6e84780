/-! ===== commands, as mathematics; the reference carries them out ===== -/
abbrev AAOK (A : ASt) : Prop := AOK A.1 A.2.1 A.2.2.1 A.2.2.2.1 A.2.2.2.2
noncomputable def aAdd (A : ASt) (nt : Nat → Int32) : Option ASt := @ite _ (A.2.2.2.2 < 10 ∧ okN A.1 (A.1 * A.2.1) (addN A.2.2.1 A.2.2.2.2 nt) A.2.2.2.1 (A.2.2.2.2 + 1)) (Classical.propDecidable _) (some (A.1, A.2.1, addN A.2.2.1 A.2.2.2.2 nt, A.2.2.2.1, A.2.2.2.2 + 1)) none
noncomputable def aOrg (A : ASt) (k : Nat) (cx ry : Int32) : Option ASt := @ite _ (okN A.1 (A.1 * A.2.1) (orgN A.2.2.1 k cx ry) A.2.2.2.1 A.2.2.2.2) (Classical.propDecidable _) (some (A.1, A.2.1, orgN A.2.2.1 k cx ry, A.2.2.2.1, A.2.2.2.2)) none
def aDrop (A : ASt) : Option ASt := if A.2.2.2.2 = 0 then none else some (A.1, A.2.1, A.2.2.1, A.2.2.2.1, A.2.2.2.2 - 1)
def pRes (T : Nat → Nat) (L : Nat) (z : Option ASt) (s : Nat) : (Nat × Nat) ⊕ (ASt × Nat) := match z with
  | some A => .inr (A, nx T L s)
  | none => .inl (6, s)
/-- one command, whose word stands at s -/
noncomputable def pCmd (T : Nat → Nat) (L : Nat) (A : ASt) (s : Nat) : (Nat × Nat) ⊕ (ASt × Nat) :=
  if isw T L s 8 = true then zB (pNote T L A.1 A.2.1 (nx T L s)) fun q => pRes T L (aAdd A q.1) q.2
  else if isw T L s 9 = true then zB (pOrg T L A.1 A.2.1 A.2.2.2.2 (nx T L s)) fun q => pRes T L (aOrg A q.1 (nW q.2.1) (nW q.2.2.1)) q.2.2.2
  else if isw T L s 10 = true then (if srt T L (nx T L s) = 4 then pRes T L (aDrop A) (nx T L s) else .inl (1, nx T L s))
  else .inl (1, s)
theorem aAdd_some {c r m : Nat} {N : Nat → Nat → Int32} {P0 : Nat → Nat} {nt : Nat → Int32} (h : m < 10 ∧ okN c (c * r) (addN N m nt) P0 (m + 1)) : aAdd (c, r, N, P0, m) nt = some (c, r, addN N m nt, P0, m + 1) := if_pos h
theorem aAdd_none {c r m : Nat} {N : Nat → Nat → Int32} {P0 : Nat → Nat} {nt : Nat → Int32} (h : ¬ (m < 10 ∧ okN c (c * r) (addN N m nt) P0 (m + 1))) : aAdd (c, r, N, P0, m) nt = none := if_neg h
theorem aOrg_some {c r m k : Nat} {N : Nat → Nat → Int32} {P0 : Nat → Nat} {cx ry : Int32} (h : okN c (c * r) (orgN N k cx ry) P0 m) : aOrg (c, r, N, P0, m) k cx ry = some (c, r, orgN N k cx ry, P0, m) := if_pos h
theorem aOrg_none {c r m k : Nat} {N : Nat → Nat → Int32} {P0 : Nat → Nat} {cx ry : Int32} (h : ¬ okN c (c * r) (orgN N k cx ry) P0 m) : aOrg (c, r, N, P0, m) k cx ry = none := if_neg h
theorem AOK.add {c r m : Nat} {N : Nat → Nat → Int32} {P0 : Nat → Nat} {nt : Nat → Int32} (hA : AOK c r N P0 m) (hm : m < 10) (hok : okN c (c * r) (addN N m nt) P0 (m + 1)) (h5 : nt 5 = 0 ∨ nt 5 = 1) (h6 : nt 6 = 0 ∨ nt 6 = 1) : AOK c r (addN N m nt) P0 (m + 1) := by
  refine ⟨hA.1, hA.2.1, hm, hok, fun i hi => ?_⟩
  unfold addN updF
  by_cases e : i = m
  · rw [if_pos e]; exact ⟨h5, h6⟩
  · rw [if_neg e]; exact hA.2.2.2.2 i (by omega)
theorem AOK.org {c r m k : Nat} {N : Nat → Nat → Int32} {P0 : Nat → Nat} {cx ry : Int32} (hA : AOK c r N P0 m) (hok : okN c (c * r) (orgN N k cx ry) P0 m) : AOK c r (orgN N k cx ry) P0 m := ⟨hA.1, hA.2.1, hA.2.2.1, hok, hA.2.2.2.2.org⟩
section MCMD
variable {G : Mem} {o : Nat} {c r m : Nat} {N : Nat → Nat → Int32} {P0 : Nat → Nat} {x : Nat → Nat → Int32} {y : Nat → Nat → Int64} {T : Nat → Nat} {L : Nat}
/-- what a command may change in the reference -/
def MCX (o : Nat) (x x' : Nat → Nat → Int32) : Prop := ∀ b j, ¬ (b = o ∧ (j = 11 ∨ j = 12 ∨ 21 ≤ j)) → b ≠ o + 1 → (b < o + 8 ∨ o + 12 < b) → x' b j = x b j
def MCY (o : Nat) (y y' : Nat → Nat → Int64) : Prop := ∀ b, b < o + 13 ∨ o + 14 < b → y' b = y b
theorem MCX.trans {x' x2 : Nat → Nat → Int32} (h : MCX o x x') (h2 : MCX o x' x2) : MCX o x x2 := fun b j q1 q2 q3 => (h2 b j q1 q2 q3).trans (h b j q1 q2 q3)
theorem MCY.trans {y' y2 : Nat → Nat → Int64} (h : MCY o y y') (h2 : MCY o y' y2) : MCY o y y2 := fun b q => (h2 b q).trans (h b q)
theorem MCX.of {x' : Nat → Nat → Int32} (h : ∀ b, b ≠ o + 1 → (b < o + 8 ∨ o + 12 < b) → x' b = x b) : MCX o x x' := fun b j _ q2 q3 => by rw [h b q2 q3]
theorem MCY.rfl' : MCY o y y := fun _ _ => rfl
theorem RSt.same {x' : Nat → Nat → Int32} {s : Nat} (hs : RSt x o T L s) (h0 : x' o = x o) (h6 : x' (o + 6) = x (o + 6)) : RSt x' o T L s := ⟨hs.1.frame (by rw [h0]) h6, hs.2.1.frame (fun j _ _ => by rw [h0]), by rw [h0]; exact hs.2.2.1, by rw [h0]; exact hs.2.2.2.1, by rw [h0]; exact hs.2.2.2.2⟩
theorem MPs.cong {N' : Nat → Nat → Int32} (hP : MPs x o c r N P0 m) (h : ∀ k, k < m → ∀ j, j < 7 → N k j = N' k j) : MPs x o c r N' P0 m := ⟨hP.1, hP.2.1, hP.2.2.1, fun i hi j hj => (hP.2.2.2 i hi j hj).trans (h i hi j hj)⟩
/-- how a command ends in the reference: wrong, or with another state -/
def MEn (G : Mem) (o : Nat) (T : Nat → Nat) (L : Nat) (x : Nat → Nat → Int32) (y : Nat → Nat → Int64) (z : Option (Unit × Mem)) (p : (Nat × Nat) ⊕ (ASt × Nat)) : Prop :=
  ∃ x' y', z = some ((), wIJ G x' y') ∧ MCX o x x' ∧ MCY o y y' ∧ ((∃ e, p = .inl e ∧ RBd x' o e) ∨ (∃ A s', p = .inr (A, s') ∧ AAOK A ∧ MRep x' y' o A.1 A.2.1 A.2.2.1 A.2.2.2.1 A.2.2.2.2 ∧ RSt x' o T L s'))
theorem MEn.from {x1 : Nat → Nat → Int32} {y1 : Nat → Nat → Int64} {z : Option (Unit × Mem)} {p : (Nat × Nat) ⊕ (ASt × Nat)} (hx : MCX o x x1) (hy : MCY o y y1) (h : MEn G o T L x1 y1 z p) : MEn G o T L x y z p := by
  obtain ⟨x', y', e1, e2, e3, e4⟩ := h
  exact ⟨x', y', e1, hx.trans e2, hy.trans e3, e4⟩
end MCMD
