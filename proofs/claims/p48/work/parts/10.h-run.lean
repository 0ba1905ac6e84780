/-! ===== runs of commands ===== -/
theorem zB_inr {α β : Type} {p : (Nat × Nat) ⊕ α} {f : α → (Nat × Nat) ⊕ β} {b : β} (h : zB p f = .inr b) : ∃ a, p = .inr a ∧ f a = .inr b := by
  cases p with
  | inl e => cases h
  | inr a => exact ⟨a, rfl, h⟩
section PGT
variable {T : Nat → Nat} {L : Nat}
theorem pOpt_ge (s w : Nat) : s ≤ pOpt T L s w := by
  unfold pOpt
  split
  · exact nx_ge s
  · exact Nat.le_refl _
theorem pNote_ge {c r s s' : Nat} {nt : Nat → Int32} (h : pNote T L c r s = .inr (nt, s')) : s ≤ s' := by
  unfold pNote at h
  split at h
  · cases h
  · obtain ⟨a, h1, h⟩ := zB_inr h
    obtain ⟨b, h2, h⟩ := zB_inr h
    obtain ⟨d, h3, h⟩ := zB_inr h
    cases h
    have e1 : nx T L s ≤ a.2 := by
      unfold pFrom at h1
      split at h1
      · obtain ⟨q, g1, g2⟩ := zB_inr h1
        cases g2
        have := pNum_lt (k := q.1) (s' := q.2) g1
        have := nx_ge (T := T) (L := L) (nx T L s)
        show nx T L s ≤ q.2
        omega
      · cases h1; exact Nat.le_refl _
    have e2 : a.2 ≤ b.2.2 := by
      unfold pTo at h2
      split at h2
      · obtain ⟨q, g1, g2⟩ := zB_inr h2
        obtain ⟨q2, g3, g4⟩ := zB_inr g2
        cases g4
        have := pNum_lt (k := q.1) (s' := q.2) g1
        have := pNum_lt (k := q2.1) (s' := q2.2) g3
        have := nx_ge (T := T) (L := L) a.2
        show a.2 ≤ q2.2
        omega
      · cases h2; exact Nat.le_refl _
    have e3 : b.2.2 ≤ d.2.2 := by
      unfold pEnd at h3
      split at h3
      · cases h3
        exact Nat.le_trans (pOpt_ge _ _) (pOpt_ge _ _)
      · cases h3
    have := nx_ge (T := T) (L := L) s
    omega
theorem pOrg_ge {c r m s k cx ry s' : Nat} (h : pOrg T L c r m s = .inr (k, cx, ry, s')) : s ≤ s' := by
  unfold pOrg at h
  obtain ⟨a, h1, h⟩ := zB_inr h
  obtain ⟨b, h2, h⟩ := zB_inr h
  obtain ⟨d, h3, h⟩ := zB_inr h
  split at h
  · cases h
    have := pNum_lt (k := a.1) (s' := a.2) h1
    have := pNum_lt (k := b.1) (s' := b.2) h2
    have := pNum_lt (k := d.1) (s' := d.2) h3
    show s ≤ d.2
    omega
  · cases h
theorem pRes_inr {z : Option ASt} {s s' : Nat} {A : ASt} (h : pRes T L z s = .inr (A, s')) : z = some A ∧ s' = nx T L s := by
  cases z with
  | none => cases h
  | some B => cases h; exact ⟨rfl, rfl⟩
theorem pCmd_gt {A A' : ASt} {s s' : Nat} (h : pCmd T L A s = .inr (A', s')) : s < s' := by
  unfold pCmd at h
  split at h
  · next h8 =>
    obtain ⟨a, h1, h⟩ := zB_inr h
    have := pNote_ge (nt := a.1) (s' := a.2) h1
    obtain ⟨-, e⟩ := pRes_inr h
    have := nx_ge (T := T) (L := L) a.2
    have := nx_gt (T := T) (L := L) (s := s) (by rw [isw_srt h8]; decide)
    omega
  · split at h
    · next h9 =>
      obtain ⟨a, h1, h⟩ := zB_inr h
      have := pOrg_ge (k := a.1) (cx := a.2.1) (ry := a.2.2.1) (s' := a.2.2.2) h1
      obtain ⟨-, e⟩ := pRes_inr h
      have := nx_ge (T := T) (L := L) a.2.2.2
      have := nx_gt (T := T) (L := L) (s := s) (by rw [isw_srt h9]; decide)
      omega
    · split at h
      · next h10 =>
        split at h
        · obtain ⟨-, e⟩ := pRes_inr h
          have := nx_ge (T := T) (L := L) (nx T L s)
          have := nx_gt (T := T) (L := L) (s := s) (by rw [isw_srt h10]; decide)
          omega
        · cases h
      · cases h
end PGT
/-- the commands from s on; n have been carried out -/
noncomputable def pCmds (T : Nat → Nat) (L : Nat) : Nat → ASt → Nat → Nat → (Nat × Nat) ⊕ (ASt × Nat)
  | 0, _, _, _ => .inl (0, 0)
  | d + 1, A, s, n => if srt T L s = 0 then .inr (A, n) else zB (pCmd T L A s) fun q => pCmds T L d q.1 q.2 (n + 1)
theorem loopM_lift {σ ρ : Type} {f : σ → Mem → Option ((σ ⊕ ρ) × Mem)} {fu : Nat} {s : σ} {G : Mem} {X : Option (ρ × Mem)} (h : f s G = liftE X) : loopM f (fu + 1) s G = X := by
  unfold loopM
  rw [h]
  cases X <;> rfl
theorem loopM_next {σ ρ : Type} {f : σ → Mem → Option ((σ ⊕ ρ) × Mem)} {fu : Nat} {s s' : σ} {G G' : Mem} (h : f s G = some (.inl s', G')) : loopM f (fu + 1) s G = loopM f fu s' G' := by
  conv => lhs; unfold loopM
  rw [h]
  rfl
/-! the reference -/
section MRUN
variable {G : Mem} {o : Nat} {T : Nat → Nat} {L : Nat}
end MRUN
/-! the class -/
section CRUN
variable {G : Mem} {x : Nat → Nat → Int32} {y : Nat → Nat → Int64} {T : Nat → Nat} {L : Nat}
/-- what the parser may write while it reads a command, its kind too -/
def CCG (x x' : Nat → Nat → Int32) : Prop := ∀ b j, ¬ (b = 2 ∧ 1 ≤ j ∧ j ≤ 4) → ¬ (b = 1 ∧ ((1 ≤ j ∧ j ≤ 2) ∨ (5 ≤ j ∧ j ≤ 9))) → b ≠ 4 → x' b j = x b j
theorem CCF.ccg {x x' : Nat → Nat → Int32} (h : CCF x x') : CCG x x' := fun b j q1 q2 q3 => h b j q1 (fun z => q2 ⟨z.1, by omega⟩) q3
theorem CCG.trans {x x' x2 : Nat → Nat → Int32} (h : CCG x x') (h2 : CCG x' x2) : CCG x x2 := fun b j q1 q2 q3 => (h2 b j q1 q2 q3).trans (h b j q1 q2 q3)
theorem pOrg_semi {c r m s : Nat} : pOrg T L c r m s = zB (zB (pNum T L s 0 m) (fun q => zB (pNum T L q.2 0 c) fun q2 => zB (pNum T L q2.2 0 r) fun q3 => .inr (q.1, q2.1, q3.1, q3.2))) (fun q => if srt T L q.2.2.2 = 4 then .inr q else .inl (1, q.2.2.2)) := by
  unfold pOrg
  cases pNum T L s 0 m with
  | inl e => rfl
  | inr a =>
    show zB (pNum T L a.2 0 c) _ = zB (zB (pNum T L a.2 0 c) _) _
    cases pNum T L a.2 0 c with
    | inl e => rfl
    | inr b =>
      show zB (pNum T L b.2 0 r) _ = zB (zB (pNum T L b.2 0 r) _) _
      cases pNum T L b.2 0 r with
      | inl e => rfl
      | inr d => rfl
/-- a command is read up to its semicolon -/
theorem readCommand_ok (h : PSh G) {s st c r m : Nat} {N : Nat → Nat → Int32} {P0 : Nat → Nat} (hs : CSt x T L s) (hst : mt G st = 13) (hsb : mP G st 0 = some (st + 1)) (hsn : 9 ≤ st) (hmc : x st 1 = nW m) (hbd : mt G (st + 1) = 10) (hc : x (st + 1) 0 = nW c) (hr : x (st + 1) 1 = nW r) (hz : szs c r) (hm : m ≤ 10) :
    ∃ v x', fX2_readCommand 1 st (wIJ G x y) = some (v, wIJ G x' y) ∧ CCG x x' ∧ ((∃ e, pCmd T L (c, r, N, P0, m) s = .inl e ∧ v = nW 0 ∧ CBd x' e) ∨ (v = nW 1 ∧ ∃ s', CSt x' T L s' ∧ srt T L s' = 4 ∧
      ((x' 1 5 = nW 0 ∧ ∃ nt, pCmd T L (c, r, N, P0, m) s = pRes T L (aAdd (c, r, N, P0, m) nt) s' ∧ (∀ j, j < 7 → x' 4 j = nt j) ∧ (nt 5 = 0 ∨ nt 5 = 1) ∧ (nt 6 = 0 ∨ nt 6 = 1)) ∨
       (x' 1 5 = nW 1 ∧ ∃ k cx ry, pCmd T L (c, r, N, P0, m) s = pRes T L (aOrg (c, r, N, P0, m) k (nW cx) (nW ry)) s' ∧ k < m ∧ x' 1 7 = nW k ∧ x' 1 8 = nW cx ∧ x' 1 9 = nW ry) ∨
       (x' 1 5 = nW 2 ∧ pCmd T L (c, r, N, P0, m) s = pRes T L (aDrop (c, r, N, P0, m)) s')))) := by
  obtain ⟨c3, c7, r3, r7⟩ := hz
  have sb : gR G 13 st 0 = some (st + 1) := gR_ok hst hsb
  -- a kind of command is noted
  have kind : ∀ v, CSt (u2 x 1 5 v) T L s ∧ CCG x (u2 x 1 5 v) := fun v => ⟨hs.same (by rw [u2_arow (by omega)]) (by rw [u2_arow (by omega)]) ⟨by rw [u2_other (by omega)], by rw [u2_other (by omega)]⟩, fun b j _ q _ => u2_other (by omega)⟩
  unfold fX2_readCommand fX2_readCommand_0 pCmd
  simp only [lits]
  rw [gR_wij, h.g0, Option.bind_some, ck_wij, ck_ok h.2.1.1, is_ok h hs.1 hs.2.1 (by decide), Option.bind_some]
  cases h8 : isw T L s 8 with
  | true =>
    obtain ⟨k1, k2⟩ := kind (nW 0)
    obtain ⟨v, x', q1, q2, q3⟩ := readNote_ok (y := y) h k1 hbd (by omega) (c := c) (r := r) (by rw [u2_other (by omega)]; exact hc) (by rw [u2_other (by omega)]; exact hr) c7 r7
    rw [if_neg bIt, if_pos rfl, pI_wij h.1.1, Option.bind_some, gR_wij, sb, Option.bind_some, ck_wij, ck_ok h.1.1, q1, Option.bind_some]
    rcases q3 with ⟨e, e1, e2, e3⟩ | ⟨nt, s', e1, e2, e3, e4, e5, e6⟩
    · rw [e2, rz0]
      exact ⟨_, x', rfl, k2.trans q2.ccg, Or.inl ⟨e, zB_l e1 _, rfl, e3⟩⟩
    · rw [e2, rz1]
      refine ⟨_, x', rfl, k2.trans q2.ccg, Or.inr ⟨rfl, s', e3, e4, Or.inl ⟨?_, nt, zB_r e1 _, e5, e6⟩⟩⟩
      rw [q2 1 5 (by omega) (by omega) (by omega), u2_same]
  | false =>
    rw [if_pos bIf, if_neg (by decide), gR_wij, h.g0, Option.bind_some, ck_wij, ck_ok h.2.1.1, is_ok h hs.1 hs.2.1 (by decide), Option.bind_some]
    cases h9 : isw T L s 9 with
    | true =>
      obtain ⟨k1, k2⟩ := kind (nW 1)
      obtain ⟨x1, a1, a2, a3⟩ := cnext (y := y) h k1
      obtain ⟨v, x', q1, q2, q3⟩ := readOrigin_ok (y := y) h a3 hst sb hsn (m := m) (by rw [a2 st 1 (by omega), u2_other (by omega)]; exact hmc) hbd (by omega) (c := c) (r := r) (by rw [a2 (st + 1) 0 (by omega), u2_other (by omega)]; exact hc) (by rw [a2 (st + 1) 1 (by omega), u2_other (by omega)]; exact hr) c7 r7 hm
      rw [if_neg bIt, if_pos rfl, pI_wij h.1.1, Option.bind_some, gR_wij, h.g0, Option.bind_some, ck_wij, ck_ok h.2.1.1, a1, Option.bind_some, ck_wij, ck_ok h.1.1, q1, Option.bind_some, pOrg_semi]
      have fr : CCG x x' := (k2.trans (CCF.of a2).ccg).trans q2.ccg
      rcases q3 with ⟨e, e1, e2, e3⟩ | ⟨k, cx, ry, s', e1, ek, e2, e3, e4, e5, e6⟩
      · rw [e2, if_pos (show nW 0 = nW 0 from rfl)]
        unfold fX2_readCommand_69 fX2_readCommand_70
        simp only [lits]
        rw [rz0]
        exact ⟨_, x', rfl, fr, Or.inl ⟨e, zB_l (zB_l e1 _) _, rfl, e3⟩⟩
      · obtain ⟨x2, b1, b2, b3⟩ := csemi (y := y) h e3
        rw [e2, if_neg (show ¬ nW 1 = nW 0 by decide), ck_wij, ck_ok h.1.1, b1, Option.bind_some]
        rcases b3 with ⟨g, rfl⟩ | ⟨g, g2⟩
        · rw [decide_eq_true g, if_neg bIt]
          unfold fX2_readCommand_70
          simp only [lits]
          rw [rz1]
          refine ⟨_, x2, rfl, fr, Or.inr ⟨rfl, s', e3, g, Or.inr (Or.inl ⟨?_, k, cx, ry, by rw [zB_r e1, if_pos g]; rfl, ek, e4, e5, e6⟩)⟩⟩
          rw [q2 1 5 (by omega) (by omega) (by omega), a2 1 5 (by omega), u2_same]
        · rw [decide_eq_false g, if_pos bIf]
          unfold fX2_readCommand_69 fX2_readCommand_70
          simp only [lits]
          rw [rz0]
          exact ⟨_, x2, rfl, fr.trans b2.ccg, Or.inl ⟨(1, s'), by rw [zB_r e1, if_neg g]; rfl, rfl, g2⟩⟩
    | false =>
      rw [if_pos bIf, if_neg (by decide), gR_wij, h.g0, Option.bind_some, ck_wij, ck_ok h.2.1.1, is_ok h hs.1 hs.2.1 (by decide), Option.bind_some]
      cases h10 : isw T L s 10 with
      | true =>
        obtain ⟨k1, k2⟩ := kind (nW 2)
        obtain ⟨x1, a1, a2, a3⟩ := cnext (y := y) h k1
        obtain ⟨x2, b1, b2, b3⟩ := csemi (y := y) h a3
        rw [if_neg bIt, if_pos rfl, pI_wij h.1.1, Option.bind_some, gR_wij, h.g0, Option.bind_some, ck_wij, ck_ok h.2.1.1, a1, Option.bind_some, ck_wij, ck_ok h.1.1, b1, Option.bind_some, rz_ok (bI_01 _)]
        have fr : CCG x x2 := (k2.trans (CCF.of a2).ccg).trans b2.ccg
        rcases b3 with ⟨g, rfl⟩ | ⟨g, g2⟩
        · refine ⟨_, x2, rfl, fr, Or.inr ⟨by rw [decide_eq_true g]; rfl, _, a3, g, Or.inr (Or.inr ⟨?_, if_pos g⟩)⟩⟩
          rw [a2 1 5 (by omega), u2_same]
        · exact ⟨_, x2, rfl, fr, Or.inl ⟨_, if_neg g, by rw [decide_eq_false g]; rfl, g2⟩⟩
      | false =>
        rw [if_pos bIf, if_neg (by decide), ck_wij, ck_ok h.1.1, reject_ok h hs.2.1, Option.bind_some, rz0]
        exact ⟨_, _, rfl, fun b j _ q _ => by rw [u2_other (by omega), u2_other (by omega)], Or.inl ⟨_, rfl, rfl, by rw [u2_other (by omega), u2_same], u2_same⟩⟩
/-- the end of a command -/
theorem endCommand_bad (h : PSh G) {s : Nat} (hs : CSt x T L s) : ∃ x', fX2_endCommand 1 (nW 0) (wIJ G x y) = some (nW 0, wIJ G x' y) ∧ (∀ b j, ¬ (b = 1 ∧ 1 ≤ j ∧ j ≤ 2) → x' b j = x b j) ∧ CBd x' (6, s) := by
  unfold fX2_endCommand fX2_endCommand_0
  simp only [lits]
  rw [if_pos trivial, ck_wij, ck_ok h.1.1, reject_ok h hs.2.1, Option.bind_some, rz0]
  exact ⟨_, rfl, fun b j q => by rw [u2_other (by omega), u2_other (by omega)], by rw [u2_other (by omega), u2_same], u2_same⟩
theorem endCommand_ok (h : PSh G) {s n : Nat} (hs : CSt x T L s) (hn : x 1 4 = nW n) : ∃ x', fX2_endCommand 1 (nW 1) (wIJ G x y) = some (nW 1, wIJ G x' y) ∧ (∀ b j, ¬ (b = 2 ∧ 1 ≤ j ∧ j ≤ 4) → ¬ (b = 1 ∧ j = 4) → x' b j = x b j) ∧ CSt x' T L (nx T L s) ∧ x' 1 4 = nW (n + 1) := by
  have h1 : CSt (u2 x 1 4 (nW (n + 1))) T L s := hs.same (by rw [u2_arow (by omega)]) (by rw [u2_arow (by omega)]) ⟨by rw [u2_other (by omega)], by rw [u2_other (by omega)]⟩
  obtain ⟨x', q1, q2, q3⟩ := cnext (y := y) h h1
  unfold fX2_endCommand fX2_endCommand_0
  simp only [lits]
  rw [if_neg (by decide), gF_wij h.1.1, hn, Option.bind_some, nW_add, pI_wij h.1.1, Option.bind_some, gR_wij, h.g0, Option.bind_some, ck_wij, ck_ok h.2.1.1, q1, Option.bind_some]
  exact ⟨x', rfl, fun b j p1 p2 => by rw [q2 b j p1, u2_other p2], q3, by rw [q2 1 4 (by omega), u2_same]⟩
end CRUN
