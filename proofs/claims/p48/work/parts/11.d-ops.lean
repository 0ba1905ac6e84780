/-! ===== operations, as mathematics; the class's changes ===== -/
/-- an index below n -/
def ixZ (z : Int32) (n : Nat) : Option Nat := if 0 ≤ z.toInt ∧ z.toInt < n then some z.toInt.toNat else none
theorem ixZ_spec {z : Int32} {n : Nat} (hn : n < 2147483648) : (∃ j, ixZ z n = some j ∧ j < n ∧ z = nW j ∧ ¬ z < nW 0 ∧ z < nW n) ∨ (ixZ z n = none ∧ (z < nW 0 ∨ (¬ z < nW 0 ∧ ¬ z < nW n)) ∧ ∀ j, j < n → z ≠ nW j) := by
  unfold ixZ
  have h0 : z < nW 0 ↔ z.toInt < 0 := by rw [Int32.lt_iff_toInt_lt, nW_int (by decide)]; rfl
  have h1 : z < nW n ↔ z.toInt < n := by rw [Int32.lt_iff_toInt_lt, nW_int hn]
  by_cases h : 0 ≤ z.toInt ∧ z.toInt < n
  · rw [if_pos h]
    exact Or.inl ⟨_, rfl, by omega, Int32.toInt_inj.mp (by rw [nW_int (by omega)]; omega), by rw [h0]; omega, by rw [h1]; omega⟩
  · rw [if_neg h]
    refine Or.inr ⟨rfl, by rw [h0, h1]; omega, fun j hj e => h ?_⟩
    rw [e, nW_int (by omega)]; omega
theorem ixZ_nW {j n : Nat} (hj : j < n) (hn : n < 2147483648) : ixZ (nW j) n = some j := by
  unfold ixZ
  rw [nW_int (by omega), if_pos ⟨by omega, by omega⟩]; rfl
/-- not stated, or below a bound -/
def sttd (v : Int32) (b : Nat) : Bool := decide (¬ v < -nW 1 ∧ ¬ nW b ≤ v)
def okNote (A : ASt) (k fx tx ty : Int32) : Bool := sttd k 5 && (sttd fx A.1 && (sttd tx A.1 && sttd ty A.2.1))
abbrev pcA (A : ASt) : Nat := pcn A.1 (A.1 * A.2.1) A.2.2.1 A.2.2.2.1 A.2.2.2.2
/-- how an operation of the class ends: with an answer, or with what it throws -/
def COut {ρ : Type} (G : Mem) (d : Nat) (z : Option ((ρ ⊕ Nat) × Mem)) (o : (ρ ⊕ Nat) × WSt) : Prop := ∃ G', z = some (o.1, G') ∧ CI G' d o.2 ∧ RKp G G'
def COu {ρ : Type} (G : Mem) (d : Nat) (z : Option (ρ × Mem)) (o : ρ × WSt) : Prop := ∃ G', z = some (o.1, G') ∧ CI G' d o.2 ∧ RKp G G'
noncomputable def oAdd (W : WSt) (k fx tx ty tk ck : Int32) : (Int32 ⊕ Nat) × WSt := if okNote W.1 k fx tx ty = false then (.inr 0, W) else match aAdd W.1 (ntF k fx tx ty tk ck) with
  | none => (.inr 1, W)
  | some A => (.inl (nW (pcA A)), (A, rem8 W.2.1 W.1, W.2.2))
/-- the games that there would be; one position too many is -1 -/
noncomputable def oIf (W : WSt) (k fx tx ty tk ck : Int32) : (Int64 ⊕ Nat) × WSt := if okNote W.1 k fx tx ty = false then (.inr 0, W) else match aAdd W.1 (ntF k fx tx ty tk ck) with
  | none => (.inl (if W.1.2.2.2.2 < 10 ∧ stepL W.1.1 (W.1.1 * W.1.2.1) (ntF k fx tx ty tk ck) (W.1.2.2.2.2 % 2) (lyN W.1.1 (W.1.1 * W.1.2.1) W.1.2.2.1 W.1.2.2.2.1 W.1.2.2.2.2).1 ≠ none then 0 else -1), W)
  | some A => (.inl (Int64.ofNat (gsm (lyN A.1 (A.1 * A.2.1) A.2.2.1 A.2.2.2.1 A.2.2.2.2).1 (pcA A))), W)
noncomputable def oClar (W : WSt) (z cx ry : Int32) : (Int32 ⊕ Nat) × WSt := match ixZ z W.1.2.2.2.2 with
  | none => (.inr 2, W)
  | some k => if (sttd cx W.1.1 && sttd ry W.1.2.1) = false then (.inr 0, W) else match aOrg W.1 k cx ry with
    | none => (.inr 1, W)
    | some A => (.inl (nW (pcA A)), (A, rem8 W.2.1 W.1, W.2.2))
def oDrop (W : WSt) : (Int32 ⊕ Nat) × WSt := match aDrop W.1 with
  | none => (.inr 1, W)
  | some A => (.inl (nW A.2.2.2.2), (A, rem8 W.2.1 W.1, W.2.2))
def oUndo (W : WSt) : (Int32 ⊕ Nat) × WSt := if W.2.1.length = 0 then (.inr 1, W) else (.inl (nW (W.2.1.length - 1)), (W.2.1.getD (W.2.1.length - 1) as0, W.2.1.dropLast, W.2.2))
def setSl (sl : Nat → Option ASt) (j : Nat) (A : ASt) : Nat → Option ASt := fun i => if i = j then some A else sl i
def oSave (W : WSt) (z : Int32) : (Int32 ⊕ Nat) × WSt := match ixZ z 2 with
  | none => (.inr 0, W)
  | some j => (.inl (nW W.1.2.2.2.2), (W.1, W.2.1, setSl W.2.2.1 j W.1, W.2.2.2))
def oRest (W : WSt) (z : Int32) : (Int32 ⊕ Nat) × WSt := match ixZ z 2 with
  | none => (.inr 0, W)
  | some j => match W.2.2.1 j with
    | none => (.inr 1, W)
    | some A => (.inl (nW A.2.2.2.2), (A, rem8 W.2.1 W.1, W.2.2))
section COPS
variable {G : Mem} {ro l K : Nat → Nat} {W : WSt} {d : Nat}
theorem cOpen_ok {v : Int32} {b : Nat} {G : Mem} : fX6_isOpenOrBelow v (nW b) G = some (bI (sttd v b), G) := by
  unfold fX6_isOpenOrBelow fX6_isOpenOrBelow_0 fX6_isOpenOrBelow_14 fX6_isOpenOrBelow_15 sttd
  simp only [lits]
  by_cases h1 : v < -nW 1
  · rw [if_pos h1, decide_eq_false (fun q => q.1 h1), rz0]; rfl
  · rw [if_neg h1]
    by_cases h2 : nW b ≤ v
    · rw [if_pos h2, decide_eq_false (fun q => q.2 h2), rz0]; rfl
    · rw [if_neg h2, decide_eq_true ⟨h1, h2⟩, rz1]; rfl
theorem Rom.thw {ρ : Type} (hR : Rom G K (d + 1)) {k : Nat} : (thw k G : Option ((ρ ⊕ Nat) × Mem)) = some (.inr k, G) := if_pos ⟨by have := hR.1; omega, by have := hR.2.1; omega⟩
theorem CSh.bd (h : CSh G ro l K) {A : ASt} (hA : ARk G ro l K 0 A) : gR G 13 (fa (ro 0)) 0 = some (fa (ro 0) + 1) ∧ gF G 10 (fa (ro 0) + 1) 0 = some (nW A.1) ∧ gF G 10 (fa (ro 0) + 1) 1 = some (nW A.2.1) ∧ gF G 13 (fa (ro 0)) 1 = some (nW A.2.2.2.2) := by
  have a := hA.1
  have b := a.1.1.b
  refine ⟨a.1.1.g0, ?_, ?_, a.cnt1⟩
  · have := gF_wij (x := mI G) (y := mJ G) b.1 (k := 0)
    rw [wij_self, a.2.1.1] at this; exact this
  · have := gF_wij (x := mI G) (y := mJ G) b.1 (k := 1)
    rw [wij_self, a.2.1.2] at this; exact this
theorem reqStat_ok (h : CSh G ro l K) (hR : Rom G K (d + 1)) {A : ASt} (hA : ARk G ro l K 0 A) {k fx tx ty : Int32} : fX6_requireStatable 0 k fx tx ty G = some (if okNote A k fx tx ty = false then (.inr 0, G) else (.inl (), G)) := by
  obtain ⟨b0, b1, b2, b3⟩ := h.bd hA
  unfold fX6_requireStatable fX6_requireStatable_0 fX6_requireStatable_54 okNote
  simp only [lits]
  rw [h.f3, Option.bind_some, b0, Option.bind_some, cOpen_ok, Option.bind_some]
  cases sttd k 5 with
  | false => rw [if_pos bIf, hR.thw]; rfl
  | true =>
    rw [if_neg bIt, b1, Option.bind_some, cOpen_ok, Option.bind_some]
    cases sttd fx A.1 with
    | false => rw [if_pos bIf, hR.thw]; rfl
    | true =>
      rw [if_neg bIt, b1, Option.bind_some, cOpen_ok, Option.bind_some]
      cases sttd tx A.1 with
      | false => rw [if_pos bIf, hR.thw]; rfl
      | true =>
        rw [if_neg bIt, b2, Option.bind_some, cOpen_ok, Option.bind_some]
        cases sttd ty A.2.1 with
        | false => rw [if_pos bIf, hR.thw]; rfl
        | true => rw [if_neg bIt]; rfl
theorem reqNote_ok (h : CSh G ro l K) (hR : Rom G K (d + 1)) {A : ASt} (hA : ARk G ro l K 0 A) {z : Int32} : fX6_requireNote 0 z G = some (match ixZ z A.2.2.2.2 with | none => (.inr 2, G) | some _ => (.inl (), G)) := by
  have hm := hA.2.2.2.1
  obtain ⟨b0, b1, b2, b3⟩ := h.bd hA
  unfold fX6_requireNote fX6_requireNote_0 fX6_requireNote_15
  simp only [lits]
  rcases ixZ_spec (z := z) (show A.2.2.2.2 < 2147483648 by omega) with ⟨j, e1, e2, e3, e4, e5⟩ | ⟨e1, e2, -⟩
  · rw [e1, if_neg e4, h.f3, Option.bind_some, b3, Option.bind_some, if_pos e5]
  · rw [e1]
    rcases e2 with e2 | e2
    · rw [if_pos e2, hR.thw]
    · rw [if_neg e2.1, h.f3, Option.bind_some, b3, Option.bind_some, if_neg e2.2, hR.thw]
theorem Rom.le {d' : Nat} (hR : Rom G K d) (h : d' ≤ d) : Rom G K d' := ⟨by have := hR.1; omega, by have := hR.2.1; omega, hR.2.2⟩
theorem CI.le {d' : Nat} (h : CI G d W) (hd : d' ≤ d) : CI G d' W := by
  obtain ⟨ro, l, K, h1, h2, h3⟩ := h
  exact ⟨ro, l, K, h1, h2.le hd, h3⟩
/-- the asked note is stated -/
theorem asked_ok (h : CSh G ro l K) (hR : Rom G K d) (hD : CDt G ro l K W) {k fx tx ty tk ck : Int32} (h5 : tk = 0 ∨ tk = 1) (h6 : ck = 0 ∨ ck = 1) : ∃ x', fX1_state 8 k fx tx ty tk ck G = some ((), wIJ G x' (mJ G)) ∧ CSh (wIJ G x' (mJ G)) ro l K ∧ CDt (wIJ G x' (mJ G)) ro l K W ∧ RKp G (wIJ G x' (mJ G)) ∧ (∀ b, b ≠ 8 → x' b = mI G b) ∧ ∀ j, j < 7 → x' 8 j = ntF k fx tx ty tk ck j := by
  obtain ⟨x', e1, e2, e3⟩ := nstate_ok (x := mI G) (y := mJ G) (k := k) (fx := fx) (tx := tx) (ty := ty) h.as h5 h6
  rw [wij_self] at e1
  obtain ⟨-, -, -, -, t1, o1, -⟩ := id hD
  refine ⟨x', e1, h, hD.soft h (fun b hb => ⟨e2 b (by omega), rfl⟩) ⟨by rw [e2 0 (by decide)], by rw [e2 0 (by decide)]⟩ (e2 53 (by decide)) rfl rfl rfl rfl ⟨t1.1.frame (by rw [e2 2 (by decide)]) (e2 3 (by decide)), by rw [e2 1 (by decide)]; exact t1.2.1, by rw [e2 1 (by decide)]; exact t1.2.2⟩ (by rw [e2 0 (by decide), e2 54 (by decide)]; exact o1), RKp.wij (fun b q1 q2 => ⟨e2 b (by omega), rfl⟩), e2, e3⟩
/-- what a step on the work leaves of a content -/
theorem CDt.work (hD : CDt G ro l K W) {G' : Mem} {l1 K1 : Nat → Nat} {t : Nat} (ht : t = 1) (hs : Sto G G' ro l K l1 K1 t d (fun _ => False)) : CDt G' ro l1 K1 W := by
  obtain ⟨a1, a2, a3, a4⟩ := hD.split
  have e := (hs.2.2.2.2.1 7 (by decide) (fun q => q)).2
  exact CDt.join (hs.2.2.1 0 (by decide) (by omega) _ a1) (a2.stp hs (by omega) (fun q => q)) (fun i hi p hp => by rw [e]; exact a3 i hi p hp) (a4.stp hs (by omega) (fun b q => q.elim))
theorem caddNote_ok (hC : CI G (d + 1) W) {k fx tx ty tk hk : Int32} (h5 : tk = 0 ∨ tk = 1) (h6 : hk = 0 ∨ hk = 1) : COut G (d + 1) (fX6_addNote 0 k fx tx ty tk hk G) (oAdd W k fx tx ty tk hk) := by
  obtain ⟨ro, l, K, h1, h2, h3⟩ := hC
  obtain ⟨p1, p2, p3, p4⟩ := h3.split
  unfold fX6_addNote fX6_addNote_0 oAdd
  simp only [lits]
  rw [ck_ok h1.t, reqStat_ok h1 h2 p1, Option.bind_some]
  cases hok : okNote W.1 k fx tx ty with
  | false => exact ⟨G, rfl, ⟨ro, l, K, h1, h2, h3⟩, RKp.rfl'⟩
  | true =>
    obtain ⟨x', e1, e2, e3, e4, e5, e6⟩ := asked_ok (k := k) (fx := fx) (tx := tx) (ty := ty) h1 h2 h3 h5 h6
    obtain ⟨q1, q2, q3, q4⟩ := e3.split
    obtain ⟨v, G', l1, K1, f1, f2, f3⟩ := followAsked_ok e2 (h2.wij (x := x')) q4.2.2.2 (c := W.1.1) (r := W.1.2.1) (N := W.1.2.2.1) (P0 := W.1.2.2.2.1) (m := W.1.2.2.2.2) q1 (nt := ntF k fx tx ty tk hk) e6 h5 h6
    have D' := e3.work rfl f2
    obtain ⟨s1, s2, s3, s4⟩ := D'.split
    have K2 : RKp G G' := e4.trans f2.2.2.2.1
    rw [if_neg (by decide), if_neg (by decide)]
    show COut G (d + 1) ((gR G 16 0 2).bind fun v3 => _) _
    rw [h1.f2, Option.bind_some, ck_ok h1.as, e1, Option.bind_some, ck_ok e2.t, f1, Option.bind_some]
    have eW : W.1 = (W.1.1, W.1.2.1, W.1.2.2.1, W.1.2.2.2.1, W.1.2.2.2.2) := rfl
    have no : ¬ nW 1 ≤ v → aAdd W.1 (ntF k fx tx ty tk hk) = none → COut G (d + 1) (if nW 1 ≤ (v, G').1 then ck (v, G').2 16 0 ((fX6_commit 0 (v, G').2).bind fun q7 => some (.inl (v, G').1, q7.2)) else thw 1 (v, G').2) (match aAdd W.1 (ntF k fx tx ty tk hk) with | none => (.inr 1, W) | some A => (.inl (nW (pcA A)), (A, rem8 W.2.1 W.1, W.2.2))) := by
      intro hv ha
      rw [if_neg (show ¬ nW 1 ≤ (v, G').1 from hv), ha, f2.2.1.thw]
      exact ⟨G', rfl, ⟨ro, l1, K1, f2.1, f2.2.1, D'⟩, K2⟩
    have n1 : ¬ nW 1 ≤ -nW 1 := by decide
    have n0 : ¬ nW 1 ≤ nW 0 := by decide
    rcases f3 with ⟨g1, g2⟩ | ⟨g1, g2, g3⟩
    · exact no (by rw [g2]; exact n1) (by rw [eW]; exact aAdd_none (fun z => g1 z.1))
    · have hok0 : okN W.1.1 (W.1.1 * W.1.2.1) (addN W.1.2.2.1 W.1.2.2.2.2 (ntF k fx tx ty tk hk)) W.1.2.2.2.1 W.1.2.2.2.2 := okN_cong addN_low p1.2.2.2.2.1
      rcases folV_ok 1 _ hok0 with ⟨m1, m2⟩ | ⟨m1, m2⟩
      · have B := g3 m1
        have pos := pcn_pos m1
        have le : pcn W.1.1 (W.1.1 * W.1.2.1) (addN W.1.2.2.1 W.1.2.2.2.2 (ntF k fx tx ty tk hk)) W.1.2.2.2.1 (W.1.2.2.2.2 + 1) ≤ 40 := (lyN_run B.2.2.1 m1).1.1
        have ea : aAdd W.1 (ntF k fx tx ty tk hk) = some (W.1.1, W.1.2.1, addN W.1.2.2.1 W.1.2.2.2.2 (ntF k fx tx ty tk hk), W.1.2.2.2.1, W.1.2.2.2.2 + 1) := by rw [eW]; exact aAdd_some ⟨g1, m1⟩
        obtain ⟨G2, ro2, c1, c2, c3, c4, c5, -⟩ := commit_ok (W := W) f2.1 f2.2.1 s1 B s2 s4
        rw [g2, m2, if_pos (show nW 1 ≤ nW (pcn W.1.1 (W.1.1 * W.1.2.1) (addN W.1.2.2.1 W.1.2.2.2.2 (ntF k fx tx ty tk hk)) W.1.2.2.2.1 (W.1.2.2.2.2 + 1)) by rw [nW_le (by decide) (by omega)]; exact pos), ck_ok f2.1.t, c1, Option.bind_some, ea]
        exact ⟨G2, rfl, ⟨ro2, l1, K1, c2, c3, c4⟩, K2.trans c5⟩
      · exact no (by rw [g2]; rcases m2 with m2 | m2 <;> rw [m2]; exact n0; exact n1) (by rw [eW]; exact aAdd_none (fun z => m1 z.2))
end COPS
