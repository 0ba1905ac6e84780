/-! ===== the class's object and the reference, as wholes ===== -/
/-- the twelve states' places -/
def fa (e : Nat) : Nat := if e < 2 then 9 + 21 * e else 13 + 21 * e
theorem fa_ok {e : Nat} (he : e < 12) : 9 ≤ fa e ∧ fa e + 21 ≤ 265 ∧ (fa e + 21 ≤ 51 ∨ 55 ≤ fa e) := by
  unfold fa
  split <;> omega
theorem fa_ne {e e' : Nat} (h : e ≠ e') : fa e + 21 ≤ fa e' ∨ fa e' + 21 ≤ fa e := by
  unfold fa
  split <;> split <;> omega
/-- present state, history, slots, text, error, output -/
abbrev WSt : Type := ASt × List ASt × (Nat → Option ASt) × ((Nat → Nat) × Nat) × (Int32 × Int32) × ((Nat → Nat) × Nat)
/-- roles: 0 present, 1 work, 2.. older, 10.. saved -/
def CSh (G : Mem) (ro l K : Nat → Nat) : Prop :=
  (mt G 0 = 16 ∧ mP G 0 0 = some 1 ∧ mP G 0 1 = some 5 ∧ mP G 0 2 = some 8 ∧ mP G 0 3 = some (fa (ro 0)) ∧ mP G 0 4 = some (fa (ro 1)) ∧ mP G 0 5 = some 51 ∧ mP G 0 8 = some 52 ∧ mP G 0 9 = some 53 ∧ mP G 0 10 = some 54) ∧ (PSh G ∧ TSh G 5 6 7 ∧ mt G 8 = 11) ∧
  ((mt G 51 = 7 ∧ mn G 51 = 8) ∧ ∀ i, i < 8 → mP G 51 i = some (fa (ro (2 + i)))) ∧ ((mt G 52 = 7 ∧ mn G 52 = 2) ∧ ∀ j, j < 2 → mP G 52 j = some (fa (ro (10 + j)))) ∧ ((mt G 53 = 3 ∧ mn G 53 = 2) ∧ (mt G 54 = 2 ∧ mn G 54 = 41) ∧ (mt G 0 = 16 ∧ mt G 0 = 16)) ∧
  (∀ e, e < 12 → SS G (fa e) (l e) (K e)) ∧ ((∀ e, e < 12 → l e = fa e + 10 ∨ 265 ≤ l e) ∧ ∀ e e', e < 12 → e' < 12 → e ≠ e' → l e ≠ l e') ∧ ((∀ i, i < 12 → ro i < 12) ∧ ∀ i j, i < 12 → j < 12 → i ≠ j → ro i ≠ ro j) ∧ (Frsh G ∧ 265 ≤ mz G)
/-- room for what may still grow, and for d exceptions -/
def Rom (G : Mem) (K : Nat → Nat) (d : Nat) : Prop := mz G + sumN 12 (fun e => 6 - K e) + d ≤ cC G ∧ ml G + sumN 12 (fun e => 32000 - 2 * (250 * 2 ^ K e)) + 6 * d ≤ cS G ∧ cC G = 600073 ∧ cS G = 7301549
def ARk (G : Mem) (ro l K : Nat → Nat) (i : Nat) (A : ASt) : Prop := ARep G (fa (ro i)) (l (ro i)) (K (ro i)) A.1 A.2.1 A.2.2.1 A.2.2.2.1 A.2.2.2.2 ∧ AAOK A
abbrev CRa (y : Nat → Nat → Int64) (A : ASt) : Prop := CRep y 7 A.1 (A.1 * A.2.1) A.2.2.1 A.2.2.2.1 A.2.2.2.2
def CDt (G : Mem) (ro l K : Nat → Nat) (W : WSt) : Prop :=
  ARk G ro l K 0 W.1 ∧ ((mI G 0 7 = nW W.2.1.length ∧ W.2.1.length ≤ 8) ∧ ∃ nw, nw < 8 ∧ mI G 0 6 = nW nw ∧ ∀ t, t < W.2.1.length → ARk G ro l K (2 + (nw + 8 - t) % 8) (W.2.1.getD (W.2.1.length - 1 - t) as0)) ∧
  (∀ j, j < 2 → mI G 53 j = bI (W.2.2.1 j).isSome ∧ ∀ A, W.2.2.1 j = some A → ARk G ro l K (10 + j) A) ∧ CRa (mJ G) W.1 ∧ (CBy (mI G) W.2.2.2.1.1 W.2.2.2.1.2 ∧ mI G 1 1 = W.2.2.2.2.1.1 ∧ mI G 1 2 = W.2.2.2.2.1.2) ∧
  (mI G 0 11 = nW W.2.2.2.2.2.2 ∧ W.2.2.2.2.2.2 ≤ 41 ∧ ∀ i, i < W.2.2.2.2.2.2 → mI G 54 i = nW (W.2.2.2.2.2.1 i) ∧ W.2.2.2.2.2.1 i < 128) ∧ ∀ e, e < 12 → mI G (fa e + 9) 0 = nW 0
def CI (G : Mem) (d : Nat) (W : WSt) : Prop := ∃ ro l K, CSh G ro l K ∧ Rom G K d ∧ CDt G ro l K W
/-- the reference's cells (and the law's) stay -/
def RKp (G G' : Mem) : Prop := ∀ b, 265 ≤ b → b < 265 → mI G' b = mI G b ∧ mJ G' b = mJ G b ∧ mt G' b = mt G b ∧ mn G' b = mn G b ∧ ∀ k, mP G' b k = mP G b k
section WHOLE
variable {G : Mem} {ro l K : Nat → Nat} {W : WSt} {d : Nat}
theorem RKp.rfl' : RKp G G := fun _ _ _ => ⟨rfl, rfl, rfl, rfl, fun _ => rfl⟩
theorem RKp.trans {G1 G2 : Mem} (h : RKp G G1) (h2 : RKp G1 G2) : RKp G G2 := fun b q1 q2 => by
  obtain ⟨a1, a2, a3, a4, a5⟩ := h b q1 q2
  obtain ⟨b1, b2, b3, b4, b5⟩ := h2 b q1 q2
  exact ⟨b1.trans a1, b2.trans a2, b3.trans a3, b4.trans a4, fun k => (b5 k).trans (a5 k)⟩
theorem RKp.gro {G' : Mem} {e K0 K1 : Nat} {ch : Nat → Prop} (he : e < 12) (hz : 265 ≤ mz G) (h : Gro (fa e) ch G G' K0 K1) (hc : ∀ b, 265 ≤ b → b < 265 → ¬ ch b) : RKp G G' := fun b q1 q2 => by
  have := fa_ok he
  obtain ⟨a1, a2, a3⟩ := h.2.1 b (by omega)
  obtain ⟨b1, b2⟩ := h.2.2 b (by omega) (hc b q1 q2)
  exact ⟨b1, b2, a1, a2, fun k => a3 k (by omega)⟩
theorem RKp.wij {x : Nat → Nat → Int32} {y : Nat → Nat → Int64} (h : ∀ b, 265 ≤ b → b < 265 → x b = mI G b ∧ y b = mJ G b) : RKp G (wIJ G x y) := fun b q1 q2 => ⟨(h b q1 q2).1, (h b q1 q2).2, rfl, rfl, fun _ => rfl⟩
/-! what the fields say -/
theorem CSh.t (h : CSh G ro l K) : mt G 0 = 16 := h.1.1
theorem CSh.f0 (h : CSh G ro l K) : gR G 16 0 0 = some 1 := gR_ok h.1.1 h.1.2.1
theorem CSh.f1 (h : CSh G ro l K) : gR G 16 0 1 = some 5 := gR_ok h.1.1 h.1.2.2.1
theorem CSh.f2 (h : CSh G ro l K) : gR G 16 0 2 = some 8 := gR_ok h.1.1 h.1.2.2.2.1
theorem CSh.f3 (h : CSh G ro l K) : gR G 16 0 3 = some (fa (ro 0)) := gR_ok h.1.1 h.1.2.2.2.2.1
theorem CSh.f4 (h : CSh G ro l K) : gR G 16 0 4 = some (fa (ro 1)) := gR_ok h.1.1 h.1.2.2.2.2.2.1
theorem CSh.f5 (h : CSh G ro l K) : gR G 16 0 5 = some 51 := gR_ok h.1.1 h.1.2.2.2.2.2.2.1
theorem CSh.f8 (h : CSh G ro l K) : gR G 16 0 8 = some 52 := gR_ok h.1.1 h.1.2.2.2.2.2.2.2.1
theorem CSh.f9 (h : CSh G ro l K) : gR G 16 0 9 = some 53 := gR_ok h.1.1 h.1.2.2.2.2.2.2.2.2.1
theorem CSh.f10 (h : CSh G ro l K) : gR G 16 0 10 = some 54 := gR_ok h.1.1 h.1.2.2.2.2.2.2.2.2.2
theorem CSh.ps (h : CSh G ro l K) : PSh G := h.2.1.1
theorem CSh.ta (h : CSh G ro l K) : TSh G 5 6 7 := h.2.1.2.1
theorem CSh.as (h : CSh G ro l K) : mt G 8 = 11 := h.2.1.2.2
theorem CSh.ss (h : CSh G ro l K) {i : Nat} (hi : i < 12) : SS G (fa (ro i)) (l (ro i)) (K (ro i)) := h.2.2.2.2.2.1 (ro i) (h.2.2.2.2.2.2.2.1.1 i hi)
theorem CSh.r (h : CSh G ro l K) {i : Nat} (hi : i < 12) : ro i < 12 := h.2.2.2.2.2.2.2.1.1 i hi
theorem CSh.rne (h : CSh G ro l K) {i j : Nat} (hi : i < 12) (hj : j < 12) (hij : i ≠ j) : ro i ≠ ro j := h.2.2.2.2.2.2.2.1.2 i j hi hj hij
theorem CSh.fr (h : CSh G ro l K) : Frsh G := h.2.2.2.2.2.2.2.2.1
theorem CSh.z (h : CSh G ro l K) : 265 ≤ mz G := h.2.2.2.2.2.2.2.2.2
theorem CSh.lp (h : CSh G ro l K) {e : Nat} (he : e < 12) : l e = fa e + 10 ∨ 265 ≤ l e := h.2.2.2.2.2.2.1.1 e he
theorem CSh.lne (h : CSh G ro l K) {e e' : Nat} (he : e < 12) (he' : e' < 12) (hn : e ≠ e') : l e ≠ l e' := h.2.2.2.2.2.2.1.2 e e' he he' hn
theorem CSh.gF0 (h : CSh G ro l K) {k : Nat} : gF G 16 0 k = some (mI G 0 k) := if_pos h.1.1
theorem CSh.wij (h : CSh G ro l K) {x : Nat → Nat → Int32} {y : Nat → Nat → Int64} : CSh (wIJ G x y) ro l K := h
theorem Rom.wij (h : Rom G K d) {x : Nat → Nat → Int32} {y : Nat → Nat → Int64} : Rom (wIJ G x y) K d := h
/-- two states lie apart -/
theorem CSh.dis (h : CSh G ro l K) {e e' : Nat} (he : e < 12) (he' : e' < 12) (hn : e ≠ e') : Dis (fa e) (l e) (fa e') (l e') := by
  have a1 := fa_ok he
  have a2 := fa_ok he'
  have a3 := fa_ne hn
  have a4 := h.lp he
  have a5 := h.lp he'
  have a6 := h.lne he he' hn
  exact ⟨by omega, by omega, by omega, a6⟩
/-- room for one state's growing -/
theorem Rom.rm (hR : Rom G K d) {e : Nat} (he : e < 12) : Rm G (K e) := by
  have h1 : 6 - K e ≤ sumN 12 (fun e => 6 - K e) := sumN_term (f := fun e => 6 - K e) 12 he
  have h2 : 32000 - 2 * (250 * 2 ^ K e) ≤ sumN 12 (fun e => 32000 - 2 * (250 * 2 ^ K e)) := sumN_term (f := fun e => 32000 - 2 * (250 * 2 ^ K e)) 12 he
  obtain ⟨r1, r2, -, -⟩ := hR
  constructor <;> omega
theorem sumN_up {f : Nat → Nat} {e v : Nat} : ∀ n, e < n → sumN n (fun i => if i = e then v else f i) + f e = sumN n f + v := by
  intro n
  induction n with
  | zero => intro h; exact absurd h (Nat.not_lt_zero _)
  | succ n ih =>
    intro h
    show sumN n _ + (if n = e then v else f n) + f e = sumN n f + f n + v
    by_cases q : n = e
    · rw [if_pos q, q]
      have : sumN e (fun i => if i = e then v else f i) = sumN e f := sumN_cong e (fun i hi => if_neg (by omega))
      rw [this]; omega
    · rw [if_neg q]
      have := ih (by omega)
      omega
/-- a state grows: the shape, and the room that is left -/
theorem CSh.grow (h : CSh G ro l K) (hR : Rom G K d) {e : Nat} (he : e < 12) {G' : Mem} {ch : Nat → Prop} {l' K' : Nat} (hg : Gro (fa e) ch G G' (K e) K') (hS : SS G' (fa e) l' K') (hF : Frsh G') (hl : l' = l e ∨ mz G ≤ l') : CSh G' ro (upN l e l') (upN K e K') ∧ Rom G' (upN K e K') d := by
  obtain ⟨⟨h1, h2, h3, h4, h5, h6, h7, h8, h9, h10⟩, ⟨p1, p2, p3⟩, ⟨⟨q1, q2⟩, q3⟩, ⟨⟨r1, r2⟩, r3⟩, ⟨⟨s1, s2⟩, ⟨s3, s4⟩, ⟨s5, s6⟩⟩, t1, ⟨u1, u2⟩, v1, ⟨w1, w2⟩⟩ := id h
  have fe := fa_ok he
  have kt : ∀ b, b < mz G → mt G' b = mt G b := fun b hb => (hg.2.1 b hb).1
  have kn : ∀ b, b < mz G → mn G' b = mn G b := fun b hb => (hg.2.1 b hb).2.1
  have kp : ∀ b k, b < mz G → b ≠ fa e → mP G' b k = mP G b k := fun b k hb hn => (hg.2.1 b hb).2.2 k (fun q => hn q.1)
  have hz := hg.1.1
  obtain ⟨lt1, lt2⟩ := (t1 e he).1.lts w1
  refine ⟨⟨⟨?_, ?_, ?_, ?_, ?_, ?_, ?_, ?_, ?_, ?_⟩, ⟨?_, ?_, ?_⟩, ⟨⟨?_, ?_⟩, fun i hi => ?_⟩, ⟨⟨?_, ?_⟩, fun j hj => ?_⟩, ⟨⟨?_, ?_⟩, ⟨?_, ?_⟩, ⟨?_, ?_⟩⟩, fun e' he' => ?_, ⟨fun e' he' => ?_, fun e1 e2 he1 he2 hn => ?_⟩, v1, ⟨hF, by omega⟩⟩, ?_⟩
  · rw [kt 0 (by omega)]; exact h1
  · rw [kp 0 0 (by omega) (by omega)]; exact h2
  · rw [kp 0 1 (by omega) (by omega)]; exact h3
  · rw [kp 0 2 (by omega) (by omega)]; exact h4
  · rw [kp 0 3 (by omega) (by omega)]; exact h5
  · rw [kp 0 4 (by omega) (by omega)]; exact h6
  · rw [kp 0 5 (by omega) (by omega)]; exact h7
  · rw [kp 0 8 (by omega) (by omega)]; exact h8
  · rw [kp 0 9 (by omega) (by omega)]; exact h9
  · rw [kp 0 10 (by omega) (by omega)]; exact h10
  · obtain ⟨⟨a1, a2, a3⟩, ⟨a4, a5⟩, ⟨a6, a7⟩, a8⟩ := p1
    refine ⟨⟨?_, ?_, ?_⟩, ⟨?_, ?_⟩, ⟨?_, ?_⟩, ?_⟩
    · rw [kt 1 (by omega)]; exact a1
    · rw [kp 1 0 (by omega) (by omega)]; exact a2
    · rw [kp 1 6 (by omega) (by omega)]; exact a3
    · rw [kt 2 (by omega)]; exact a4
    · rw [kp 2 5 (by omega) (by omega)]; exact a5
    · rw [kt 3 (by omega)]; exact a6
    · rw [kn 3 (by omega)]; exact a7
    · rw [kt 4 (by omega)]; exact a8
  · obtain ⟨⟨a1, a2, a3⟩, ⟨a4, a5⟩, ⟨a6, a7⟩, a8⟩ := p2
    refine ⟨⟨?_, ?_, ?_⟩, ⟨?_, ?_⟩, ⟨?_, ?_⟩, a8⟩
    · rw [kt 5 (by omega)]; exact a1
    · rw [kp 5 0 (by omega) (by omega)]; exact a2
    · rw [kp 5 2 (by omega) (by omega)]; exact a3
    · rw [kt 6 (by omega)]; exact a4
    · rw [kn 6 (by omega)]; exact a5
    · rw [kt 7 (by omega)]; exact a6
    · rw [kn 7 (by omega)]; exact a7
  · rw [kt 8 (by omega)]; exact p3
  · rw [kt 51 (by omega)]; exact q1
  · rw [kn 51 (by omega)]; exact q2
  · rw [kp 51 i (by omega) (by omega)]; exact q3 i hi
  · rw [kt 52 (by omega)]; exact r1
  · rw [kn 52 (by omega)]; exact r2
  · rw [kp 52 j (by omega) (by omega)]; exact r3 j hj
  · rw [kt 53 (by omega)]; exact s1
  · rw [kn 53 (by omega)]; exact s2
  · rw [kt 54 (by omega)]; exact s3
  · rw [kn 54 (by omega)]; exact s4
  · rw [kt 0 (by omega)]; exact s5
  · rw [kt 0 (by omega)]; exact s6
  · unfold upN
    by_cases q : e' = e
    · rw [if_pos q, if_pos q, q]; exact hS
    · rw [if_neg q, if_neg q]
      have a := t1 e' he'
      have := fa_ne q
      exact ⟨a.1.grow w1 hg (by omega) (by omega), a.2⟩
  · unfold upN
    by_cases q : e' = e
    · rw [if_pos q, q]
      rcases hl with hl | hl
      · rw [hl]; exact u1 e he
      · right; omega
    · rw [if_neg q]; exact u1 e' he'
  · unfold upN
    by_cases z1 : e1 = e
    · rw [if_pos z1, if_neg (by omega)]
      rcases hl with hl | hl
      · rw [hl, ← z1]; exact u2 e1 e2 he1 he2 hn
      · have := ((t1 e2 he2).1.lts w1).2
        omega
    · rw [if_neg z1]
      by_cases z2 : e2 = e
      · rw [if_pos z2]
        rcases hl with hl | hl
        · rw [hl, ← z2]; exact u2 e1 e2 he1 he2 hn
        · have := ((t1 e1 he1).1.lts w1).2
          omega
      · rw [if_neg z2]; exact u2 e1 e2 he1 he2 hn
  · obtain ⟨R1, R2, R3, R4⟩ := hR
    obtain ⟨⟨g1, g2, g3, g4, g5⟩, -⟩ := hg
    have k6 := hS.2.1
    have k60 := (t1 e he).2.1
    have sl := hS.1.lb
    have sl0 := (t1 e he).1.lb
    have e1 := sumN_up (f := fun e => 6 - K e) (e := e) (v := 6 - K') 12 he
    have e2 := sumN_up (f := fun e => 32000 - 2 * (250 * 2 ^ K e)) (e := e) (v := 32000 - 2 * (250 * 2 ^ K')) 12 he
    have c1 : sumN 12 (fun i => 6 - upN K e K' i) = sumN 12 (fun i => if i = e then 6 - K' else 6 - K i) := sumN_cong 12 (fun i _ => by unfold upN; split <;> rfl)
    have c2 : sumN 12 (fun i => 32000 - 2 * (250 * 2 ^ upN K e K' i)) = sumN 12 (fun i => if i = e then 32000 - 2 * (250 * 2 ^ K') else 32000 - 2 * (250 * 2 ^ K i)) := sumN_cong 12 (fun i _ => by unfold upN; split <;> rfl)
    unfold Rom
    rw [c1, c2, g4, g5]
    generalize sumN 12 (fun i => if i = e then 6 - K' else 6 - K i) = S1 at *
    generalize sumN 12 (fun i => if i = e then 32000 - 2 * (250 * 2 ^ K') else 32000 - 2 * (250 * 2 ^ K i)) = S2 at *
    generalize sumN 12 (fun i => 6 - K i) = S3 at *
    generalize sumN 12 (fun i => 32000 - 2 * (250 * 2 ^ K i)) = S4 at *
    generalize 250 * 2 ^ K' = p' at *
    generalize 250 * 2 ^ K e = p0 at *
    refine ⟨?_, ?_, R3, R4⟩ <;> omega
/-- a state keeps what it holds while another part of the memory changes -/
theorem ARk.keep (h : CSh G ro l K) {i : Nat} {A : ASt} (hi : i < 12) (hA : ARk G ro l K i A) {e : Nat} (he : e < 12) (hne : e ≠ ro i) {G' : Mem} {ch : Nat → Prop} {l' K0 K' : Nat} (hg : Gro (fa e) ch G G' K0 K') (hch : ∀ z, z < mz G → ch z → CHa (fa e) (l e) z ∨ z < 9 ∨ (51 ≤ z ∧ z < 55) ∨ (265 ≤ z ∧ z < 265)) : ARk G' ro (upN l e l') (upN K e K') i A := by
  have hr := h.r hi
  have d1 := h.dis hr he (fun q => hne q.symm)
  obtain ⟨a1, a2⟩ := hA
  have e1 : upN l e l' (ro i) = l (ro i) := if_neg (fun q => hne q.symm)
  have e2 : upN K e K' (ro i) = K (ro i) := if_neg (fun q => hne q.symm)
  have f1 := fa_ok hr
  have f2 := fa_ne hne
  have lp := h.lp hr
  have lt := a1.1.1.lts h.fr
  refine ⟨?_, a2⟩
  rw [e1, e2]
  refine a1.frame (b := fa e) (ch := ch) a2 h.fr hg (by omega) (fun z hz hc => ?_)
  have hzl : z < mz G := by unfold CHa at hz; omega
  rcases hch z hzl hc with q | q | q | q
  · exact d1.symm.not hz q
  · unfold CHa at hz; omega
  · unfold CHa at hz; omega
  · unfold CHa at hz; omega
/-- the same, where no state grows and only cells outside the states change -/
theorem ARk.soft (h : CSh G ro l K) {i : Nat} {A : ASt} (hi : i < 12) (hA : ARk G ro l K i A) {x : Nat → Nat → Int32} {y : Nat → Nat → Int64} (hx : ∀ b, ¬ (b < 9 ∨ (51 ≤ b ∧ b < 55) ∨ (265 ≤ b ∧ b < 265)) → x b = mI G b ∧ y b = mJ G b) : ARk (wIJ G x y) ro l K i A := by
  have hr := h.r hi
  obtain ⟨a1, a2⟩ := hA
  have f1 := fa_ok hr
  have lp := h.lp hr
  refine ⟨a1.frame (b := 0) (ch := fun b => b < 9 ∨ (51 ≤ b ∧ b < 55) ∨ (265 ≤ b ∧ b < 265)) (K0 := 0) (K' := 0) a2 h.fr (Gro.of_wij fun b _ hn => hx b hn) (by omega) (fun z hz hc => ?_), a2⟩
  unfold CHa at hz; omega
/-- of all the class holds, where only cells outside the states change: what is told anew -/
theorem CDt.soft (h : CSh G ro l K) (hD : CDt G ro l K W) {x : Nat → Nat → Int32} {y : Nat → Nat → Int64} (hx : ∀ b, ¬ (b < 9 ∨ (51 ≤ b ∧ b < 55) ∨ (265 ≤ b ∧ b < 265)) → x b = mI G b ∧ y b = mJ G b) (h0 : x 0 6 = mI G 0 6 ∧ x 0 7 = mI G 0 7) (h53 : x 53 = mI G 53) (h7 : y 7 = mJ G 7)
    {W' : WSt} (w1 : W'.1 = W.1) (w2 : W'.2.1 = W.2.1) (w3 : W'.2.2.1 = W.2.2.1) (ht : CBy x W'.2.2.2.1.1 W'.2.2.2.1.2 ∧ x 1 1 = W'.2.2.2.2.1.1 ∧ x 1 2 = W'.2.2.2.2.1.2) (ho : x 0 11 = nW W'.2.2.2.2.2.2 ∧ W'.2.2.2.2.2.2 ≤ 41 ∧ ∀ i, i < W'.2.2.2.2.2.2 → x 54 i = nW (W'.2.2.2.2.2.1 i) ∧ W'.2.2.2.2.2.1 i < 128) : CDt (wIJ G x y) ro l K W' := by
  obtain ⟨a1, ⟨a2, nw, a3, a4, a5⟩, a6, a7, -, -, a8⟩ := hD
  unfold CDt
  rw [w1, w2, w3]
  refine ⟨a1.soft h (by decide) hx, ⟨⟨h0.2.trans a2.1, a2.2⟩, nw, a3, h0.1.trans a4, fun t ht => (a5 t ht).soft h (by omega) hx⟩, fun j hj => ⟨by show x 53 j = _; rw [h53]; exact (a6 j hj).1, fun A hA => ((a6 j hj).2 A hA).soft h (by omega) hx⟩, fun i hi p hp => by show y 7 _ = _; rw [h7]; exact a7 i hi p hp, ht, ho, fun e he => ?_⟩
  have := fa_ok he
  show x (fa e + 9) 0 = _
  rw [(hx (fa e + 9) (by omega)).1]; exact a8 e he
end WHOLE
