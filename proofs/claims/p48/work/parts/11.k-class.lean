/-! ===== shares, consistency and more input of the class ===== -/
def mgS (A : ASt) : UInt64 := FP.ddiv (FP.l2d (Int64.ofNat (gmA A))) (FP.i2d (nW (pcA A)))
def csS (A : ASt) : UInt32 := FP.fdiv (FP.i2f (nW (smA A))) (FP.i2f (nW (A.1 * A.2.1)))
/-- infinite, or a number of the format -/
def NCf (f : FP.Core.Fmt) : FP.Core.Datum → Prop
  | .nan => False
  | .inf _ => True
  | .fin _ c q => c < 2 * f.tails ∧ q ≤ f.qmax
def fnz : FP.Core.Datum → Bool
  | .fin _ c _ => !decide (c = 0)
  | _ => false
theorem nc_bound {f : FP.Core.Fmt} {s : Bool} {c : Nat} {q : Int} (h : c < 2 * f.tails) : NCf f (FP.Core.bound f s c q) := by
  unfold FP.Core.bound
  split
  · exact ⟨h, by assumption⟩
  · trivial
theorem nc_ratio {f : FP.Core.Fmt} (h1 : 2 ^ f.p = 2 * f.tails) (h0 : 0 < f.tails) (h2 : f.qmin ≤ f.qmax) {s : Bool} {a b : Nat} {e : Int} : NCf f (FP.Core.roundRatio f s a b e) := by
  unfold FP.Core.roundRatio FP.Core.roundAt FP.Core.settle
  split
  · exact ⟨by omega, h2⟩
  · split
    · exact nc_bound (by omega)
    · exact nc_bound (by omega)
theorem nc_quot {f : FP.Core.Fmt} (h1 : 2 ^ f.p = 2 * f.tails) (h0 : 0 < f.tails) (h2 : f.qmin ≤ f.qmax) {x y : FP.Core.Datum} (hx : x ≠ .nan) (hy : fnz y = true) : NCf f (FP.Core.quotient f x y) := by
  cases y with
  | nan => cases hy
  | inf s => cases hy
  | fin t c q =>
    have hc : c ≠ 0 := fun e => by
      have : (!decide (c = 0)) = true := hy
      rw [decide_eq_true e] at this; cases this
    cases x with
    | nan => exact absurd rfl hx
    | inf s => trivial
    | fin s c' q' =>
      show NCf f (if c = 0 then _ else FP.Core.roundRatio f (s != t) c' c (q' - q))
      rw [if_neg hc]; exact nc_ratio h1 h0 h2
theorem nc64 {d : FP.Core.Datum} (h : NCf FP.Core.b64 d) : FP.Core.encode FP.Core.b64 d < 18446744073709551616 ∧ FP.Core.encode FP.Core.b64 d % 9223372036854775808 ≤ 9218868437227405312 := by
  have asm : ∀ (s : Bool) (e t : Nat), e * 4503599627370496 + t ≤ 9218868437227405312 → FP.Core.assemble FP.Core.b64 s e t < 18446744073709551616 ∧ FP.Core.assemble FP.Core.b64 s e t % 9223372036854775808 ≤ 9218868437227405312 := fun s e t he => by
    show (s.toNat * 2048 + e) * 4503599627370496 + t < _ ∧ ((s.toNat * 2048 + e) * 4503599627370496 + t) % _ ≤ _
    cases s
    · show (0 * 2048 + e) * 4503599627370496 + t < _ ∧ ((0 * 2048 + e) * 4503599627370496 + t) % _ ≤ _
      omega
    · show (1 * 2048 + e) * 4503599627370496 + t < _ ∧ ((1 * 2048 + e) * 4503599627370496 + t) % _ ≤ _
      omega
  cases d with
  | nan => exact h.elim
  | inf s => exact asm s 2047 0 (by decide)
  | fin s c q =>
    obtain ⟨h1, h2⟩ := h
    have h1 : c < 9007199254740992 := h1
    have h2 : q ≤ 971 := h2
    show (if c < 4503599627370496 then FP.Core.assemble FP.Core.b64 s 0 c else FP.Core.assemble FP.Core.b64 s ((q - -1074).toNat + 1) (c - 4503599627370496)) < _ ∧ (if c < 4503599627370496 then FP.Core.assemble FP.Core.b64 s 0 c else FP.Core.assemble FP.Core.b64 s ((q - -1074).toNat + 1) (c - 4503599627370496)) % _ ≤ _
    split
    · exact asm s 0 c (by omega)
    · exact asm s _ _ (by omega)
theorem nc32 {d : FP.Core.Datum} (h : NCf FP.Core.b32 d) : FP.Core.encode FP.Core.b32 d < 4294967296 ∧ FP.Core.encode FP.Core.b32 d % 2147483648 ≤ 2139095040 := by
  have asm : ∀ (s : Bool) (e t : Nat), e * 8388608 + t ≤ 2139095040 → FP.Core.assemble FP.Core.b32 s e t < 4294967296 ∧ FP.Core.assemble FP.Core.b32 s e t % 2147483648 ≤ 2139095040 := fun s e t he => by
    show (s.toNat * 256 + e) * 8388608 + t < _ ∧ ((s.toNat * 256 + e) * 8388608 + t) % _ ≤ _
    cases s
    · show (0 * 256 + e) * 8388608 + t < _ ∧ ((0 * 256 + e) * 8388608 + t) % _ ≤ _
      omega
    · show (1 * 256 + e) * 8388608 + t < _ ∧ ((1 * 256 + e) * 8388608 + t) % _ ≤ _
      omega
  cases d with
  | nan => exact h.elim
  | inf s => exact asm s 255 0 (by decide)
  | fin s c q =>
    obtain ⟨h1, h2⟩ := h
    have h1 : c < 16777216 := h1
    have h2 : q ≤ 104 := h2
    show (if c < 8388608 then FP.Core.assemble FP.Core.b32 s 0 c else FP.Core.assemble FP.Core.b32 s ((q - -149).toNat + 1) (c - 8388608)) < _ ∧ (if c < 8388608 then FP.Core.assemble FP.Core.b32 s 0 c else FP.Core.assemble FP.Core.b32 s ((q - -149).toNat + 1) (c - 8388608)) % _ ≤ _
    split
    · exact asm s 0 c (by omega)
    · exact asm s _ _ (by omega)
theorem dec64 {n : Nat} (h : n % 9223372036854775808 ≤ 9218868437227405312) : FP.Core.decode FP.Core.b64 n ≠ .nan := by
  unfold FP.Core.decode
  split
  · rename_i he
    have he : n / 4503599627370496 % 2048 = 2047 := he
    have : FP.Core.fieldT FP.Core.b64 n = 0 := by show n % 4503599627370496 = 0; omega
    rw [if_pos this]; intro q; cases q
  · split <;> (intro q; cases q)
theorem dec32 {n : Nat} (h : n % 2147483648 ≤ 2139095040) : FP.Core.decode FP.Core.b32 n ≠ .nan := by
  unfold FP.Core.decode
  split
  · rename_i he
    have he : n / 8388608 % 256 = 255 := he
    have : FP.Core.fieldT FP.Core.b32 n = 0 := by show n % 8388608 = 0; omega
    rw [if_pos this]; intro q; cases q
  · split <;> (intro q; cases q)
theorem den64 : ∀ k, k < 41 → k ≠ 0 → fnz (FP.Core.decode FP.Core.b64 (FP.Core.i2d (nW k)).toNat) = true := by decide +kernel
theorem den32 : ∀ k, k < 41 → k ≠ 0 → fnz (FP.Core.decode FP.Core.b32 (FP.Core.i2f (nW k)).toNat) = true := by decide +kernel
theorem two64 : 2 ^ FP.Core.b64.p = 2 * FP.Core.b64.tails ∧ 0 < FP.Core.b64.tails ∧ FP.Core.b64.qmin ≤ FP.Core.b64.qmax := by decide
theorem two32 : 2 ^ FP.Core.b32.p = 2 * FP.Core.b32.tails ∧ 0 < FP.Core.b32.tails ∧ FP.Core.b32.qmin ≤ FP.Core.b32.qmax := by decide
/-- a number's bytes -/
def bv4 (v : Int32) (i : Nat) : Nat := ((v >>> (nW (24 - 8 * i) &&& nW 31)) &&& nW 255).toInt.toNat
def app4 (T : Nat → Nat) (L : Nat) (v : Int32) : Nat → Nat := fun i => if L ≤ i ∧ i < L + 4 then bv4 v (i - L) else T i
theorem and255 (w : Int32) : (w &&& nW 255).toInt.toNat < 256 ∧ nW (w &&& nW 255).toInt.toNat = w &&& nW 255 := by
  have h : (w &&& nW 255).toBitVec.toNat < 256 := by
    show (w.toBitVec &&& (nW 255).toBitVec).toNat < 256
    rw [BitVec.toNat_and]
    exact Nat.lt_of_le_of_lt Nat.and_le_right (by decide)
  generalize w &&& nW 255 = u at *
  have e : u.toInt = u.toBitVec.toNat := by
    show u.toBitVec.toInt = _
    rw [BitVec.toInt_eq_toNat_of_lt (by omega)]
  rw [e]
  refine ⟨by omega, ?_⟩
  apply Int32.toBitVec_inj.mp
  show BitVec.ofNat 32 _ = _
  simp
theorem bv4_ok (v : Int32) (i : Nat) : bv4 v i < 256 ∧ nW (bv4 v i) = (v >>> (nW (24 - 8 * i) &&& nW 31)) &&& nW 255 := and255 _
theorem byte255 (w : Int32) : w.toInt8.toInt32 &&& nW 255 = w &&& nW 255 := by
  apply Int32.toBitVec_inj.mp
  show (w.toBitVec.signExtend 8).signExtend 32 &&& 255#32 = w.toBitVec &&& 255#32
  apply BitVec.eq_of_getLsbD_eq
  intro i hi
  rw [BitVec.getLsbD_and, BitVec.getLsbD_and]
  by_cases q : i < 8
  · rw [BitVec.getLsbD_signExtend, BitVec.getLsbD_signExtend]
    simp only [q, hi, decide_true, Bool.true_and, if_true]
  · have : (255#32).getLsbD i = false := by
      rw [show (255#32) = BitVec.ofNat 32 (2 ^ 8 - 1) from rfl, BitVec.getLsbD_ofNat]
      rw [Nat.testBit_two_pow_sub_one, decide_eq_false q, Bool.and_false]
    rw [this, Bool.and_false, Bool.and_false]
def oApp (W : WSt) (a b c d e : Int32) : Int32 × WSt := if 600 < W.2.2.2.1.2 + 20 then (-nW 1, W) else (nW (W.2.2.2.1.2 + 20), (W.1, W.2.1, W.2.2.1, (app4 (app4 (app4 (app4 (app4 W.2.2.2.1.1 W.2.2.2.1.2 a) (W.2.2.2.1.2 + 4) b) (W.2.2.2.1.2 + 8) c) (W.2.2.2.1.2 + 12) d) (W.2.2.2.1.2 + 16) e, W.2.2.2.1.2 + 20), W.2.2.2.2))
section CAPP
variable {G : Mem} {ro l K : Nat → Nat} {W : WSt} {d : Nat} {x : Nat → Nat → Int32} {y : Nat → Nat → Int64}
theorem cput_ok (h : PSh G) {T : Nat → Nat} {L : Nat} (hb : CBy x T L) (hL : L + 4 ≤ 600) {v : Int32} : ∃ x', fX5_put 2 v (wIJ G x y) = some ((), wIJ G x' y) ∧ (∀ b j, ¬ (b = 2 ∧ j = 0) → b ≠ 3 → x' b j = x b j) ∧ CBy x' (app4 T L v) (L + 4) := by
  obtain ⟨b1, b2, b3⟩ := hb
  let sv : Nat → Int32 := fun i => ((v >>> (nW (24 - 8 * i) &&& nW 31)).toInt8.toInt32).toInt8.toInt32
  let X : Nat → Nat → Nat → Int32 := fun k b j => if b = 2 ∧ j = 0 then nW (L + k) else if b = 3 ∧ (L ≤ j ∧ j < L + k) then sv (j - L) else x b j
  have X0 : ∀ k, X k 2 0 = nW (L + k) := fun k => if_pos ⟨rfl, rfl⟩
  have Xo : ∀ k b j, ¬ (b = 2 ∧ j = 0) → b ≠ 3 → X k b j = x b j := fun k b j q1 q2 => by
    show (if _ then _ else if _ then _ else _) = _
    rw [if_neg q1, if_neg (fun z => q2 z.1)]
  have Xs : ∀ k, u2 (u2 (X k) 2 0 (nW (L + k + 1))) 3 (L + k) (sv k) = X (k + 1) := fun k => by
    funext b j
    show _ = if b = 2 ∧ j = 0 then nW (L + (k + 1)) else if b = 3 ∧ (L ≤ j ∧ j < L + (k + 1)) then sv (j - L) else x b j
    by_cases q : b = 2 ∧ j = 0
    · rw [if_pos q, q.1, q.2, u2_other (by omega), u2_same]; rfl
    · rw [if_neg q]
      by_cases q2 : b = 3 ∧ j = L + k
      · rw [if_pos ⟨q2.1, by omega⟩, q2.1, q2.2, u2_same, show L + k - L = k by omega]
      · rw [u2_other q2, u2_other q]
        show (if _ then _ else if _ then _ else _) = _
        rw [if_neg q]
        by_cases q3 : b = 3 ∧ (L ≤ j ∧ j < L + k)
        · rw [if_pos q3, if_pos ⟨q3.1, by omega⟩]
        · rw [if_neg q3, if_neg (by omega)]
  have E0 : X 0 = x := by
    funext b j
    show (if b = 2 ∧ j = 0 then nW (L + 0) else if b = 3 ∧ (L ≤ j ∧ j < L + 0) then _ else _) = _
    by_cases q : b = 2 ∧ j = 0
    · rw [if_pos q, q.1, q.2, b2]; rfl
    · rw [if_neg q, if_neg (by omega)]
  refine ⟨X 4, ?_, fun b j => Xo 4 b j, ⟨hL, X0 4, fun i hi => ?_⟩⟩
  · unfold fX5_put fX5_put_0
    simp only [lits]
    have lp := loop_to (f := fun (s : Int32) G => fX5_put_3 2 v s G) (fun k => if k < 4 then nW (24 - 8 * k) else -nW 8) (fun k => wIJ G (X k) y) 4 () (wIJ G (X 4) y) (fun k hk => by
      show fX5_put_3 2 v (if k < 4 then nW (24 - 8 * k) else -nW 8) (wIJ G (X k) y) = _
      rw [if_pos hk]
      unfold fX5_put_3
      simp only [lits]
      have nx : nW (24 - 8 * k) + (-nW 8) = if k + 1 < 4 then nW (24 - 8 * (k + 1)) else -nW 8 := by
        have : k = 0 ∨ k = 1 ∨ k = 2 ∨ k = 3 := by omega
        rcases this with rfl | rfl | rfl | rfl <;> decide
      rw [if_neg (nW_neg_lt (by omega)), gF_wij h.2.1.1, X0, Option.bind_some, gR_wij, h.t5, Option.bind_some, gL_wij, h.l3, Option.bind_some, if_neg (by rw [nW_le (by decide) (by omega)]; omega), Option.bind_some, Option.bind_some, nW_add, pI_wij h.2.1.1, Option.bind_some, pB_wij h.2.2.1.1 (by rw [h.2.2.1.2]; omega) (by rw [h.2.2.1.2]; decide), Option.bind_some, nx]
      show some (Sum.inl _, wIJ G (u2 (u2 (X k) 2 0 (nW (L + k + 1))) 3 (L + k) (sv k)) y) = _
      rw [Xs]) (by
      show fX5_put_3 2 v (if 4 < 4 then _ else -nW 8) _ = _
      rw [if_neg (by decide)]
      unfold fX5_put_3 fX5_put_45
      simp only [lits]
      rw [if_pos (show -nW 8 < nW 0 by decide)]; rfl) 4 0 FU rfl (by decide)
    show loopM (fun (s : Int32) G => fX5_put_3 2 v s G) FU (nW 24) (wIJ G x y) = _
    rw [← E0]
    exact lp
  · show (if L ≤ i ∧ i < L + 4 then bv4 v (i - L) else T i) < 256 ∧ (if 3 = 2 ∧ i = 0 then _ else if 3 = 3 ∧ (L ≤ i ∧ i < L + 4) then sv (i - L) else x 3 i) &&& nW 255 = nW (if L ≤ i ∧ i < L + 4 then bv4 v (i - L) else T i)
    rw [if_neg (show ¬ (3 = 2 ∧ i = 0) by omega)]
    by_cases q : L ≤ i ∧ i < L + 4
    · rw [if_pos q, if_pos ⟨rfl, q⟩]
      have := bv4_ok v (i - L)
      refine ⟨this.1, ?_⟩
      rw [this.2]
      show (((v >>> (nW (24 - 8 * (i - L)) &&& nW 31)).toInt8.toInt32).toInt8.toInt32) &&& nW 255 = _
      rw [byte255, byte255]
    · rw [if_neg q, if_neg (fun z => q z.2)]
      exact b3 i (by omega)
theorem capp_ok (hC : CI G d W) {a b c e f : Int32} : COu G d (fX6_append 0 a b c e f G) (oApp W a b c e f) := by
  obtain ⟨ro, l, K, h1, h2, h3⟩ := id hC
  obtain ⟨-, -, -, -, t1, o1, -⟩ := id h3
  have hp := h1.ps
  have hL := t1.1.1
  have g0 : gF (wIJ G (mI G) (mJ G)) 15 2 0 = some (nW W.2.2.2.1.2) := by rw [gF_wij hp.2.1.1, t1.1.2.1]
  have g5 : gR (wIJ G (mI G) (mJ G)) 15 2 5 = some 3 := hp.t5
  have hr : fX5_hasRoom 2 G = some (bI (!decide (600 < W.2.2.2.1.2 + 20)), G) := by
    unfold fX5_hasRoom fX5_hasRoom_0 fX5_hasRoom_20
    simp only [lits]
    rw [wij_self] at g0
    rw [g0, Option.bind_some, hp.t5, Option.bind_some, hp.l3, Option.bind_some, nW_add]
    by_cases q : 600 < W.2.2.2.1.2 + 20
    · rw [if_pos ((nW_lt (by decide) (by omega)).mpr q), decide_eq_true q]; exact rz0
    · rw [if_neg (fun z => q ((nW_lt (by decide) (by omega)).mp z)), decide_eq_false q]; exact rz1
  unfold fX6_append fX6_append_0 oApp
  simp only [lits]
  rw [h1.f0, Option.bind_some, hp.g0, Option.bind_some, ck_ok hp.2.1.1, hr, Option.bind_some]
  by_cases q : 600 < W.2.2.2.1.2 + 20
  · rw [if_pos (show bI (!decide (600 < W.2.2.2.1.2 + 20)) = nW 0 by rw [decide_eq_true q]; rfl), if_pos q]
    exact COu.same hC
  · rw [if_neg (show ¬ bI (!decide (600 < W.2.2.2.1.2 + 20)) = nW 0 by rw [decide_eq_false q]; exact bIt), if_neg q]
    obtain ⟨x1, p1, f1, c1⟩ := cput_ok (G := G) (x := mI G) (y := mJ G) (v := a) hp t1.1 (by omega)
    obtain ⟨x2, p2, f2, c2⟩ := cput_ok (G := G) (x := x1) (y := mJ G) (v := b) hp c1 (by omega)
    obtain ⟨x3, p3, f3, c3⟩ := cput_ok (G := G) (x := x2) (y := mJ G) (v := c) hp c2 (by omega)
    obtain ⟨x4, p4, f4, c4⟩ := cput_ok (G := G) (x := x3) (y := mJ G) (v := e) hp c3 (by omega)
    obtain ⟨x5, p5, f5, c5⟩ := cput_ok (G := G) (x := x4) (y := mJ G) (v := f) hp c4 (by omega)
    rw [wij_self] at p1
    have F : ∀ b j, ¬ (b = 2 ∧ j = 0) → b ≠ 3 → x5 b j = mI G b j := fun b j q1 q2 => by rw [f5 b j q1 q2, f4 b j q1 q2, f3 b j q1 q2, f2 b j q1 q2, f1 b j q1 q2]
    have R : ∀ b, b ≠ 2 → b ≠ 3 → x5 b = mI G b := fun b q1 q2 => funext fun j => F b j (fun z => q1 z.1) q2
    have gl : gF (wIJ G x5 (mJ G)) 15 2 0 = some (nW (W.2.2.2.1.2 + 20)) := by rw [gF_wij hp.2.1.1, c5.2.1]
    rw [ck_ok hp.2.1.1, p1, Option.bind_some, ck_wij, ck_ok hp.2.1.1, p2, Option.bind_some, ck_wij, ck_ok hp.2.1.1, p3, Option.bind_some, ck_wij, ck_ok hp.2.1.1, p4, Option.bind_some, ck_wij, ck_ok hp.2.1.1, p5, Option.bind_some, gl, Option.bind_some]
    exact ⟨_, rfl, ⟨ro, l, K, h1, h2, h3.soft h1 (fun b hb => ⟨R b (by omega) (by omega), rfl⟩) ⟨F 0 6 (by omega) (by decide), F 0 7 (by omega) (by decide)⟩ (R 53 (by decide) (by decide)) rfl rfl rfl rfl ⟨c5, (F 1 1 (by omega) (by decide)).trans t1.2.1, (F 1 2 (by omega) (by decide)).trans t1.2.2⟩ (by rw [R 0 (by decide) (by decide), R 54 (by decide) (by decide)]; exact o1)⟩, RKp.wij (fun b q1 q2 => ⟨R b (by omega) (by omega), rfl⟩)⟩
end CAPP
