theorem k_strw {X : Cx} {cc : ByteArray} {own : String} {ret : Option FieldType} {nL fr lo pc : Nat} {L : List (Nat × Value)} {st : List Value} {G : Mem} (ok : OK X cc own ret nL fr lo) {ix : Nat} {tx : String} {i : Nat} (hs : (own, ix, tx, i) ∈ strTab) (hd : decode cc pc = .ok (.ldc_w ix, 3)) (k : J X nL (pc + 3) L (.ref (X.V.sa i) :: st) G) : J X nL pc L st G := by
  intro H locs ls hR hc hl T hT S
  obtain ⟨t, a1, b1⟩ := k H locs ls hR hc hl T hT S
  have hZ := sv_str ok hs
  exact ⟨t, S.ldcStringW ok.1 (own := own) (text := tx) (index := ix) (a := X.V.sa i) ok.2.2.2.1 hZ.1 hZ.2 (g := F0 X.m pc ls st) rfl (by rw [ok.2.1]; exact hd) t a1, b1⟩
/-! ===== small numbers ===== -/
def nW (n : Nat) : Int32 := Int32.ofNat n
theorem nW_add (a b : Nat) : nW a + nW b = nW (a + b) := (Int32.ofNat_add a b).symm
theorem nW_mul (a b : Nat) : nW a * nW b = nW (a * b) := (Int32.ofNat_mul a b).symm
theorem nW_sub {a b : Nat} (h : b ≤ a) : nW a - nW b = nW (a - b) := (Int32.ofNat_sub a b h).symm
theorem nW_int {a : Nat} (h : a < 2147483648) : (nW a).toInt = a := Int32.toInt_ofNat_of_lt h
theorem nW_clamp {a : Nat} (h : a < 2147483648) : (nW a).toNatClampNeg = a := Int32.toNatClampNeg_ofNat_of_lt h
theorem nW_lt {a b : Nat} (ha : a < 2147483648) (hb : b < 2147483648) : nW a < nW b ↔ a < b := by
  rw [Int32.lt_iff_toInt_lt, nW_int ha, nW_int hb]; omega
theorem nW_le {a b : Nat} (ha : a < 2147483648) (hb : b < 2147483648) : nW a ≤ nW b ↔ a ≤ b := by
  rw [Int32.le_iff_toInt_le, nW_int ha, nW_int hb]; omega
theorem nW_eq {a b : Nat} (ha : a < 2147483648) (hb : b < 2147483648) : nW a = nW b ↔ a = b := by
  rw [← Int32.toInt_inj, nW_int ha, nW_int hb]; omega
theorem nW_div {a b : Nat} (ha : a < 2147483648) (hb : b < 2147483648) : nW a / nW b = nW (a / b) := (Int32.ofNat_div ha hb).symm
theorem nW_rem {a b : Nat} (ha : a < 2147483648) (hb : b < 2147483648) : nW a - nW a / nW b * nW b = nW (a % b) := by
  rw [nW_div ha hb, nW_mul, nW_sub (Nat.div_mul_le_self a b)]
  congr 1
  have := Nat.div_add_mod a b
  rw [Nat.mul_comm] at this
  omega
theorem nW_neg_lt {a : Nat} (ha : a < 2147483648) : ¬ nW a < nW 0 := by rw [nW_lt ha (by decide)]; omega
theorem nW_m1 {a : Nat} (ha : a < 2147483648) : ¬ nW a = -nW 1 := by
  rw [← Int32.toInt_inj, nW_int ha, show (-nW 1).toInt = -1 from by decide]; omega
theorem m1_nW {a : Nat} (ha : a < 2147483648) : ¬ -nW 1 = nW a := fun h => nW_m1 ha h.symm
theorem m1_lt0 : -nW 1 < nW 0 := by decide
theorem m1_lt {a : Nat} (ha : a < 2147483648) : -nW 1 < nW a := by
  rw [Int32.lt_iff_toInt_lt, nW_int ha, show (-nW 1).toInt = -1 from by decide]; omega
theorem m1_le {a : Nat} (ha : a < 2147483648) : -nW 1 ≤ nW a := by
  rw [Int32.le_iff_toInt_le, nW_int ha, show (-nW 1).toInt = -1 from by decide]; omega
theorem nW_le_m1 {a : Nat} (ha : a < 2147483648) : ¬ nW a ≤ -nW 1 := by
  rw [Int32.le_iff_toInt_le, nW_int ha, show (-nW 1).toInt = -1 from by decide]; omega
theorem inb_nW {a n : Nat} (ha : a < 2147483648) : inb (nW a) n ↔ a < n := by
  unfold inb; rw [nW_int ha]; omega
theorem lits : (0 : Int32) = nW 0 ∧ (1 : Int32) = nW 1 ∧ (2 : Int32) = nW 2 ∧ (3 : Int32) = nW 3 ∧ (4 : Int32) = nW 4 ∧ (5 : Int32) = nW 5 ∧ (6 : Int32) = nW 6 ∧ (7 : Int32) = nW 7 ∧ (8 : Int32) = nW 8 ∧ (9 : Int32) = nW 9 ∧ (10 : Int32) = nW 10 ∧ (11 : Int32) = nW 11 ∧ (12 : Int32) = nW 12 ∧ (13 : Int32) = nW 13 ∧ (14 : Int32) = nW 14 ∧ (15 : Int32) = nW 15 ∧ (16 : Int32) = nW 16 ∧ (18 : Int32) = nW 18 ∧ (20 : Int32) = nW 20 ∧ (24 : Int32) = nW 24 ∧ (31 : Int32) = nW 31 ∧ (32 : Int32) = nW 32 ∧ (36 : Int32) = nW 36 ∧ (39 : Int32) = nW 39 ∧ (40 : Int32) = nW 40 ∧ (41 : Int32) = nW 41 ∧ (46 : Int32) = nW 46 ∧ (48 : Int32) = nW 48 ∧ (57 : Int32) = nW 57 ∧ (59 : Int32) = nW 59 ∧ (60 : Int32) = nW 60 ∧ (63 : Int32) = nW 63 ∧ (66 : Int32) = nW 66 ∧ (75 : Int32) = nW 75 ∧ (78 : Int32) = nW 78 ∧ (81 : Int32) = nW 81 ∧ (82 : Int32) = nW 82 ∧ (88 : Int32) = nW 88 ∧ (97 : Int32) = nW 97 ∧ (109 : Int32) = nW 109 ∧ (122 : Int32) = nW 122 ∧ (218 : Int32) = nW 218 ∧ (250 : Int32) = nW 250 ∧ (255 : Int32) = nW 255 ∧ (315 : Int32) = nW 315 ∧ (440 : Int32) = nW 440 ∧ (600 : Int32) = nW 600 ∧ (763 : Int32) = nW 763 ∧ (872 : Int32) = nW 872 ∧ (1000 : Int32) = nW 1000 ∧ (1296 : Int32) = nW 1296 ∧ (1320 : Int32) = nW 1320 ∧ (1600 : Int32) = nW 1600 ∧ (2304 : Int32) = nW 2304 ∧ (4095 : Int32) = nW 4095 ∧ (15840 : Int32) = nW 15840 ∧ (16000 : Int32) = nW 16000 ∧ (100000 : Int32) = nW 100000 :=
  ⟨rfl, rfl, rfl, rfl, rfl, rfl, rfl, rfl, rfl, rfl, rfl, rfl, rfl, rfl, rfl, rfl, rfl, rfl, rfl, rfl, rfl, rfl, rfl, rfl, rfl, rfl, rfl, rfl, rfl, rfl, rfl, rfl, rfl, rfl, rfl, rfl, rfl, rfl, rfl, rfl, rfl, rfl, rfl, rfl, rfl, rfl, rfl, rfl, rfl, rfl, rfl, rfl, rfl, rfl, rfl, rfl, rfl, rfl⟩
/-! bits -/
theorem nW_bv (a : Nat) : (nW a).toBitVec = BitVec.ofNat 32 a := rfl
theorem bv_inj {x y : Int32} (h : x.toBitVec.toNat = y.toBitVec.toNat) : x = y := Int32.toBitVec_inj.mp (BitVec.eq_of_toNat_eq h)
theorem nW_and63 (a : Nat) : nW a &&& nW 63 = nW (a % 64) := by
  apply bv_inj
  show ((BitVec.ofNat 32 a) &&& (BitVec.ofNat 32 63)).toNat = (BitVec.ofNat 32 (a % 64)).toNat
  rw [BitVec.toNat_and, BitVec.toNat_ofNat, BitVec.toNat_ofNat, BitVec.toNat_ofNat]
  rw [show 63 % 2 ^ 32 = 2 ^ 6 - 1 from by decide, Nat.and_two_pow_sub_one_eq_mod]
  omega
theorem nW_and4095 (a : Nat) : nW a &&& nW 4095 = nW (a % 4096) := by
  apply bv_inj
  show ((BitVec.ofNat 32 a) &&& (BitVec.ofNat 32 4095)).toNat = (BitVec.ofNat 32 (a % 4096)).toNat
  rw [BitVec.toNat_and, BitVec.toNat_ofNat, BitVec.toNat_ofNat, BitVec.toNat_ofNat]
  rw [show 4095 % 2 ^ 32 = 2 ^ 12 - 1 from by decide, Nat.and_two_pow_sub_one_eq_mod]
  omega
theorem nW_and15 (a : Nat) : nW a &&& nW 15 = nW (a % 16) := by
  apply bv_inj
  show ((BitVec.ofNat 32 a) &&& (BitVec.ofNat 32 15)).toNat = (BitVec.ofNat 32 (a % 16)).toNat
  rw [BitVec.toNat_and, BitVec.toNat_ofNat, BitVec.toNat_ofNat, BitVec.toNat_ofNat]
  rw [show 15 % 2 ^ 32 = 2 ^ 4 - 1 from by decide, Nat.and_two_pow_sub_one_eq_mod]
  omega
theorem nW_and7 (a : Nat) : nW a &&& nW 7 = nW (a % 8) := by
  apply bv_inj
  show ((BitVec.ofNat 32 a) &&& (BitVec.ofNat 32 7)).toNat = (BitVec.ofNat 32 (a % 8)).toNat
  rw [BitVec.toNat_and, BitVec.toNat_ofNat, BitVec.toNat_ofNat, BitVec.toNat_ofNat]
  rw [show 7 % 2 ^ 32 = 2 ^ 3 - 1 from by decide, Nat.and_two_pow_sub_one_eq_mod]
  omega
theorem shc : ∀ k : Nat, k < 32 → nW k &&& nW 31 = nW k := by decide
theorem nW_shl (a : Nat) {k : Nat} (hk : k < 32) : nW a <<< (nW k &&& nW 31) = nW (a * 2 ^ k) := by
  rw [shc k hk]
  apply bv_inj
  show ((BitVec.ofNat 32 a) <<< ((BitVec.ofNat 32 k).smod 32)).toNat = (BitVec.ofNat 32 (a * 2 ^ k)).toNat
  have e : ∀ k : Nat, k < 32 → ((BitVec.ofNat 32 k).smod 32) = BitVec.ofNat 32 k := by decide
  rw [e k hk, BitVec.shiftLeft_eq', BitVec.toNat_shiftLeft, BitVec.toNat_ofNat, BitVec.toNat_ofNat, BitVec.toNat_ofNat, Nat.mod_eq_of_lt (by omega : k < 2 ^ 32), Nat.shiftLeft_eq, Nat.mod_mul_mod]
theorem nW_shr {a k : Nat} (ha : a < 2147483648) (hk : k < 32) : nW a >>> (nW k &&& nW 31) = nW (a / 2 ^ k) := by
  rw [shc k hk]
  apply bv_inj
  show ((BitVec.ofNat 32 a).sshiftRight' ((BitVec.ofNat 32 k).smod 32)).toNat = (BitVec.ofNat 32 (a / 2 ^ k)).toNat
  have e : ∀ k : Nat, k < 32 → ((BitVec.ofNat 32 k).smod 32) = BitVec.ofNat 32 k := by decide
  have h1 : (BitVec.ofNat 32 a).msb = false := by
    rw [BitVec.msb_eq_decide, BitVec.toNat_ofNat]
    simp; omega
  have h2 : a / 2 ^ k < 2 ^ 32 := Nat.lt_of_le_of_lt (Nat.div_le_self _ _) (by omega)
  rw [e k hk, BitVec.sshiftRight_eq', BitVec.sshiftRight_eq_of_msb_false h1, BitVec.toNat_ushiftRight, BitVec.toNat_ofNat, BitVec.toNat_ofNat, BitVec.toNat_ofNat, Nat.mod_eq_of_lt (by omega : k < 2 ^ 32), Nat.mod_eq_of_lt (by omega : a < 2 ^ 32), Nat.shiftRight_eq_div_pow, Nat.mod_eq_of_lt h2]
theorem nW_or {a b : Nat} (k : Nat) (hb : b < 2 ^ k) (hab : a * 2 ^ k + b < 4294967296) : nW (a * 2 ^ k) ||| nW b = nW (a * 2 ^ k + b) := by
  apply bv_inj
  show ((BitVec.ofNat 32 (a * 2 ^ k)) ||| (BitVec.ofNat 32 b)).toNat = (BitVec.ofNat 32 (a * 2 ^ k + b)).toNat
  rw [BitVec.toNat_or, BitVec.toNat_ofNat, BitVec.toNat_ofNat, BitVec.toNat_ofNat, Nat.mod_eq_of_lt (by omega), Nat.mod_eq_of_lt (by omega), Nat.mod_eq_of_lt (by omega)]
  rw [← Nat.shiftLeft_eq, ← Nat.shiftLeft_add_eq_or_of_lt hb]
/-! ===== loops ===== -/
theorem loop_by {σ ρ : Type} {f : σ → Mem → Option ((σ ⊕ ρ) × Mem)} (inv : Nat → σ → Mem → Prop) (post : ρ → Mem → Prop)
    (step : ∀ k s G, inv k s G → (∃ r G', f s G = some (.inr r, G') ∧ post r G') ∨ (∃ k' s' G', k' < k ∧ f s G = some (.inl s', G') ∧ inv k' s' G')) :
    ∀ (fu k : Nat) (s : σ) (G : Mem), k < fu → inv k s G → ∃ r G', loopM f fu s G = some (r, G') ∧ post r G' := by
  intro fu
  induction fu with
  | zero => intro k s G h; omega
  | succ n ih =>
    intro k s G h hi
    rcases step k s G hi with ⟨r, G', e, hp⟩ | ⟨k', s', G', hk, e, hi'⟩
    · exact ⟨r, G', by unfold loopM; rw [e]; rfl, hp⟩
    · obtain ⟨r, G2, e2, hp⟩ := ih k' s' G' (by omega) hi'
      exact ⟨r, G2, by unfold loopM; rw [e]; exact e2, hp⟩
/-- a counting loop, whose results are known: at step i the state is s i, the memory m i, the end at n -/
theorem loop_to {σ ρ : Type} {f : σ → Mem → Option ((σ ⊕ ρ) × Mem)} (s : Nat → σ) (m : Nat → Mem) (n : Nat) (r : ρ) (G' : Mem) (step : ∀ i, i < n → f (s i) (m i) = some (.inl (s (i + 1)), m (i + 1))) (last : f (s n) (m n) = some (.inr r, G')) :
    ∀ (d i fu : Nat), i + d = n → d < fu → loopM f fu (s i) (m i) = some (r, G') := by
  intro d
  induction d with
  | zero =>
    intro i fu h hf
    obtain ⟨fu, rfl⟩ : ∃ k, fu = k + 1 := ⟨fu - 1, by omega⟩
    have : i = n := by omega
    subst this
    unfold loopM
    rw [last]; rfl
  | succ d ih =>
    intro i fu h hf
    obtain ⟨fu, rfl⟩ : ∃ k, fu = k + 1 := ⟨fu - 1, by omega⟩
    unfold loopM
    rw [step i (by omega)]
    exact ih (i + 1) fu (by omega) (by omega)
/-! ===== memories with other contents ===== -/
def wIJ (G : Mem) (x : Nat → Nat → Int32) (y : Nat → Nat → Int64) : Mem := (mz G, ml G, mt G, mn G, x, y, mP G, cC G, cS G)
section WIJ
variable {G : Mem} {x : Nat → Nat → Int32} {y : Nat → Nat → Int64}
theorem wij_self (G : Mem) : wIJ G (mI G) (mJ G) = G := rfl
theorem wij_wij {x' : Nat → Nat → Int32} {y' : Nat → Nat → Int64} : wIJ (wIJ G x y) x' y' = wIJ G x' y' := rfl
theorem mI_wij : mI (wIJ G x y) = x := rfl
theorem mJ_wij : mJ (wIJ G x y) = y := rfl
theorem mt_wij : mt (wIJ G x y) = mt G := rfl
theorem mn_wij : mn (wIJ G x y) = mn G := rfl
theorem mP_wij : mP (wIJ G x y) = mP G := rfl
theorem gR_wij {t a k : Nat} : gR (wIJ G x y) t a k = gR G t a k := rfl
theorem gQ_wij {t a : Nat} {i : Int32} : gQ (wIJ G x y) t a i = gQ G t a i := rfl
theorem gL_wij {a : Nat} : gL (wIJ G x y) a = gL G a := rfl
theorem ck_wij {α : Type} {t o : Nat} {v : Option α} : ck (wIJ G x y) t o v = ck G t o v := rfl
theorem ck_ok {α : Type} {t o : Nat} {v : Option α} (h : mt G o = t) : ck G t o v = v := if_pos h
theorem gR_ok {t a k : Nat} {v : Nat} (h : mt G a = t) (h2 : mP G a k = some v) : gR G t a k = some v := by unfold gR; rw [if_pos h, h2]
theorem gF_wij {t a k : Nat} (h : mt G a = t) : gF (wIJ G x y) t a k = some (x a k) := if_pos h
theorem pI_wij {t a k : Nat} {v : Int32} (h : mt G a = t) : pI (wIJ G x y) t a k v = some (wIJ G (u2 x a k v) y) := if_pos h
theorem pZ_wij {t a k : Nat} {v : Int32} (h : mt G a = t) (h2 : v = 0 ∨ v = 1) : pZ (wIJ G x y) t a k v = some (wIJ G (u2 x a k v) y) := if_pos ⟨h, h2⟩
theorem gA_wij {t a i : Nat} (h : mt G a = t) (h2 : i < mn G a) (h3 : mn G a ≤ 2147483648) : gA (wIJ G x y) t a (nW i) = some (x a i) := by
  unfold gA
  rw [if_pos ⟨h, (inb_nW (by omega)).mpr h2⟩, nW_clamp (by omega)]; rfl
theorem gJ_wij {a i : Nat} (h : mt G a = 5) (h2 : i < mn G a) (h3 : mn G a ≤ 2147483648) : gJ (wIJ G x y) a (nW i) = some (y a i) := by
  unfold gJ
  rw [if_pos ⟨h, (inb_nW (by omega)).mpr h2⟩, nW_clamp (by omega)]; rfl
theorem pA_wij {a i : Nat} {v : Int32} (h : mt G a = 1) (h2 : i < mn G a) (h3 : mn G a ≤ 2147483648) : pA (wIJ G x y) a (nW i) v = some (wIJ G (u2 x a i v) y) := by
  unfold pA
  rw [if_pos ⟨h, (inb_nW (by omega)).mpr h2⟩, nW_clamp (by omega)]; rfl
theorem pB_wij {a i : Nat} {v : Int32} (h : mt G a = 2) (h2 : i < mn G a) (h3 : mn G a ≤ 2147483648) : pB (wIJ G x y) a (nW i) v = some (wIJ G (u2 x a i v.toInt8.toInt32) y) := by
  unfold pB
  rw [if_pos ⟨h, (inb_nW (by omega)).mpr h2⟩, nW_clamp (by omega)]; rfl
theorem pT_wij {a i : Nat} {v : Int32} (h : mt G a = 3) (h2 : i < mn G a) (h3 : mn G a ≤ 2147483648) (h4 : v = 0 ∨ v = 1) : pT (wIJ G x y) a (nW i) v = some (wIJ G (u2 x a i v) y) := by
  unfold pT
  rw [if_pos ⟨h, (inb_nW (by omega)).mpr h2, h4⟩, nW_clamp (by omega)]; rfl
theorem pJ_wij {a i : Nat} {v : Int64} (h : mt G a = 5) (h2 : i < mn G a) (h3 : mn G a ≤ 2147483648) : pJ (wIJ G x y) a (nW i) v = some (wIJ G x (u2 y a i v)) := by
  unfold pJ
  rw [if_pos ⟨h, (inb_nW (by omega)).mpr h2⟩, nW_clamp (by omega)]; rfl
theorem gL_ok {a : Nat} (h : mt G a = 1 ∨ mt G a = 2 ∨ mt G a = 3 ∨ mt G a = 5 ∨ mt G a = 6 ∨ mt G a = 7) : gL G a = some (nW (mn G a)) := if_pos h
theorem gQ_ok {t a i : Nat} {v : Nat} (h : mt G a = t) (h2 : i < mn G a) (h3 : mn G a ≤ 2147483648) (h4 : mP G a i = some v) : gQ G t a (nW i) = some v := by
  unfold gQ
  rw [if_pos ⟨h, (inb_nW (by omega)).mpr h2⟩, nW_clamp (by omega), h4]
theorem u2_same {α : Type} {f : Nat → Nat → α} {a k : Nat} {v : α} : u2 f a k v a k = v := if_pos ⟨rfl, rfl⟩
theorem u2_other {α : Type} {f : Nat → Nat → α} {a k b j : Nat} {v : α} (h : ¬ (b = a ∧ j = k)) : u2 f a k v b j = f b j := if_neg h
theorem u2_apart {α : Type} {f : Nat → Nat → α} {a k b j : Nat} {v : α} (h : b ≠ a) : u2 f a k v b j = f b j := if_neg fun q => h q.1
theorem rz_ok {α : Type} {v : Int32} {z : Option α} (h : v = 0 ∨ v = 1) : rz v z = z := if_pos h
theorem rz0 {α : Type} {z : Option α} : rz (nW 0) z = z := if_pos (Or.inl rfl)
theorem rz1 {α : Type} {z : Option α} : rz (nW 1) z = z := if_pos (Or.inr rfl)
theorem dz_ok {α : Type} {a : Nat} {z : Option α} (h : 0 < a) (h2 : a < 2147483648) : dz (nW a) z = z := if_neg (by rw [lits.1, nW_eq h2 (by decide)]; omega)
end WIJ
