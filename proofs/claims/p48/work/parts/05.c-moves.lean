/-! ===== the class's board: ranges, legal moves ===== -/
def gQf (c r : Nat) : Bool := allN 88 fun p => !onb c r p || (decide (sqp c p < c * r) && decide (pl c (sqp c p) = p))
set_option maxRecDepth 100000 in
theorem gQ_all : (allN 4 fun c => allN 4 fun r => gQf (c + 3) (r + 3)) = true := by decide +kernel
theorem pl_sqp {c r : Nat} (hs : szs c r) {p : Nat} (hp : p < 88) (h : onb c r p = true) : sqp c p < c * r ∧ pl c (sqp c p) = p := by
  have g := imp_at (allN_at (sz_at gQ_all hs.2.1 hs.1 hs.2.2.2 hs.2.2.1) p hp) h
  rw [Bool.and_eq_true] at g
  exact ⟨of_decide_eq_true g.1, of_decide_eq_true g.2⟩
theorem pl_ok {c r : Nat} (hs : szs c r) {t : Nat} (ht : t < c * r) : pl c t < 64 ∧ 18 ≤ pl c t ∧ onb c r (pl c t) = true ∧ sqp c (pl c t) = t :=
  let g := geoP c hs.2.1 hs.1 r hs.2.2.2 hs.2.2.1 t ht
  ⟨g.1, g.2.1, g.2.2.1, g.2.2.2.1⟩
theorem pl_inj {c r : Nat} (hs : szs c r) {t q : Nat} (ht : t < c * r) (hq : q < c * r) (h : pl c t = pl c q) : t = q := by
  have a := (pl_ok hs ht).2.2.2
  have b := (pl_ok hs hq).2.2.2
  rw [h] at a
  exact a.symm.trans b
theorem lgc_0 (a b : Int64) : lg_cmp a b = nW 0 ↔ a = b := by
  unfold lg_cmp
  by_cases h : a = b
  · rw [if_neg (by rw [h]; exact Int64.lt_irrefl), if_pos h]; exact ⟨fun _ => h, fun _ => rfl⟩
  · rw [if_neg h]
    split
    · exact ⟨fun e => absurd e (by decide), fun e => absurd e h⟩
    · exact ⟨fun e => absurd e (by decide), fun e => absurd e h⟩
/-- sets of places, as bits -/
def bit64 (k : Nat) : Int64 := (1 : Int64) <<< ((nW k).toInt64 &&& 63)
def mem64 (g : Int64) (k : Nat) : Prop := g.toBitVec.getLsbD k = true
theorem bit64_bv : ∀ k, k < 64 → (bit64 k).toBitVec = BitVec.twoPow 64 k := by decide +kernel
theorem mem64_0 (k : Nat) : ¬ mem64 0 k := by
  unfold mem64
  show ¬ (0#64).getLsbD k = true
  simp
theorem mem64_or {g : Int64} {j k : Nat} (hj : j < 64) : mem64 (g ||| bit64 j) k ↔ mem64 g k ∨ j = k := by
  unfold mem64
  show (g.toBitVec ||| (bit64 j).toBitVec).getLsbD k = true ↔ _
  rw [bit64_bv j hj, BitVec.getLsbD_or, BitVec.getLsbD_twoPow]
  simp [hj]
theorem mem64_test {g : Int64} {k : Nat} (hk : k < 64) : g &&& bit64 k = 0 ↔ ¬ mem64 g k := by
  unfold mem64
  rw [← Int64.toBitVec_inj]
  show g.toBitVec &&& (bit64 k).toBitVec = 0#64 ↔ _
  rw [bit64_bv k hk, BitVec.and_twoPow]
  by_cases h : g.toBitVec.getLsbD k = true
  · rw [if_pos h]
    refine ⟨fun e => ?_, fun e => absurd h e⟩
    have := congrArg (fun z => BitVec.getLsbD z k) e
    simp only [BitVec.getLsbD_twoPow] at this
    simp [hk] at this
  · rw [if_neg h]
    exact ⟨fun _ => h, fun _ => rfl⟩
/-- the bit of a square -/
def ixq (c q : Nat) : Nat := pl c q - 18
section MOVES
variable {G : Mem} {b : Nat} {x : Nat → Nat → Int32} {y : Nat → Nat → Int64}
theorem ix_lt {c r : Nat} (hs : szs c r) {q : Nat} (hq : q < c * r) : ixq c q < 64 := by have := (pl_ok hs hq).1; unfold ixq; omega
theorem ix_inj {c r : Nat} (hs : szs c r) {t q : Nat} (ht : t < c * r) (hq : q < c * r) : ixq c t = ixq c q ↔ t = q := by
  refine ⟨fun h => ?_, fun h => by rw [h]⟩
  have a := pl_ok hs ht
  have b := pl_ok hs hq
  exact pl_inj hs ht hq (by unfold ixq at h; omega)
theorem bitOf_ok {c r : Nat} (hs : szs c r) {q : Nat} (hq : q < c * r) {G : Mem} : fX0_bitOf (nW (pl c q)) G = some (bit64 (ixq c q), G) := by
  have a := pl_ok hs hq
  unfold fX0_bitOf fX0_bitOf_0 bit64 ixq
  simp only [lits]
  rw [nW_sub a.2.1]
theorem colour_of : ∀ m, m < 11 → ∀ G : Mem, fX6_colourOf (nW (enc m)) G = some (if m = 0 then -nW 1 else nW ((m - 1) / 5), G) := by
  intro m hm G
  unfold fX6_colourOf fX6_colourOf_0 fX6_colourOf_11
  have h : ∀ m, m < 11 → (if nW (enc m) = 0 then (-1 : Int32) else nW (enc m) >>> ((3 : Int32) &&& 31)) = (if m = 0 then -nW 1 else nW ((m - 1) / 5)) := by decide +kernel
  have := h m hm
  by_cases hz : nW (enc m) = 0
  · rw [if_pos hz] at this ⊢; rw [this]
  · rw [if_neg hz] at this ⊢; rw [this]
theorem kind_of : ∀ m, m < 11 → ∀ G : Mem, fX6_kindOf (nW (enc m)) G = some (if m = 0 then -nW 1 else nW ((m - 1) % 5), G) := by
  intro m hm G
  unfold fX6_kindOf fX6_kindOf_0
  have h : ∀ m, m < 11 → ((nW (enc m) &&& (7 : Int32)) - 1) = (if m = 0 then -nW 1 else nW ((m - 1) % 5)) := by decide +kernel
  rw [h m hm]
theorem BR.at {c r : Nat} (hs : szs c r) {P : Nat → Nat} (hb : BR c r P x b) {q : Nat} (hq : q < c * r) : x (b + 2) (pl c q) = nW (enc (P q)) := by
  have a := pl_ok hs hq
  rw [hb.2.2 _ (by omega)]
  unfold bct
  rw [if_pos a.2.2.1, a.2.2.2]
/-- one way of a range -/
def rayQ (c r : Nat) (P : Nat → Nat) (f w n q : Nat) : Prop := ∃ i, i < n ∧ (ray c r f w)[i]? = some q ∧ ∀ j, j < i → cdr c r P f w j = 0
theorem rayQ_clr {c r : Nat} {P : Nat → Nat} {f w i : Nat} (hi : i < (ray c r f w).length) : (∀ j, j < i → cdr c r P f w j = 0) ↔ clr P ((ray c r f w).take i) = true := by
  unfold clr
  rw [List.all_eq_true]
  constructor
  · intro h a ha
    obtain ⟨j, hj, e⟩ := List.mem_take_iff_getElem.mp ha
    have := h j (by omega)
    unfold cdr at this
    rw [if_pos (by omega), List.getD_eq_getElem?_getD, List.getElem?_eq_getElem (by omega)] at this
    rw [← e]
    simpa using this
  · intro h j hj
    have := h ((ray c r f w).getD j 0) (List.mem_take_iff_getElem.mpr ⟨j, by omega, by rw [List.getD_eq_getElem?_getD, List.getElem?_eq_getElem (by omega)]; rfl⟩)
    unfold cdr
    rw [if_pos (by omega)]
    simpa using this
/-- a range, by its ways -/
theorem rch_ways {c r : Nat} (hs : szs c r) {P : Nat → Nat} {f q : Nat} (hf : f < c * r) (hq : q < c * r) (hk : (P f - 1) % 5 ≠ 4) :
    rch c P f q = true ↔ ∃ w, (if (P f - 1) % 5 = 3 then 4 else 0) ≤ w ∧ w < (if (P f - 1) % 5 = 2 then 4 else 8) ∧ rayQ c r P f w (if (P f - 1) % 5 = 0 then 1 else 5) q := by
  obtain ⟨s1, s2, s3, s4⟩ := hs
  have lt5 : (P f - 1) % 5 < 5 := Nat.mod_lt _ (by decide)
  constructor
  · intro hr
    unfold rch at hr
    by_cases h0 : adx c f q + ady c f q = 0
    · rw [if_pos h0] at hr; cases hr
    rw [if_neg h0] at hr
    have hne := geo_ne (r := r) h0
    have hw : ∀ w i, (ray c r f w)[i]? = some q → (ray c r f w).take i = btw c f q → clr P (btw c f q) = true → i < 5 → rayQ c r P f w 5 q := by
      intro w i e1 e2 e3 hi
      exact ⟨i, hi, e1, (rayQ_clr (List.getElem?_eq_some_iff.mp e1).1).mpr (by rw [e2]; exact e3)⟩
    by_cases k0 : (P f - 1) % 5 = 0
    · rw [if_pos k0] at hr
      obtain ⟨w, hw, e⟩ := (geoC c s2 s1 r s4 s3 f hf q hq hne).2.2 (by simpa using hr)
      refine ⟨w, ?_, ?_, ?_⟩
      · rw [if_neg (by omega)]; exact Nat.zero_le _
      · rw [if_neg (by omega)]; exact hw
      · rw [if_pos k0]; exact ⟨0, by omega, e, fun j hj => by omega⟩
    rw [if_neg k0, if_neg hk] at hr
    rw [if_neg k0]
    by_cases k2 : (P f - 1) % 5 = 2
    · rw [if_pos k2] at hr
      rw [Bool.and_eq_true, decide_eq_true_iff] at hr
      obtain ⟨w, hw4, i, hi, e1, e2⟩ := (geoC c s2 s1 r s4 s3 f hf q hq hne).1 hr.1
      refine ⟨w, ?_, ?_, hw w i e1 e2 hr.2 hi⟩
      · rw [if_neg (by omega)]; exact Nat.zero_le _
      · rw [if_pos k2]; exact hw4
    rw [if_neg k2] at hr
    by_cases k3 : (P f - 1) % 5 = 3
    · rw [if_pos k3] at hr
      rw [Bool.and_eq_true, decide_eq_true_iff] at hr
      obtain ⟨w, hw4, i, hi, e1, e2⟩ := (geoC c s2 s1 r s4 s3 f hf q hq hne).2.1 hr.1
      refine ⟨w + 4, ?_, ?_, hw (w + 4) i e1 e2 hr.2 hi⟩
      · rw [if_pos k3]; omega
      · rw [if_neg k2]; omega
    rw [if_neg k3] at hr
    rw [Bool.and_eq_true, decide_eq_true_iff] at hr
    rcases hr.1 with h1 | h1
    · obtain ⟨w, hw4, i, hi, e1, e2⟩ := (geoC c s2 s1 r s4 s3 f hf q hq hne).1 h1
      refine ⟨w, ?_, ?_, hw w i e1 e2 hr.2 hi⟩
      · rw [if_neg k3]; exact Nat.zero_le _
      · rw [if_neg k2]; omega
    · obtain ⟨w, hw4, i, hi, e1, e2⟩ := (geoC c s2 s1 r s4 s3 f hf q hq hne).2.1 h1
      refine ⟨w + 4, ?_, ?_, hw (w + 4) i e1 e2 hr.2 hi⟩
      · rw [if_neg k3]; exact Nat.zero_le _
      · rw [if_neg k2]; omega
  · rintro ⟨w, hw1, hw2, i, hi, e1, e2⟩
    have hw8 : w < 8 := by
      by_cases k2 : (P f - 1) % 5 = 2
      · rw [if_pos k2] at hw2; omega
      · rw [if_neg k2] at hw2; exact hw2
    have hl := (List.getElem?_eq_some_iff.mp e1).1
    have ek : (ray c r f w).getD i 0 = q := by rw [List.getD_eq_getElem?_getD, e1]; rfl
    obtain ⟨d1, d2, d3, d4, d5⟩ := geoD c s2 s1 r s4 s3 f hf w hw8 i hl
    rw [ek] at d1 d2 d3 d4 d5
    have e3 : clr P (btw c f q) = true := by rw [← d1]; exact (rayQ_clr hl).mp e2
    unfold rch
    rw [if_neg d5]
    by_cases k0 : (P f - 1) % 5 = 0
    · rw [if_pos k0] at hi ⊢
      have := d4 (by omega)
      simp [this.1, this.2]
    rw [if_neg k0, if_neg hk]
    by_cases k2 : (P f - 1) % 5 = 2
    · rw [if_pos k2] at hw2 ⊢
      rw [e3, Bool.and_true, decide_eq_true_iff]
      exact d2 hw2
    rw [if_neg k2]
    by_cases k3 : (P f - 1) % 5 = 3
    · rw [if_pos k3] at hw1 ⊢
      rw [e3, Bool.and_true, decide_eq_true_iff]
      exact d3 hw1
    rw [if_neg k3, e3, Bool.and_true, decide_eq_true_iff]
    by_cases hw4 : w < 4
    · exact Or.inl (d2 hw4)
    · exact Or.inr (d3 (by omega))
/-- the inner loop of a range: one way -/
theorem range_way (h : BSh G b) {c r : Nat} (hs : szs c r) {P : Nat → Nat} (hP : ∀ k, P k < 11) (hb : BR c r P x b) {f w e8 st : Nat} (hf : f < c * r) (hw : w < 8) (hst : st < 6) (he : e8 < 9) (g : Int64) :
    ∃ g', loopM (fun (s : Int64 × Int32 × Int32 × Int32) G => fX0_rangeOf_123 b (nW (pl c f)) s.1 (nW e8) (nW st) (nW w) s.2.1 s.2.2.1 s.2.2.2 G) FU (g, nW (pl c f), nW 0, nW 0) (wIJ G x y) = some (.inl (g', nW (w + 1)), wIJ G x y) ∧
      ∀ q, q < c * r → (mem64 g' (ixq c q) ↔ mem64 g (ixq c q) ∨ rayQ c r P f w st q) := by
  have es := enc_sub 0 (by decide)
  obtain ⟨r1, G1, e1, g', rfl, rfl, hg⟩ := loop_by (f := fun (s : Int64 × Int32 × Int32 × Int32) G => fX0_rangeOf_123 b (nW (pl c f)) s.1 (nW e8) (nW st) (nW w) s.2.1 s.2.2.1 s.2.2.2 G)
    (fun k s G1 => G1 = wIJ G x y ∧ ∃ i g1, k = 7 - i ∧ i ≤ st ∧ i ≤ (ray c r f w).length + 1 ∧ s = (g1, Int32.ofInt ((pl c f : Int) + (i : Int) * wyd w), nW (if i = 0 then 0 else enc (cdr c r P f w (i - 1))), nW i) ∧ (∀ j, j + 1 < i → cdr c r P f w j = 0) ∧
      ∀ q, q < c * r → (mem64 g1 (ixq c q) ↔ mem64 g (ixq c q) ∨ ∃ j, j < i ∧ (ray c r f w)[j]? = some q))
    (fun (r1 : (Int64 × Int32) ⊕ Int64) G1 => ∃ g', r1 = .inl (g', nW (w + 1)) ∧ G1 = wIJ G x y ∧ ∀ q, q < c * r → (mem64 g' (ixq c q) ↔ mem64 g (ixq c q) ∨ rayQ c r P f w st q))
    (by
      rintro k s G1 ⟨rfl, i, g1, rfl, hi, hil, rfl, hz, hg⟩
      dsimp only
      have fin : ((st ≤ i) ∨ (0 < i ∧ cdr c r P f w (i - 1) ≠ 0)) → ∀ q, q < c * r → (mem64 g1 (ixq c q) ↔ mem64 g (ixq c q) ∨ rayQ c r P f w st q) := by
        intro hend q hq
        rw [hg q hq]
        constructor
        · rintro (h1 | ⟨j, hj, e⟩)
          · exact Or.inl h1
          · exact Or.inr ⟨j, by omega, e, fun j2 hj2 => hz j2 (by omega)⟩
        · rintro (h1 | ⟨j, hj, e, hc⟩)
          · exact Or.inl h1
          · refine Or.inr ⟨j, ?_, e⟩
            rcases hend with h2 | ⟨h2, h3⟩
            · omega
            · by_cases hji : j < i
              · exact hji
              · exact absurd (hc (i - 1) (by omega)) h3
      unfold fX0_rangeOf_123 fX0_rangeOf_175 fX0_rangeOf_169
      simp only [lits]
      by_cases h1 : st ≤ i
      · rw [if_pos (by rw [nW_le (by omega) (by omega)]; exact h1)]
        exact Or.inl ⟨_, _, rfl, g1, by rw [nW_add], rfl, fin (Or.inl h1)⟩
      · rw [if_neg (by rw [nW_le (by omega) (by omega)]; exact h1)]
        by_cases h2 : (if i = 0 then 0 else enc (cdr c r P f w (i - 1))) = 0
        · rw [h2, if_pos rfl, tb1 w hw]
          have ez : Int32.ofInt ((pl c f : Int) + (i : Int) * wyd w) + Int32.ofInt (wyd w) = Int32.ofInt (zr c f w i) := by
            rw [oI_add]; congr 1; unfold zr; rw [Int.add_mul, Int.one_mul, Int.add_assoc]
          have hii : i ≤ (ray c r f w).length := by
            by_cases hi0 : i = 0
            · omega
            · rw [if_neg hi0] at h2
              have hc0 := ((es _ (cdr_lt hP (c := c) (r := r) (t := f) (w := w) (i := i - 1))).2.2.2.2.2.1).mp (by rw [h2])
              by_cases hl : i - 1 < (ray c r f w).length
              · omega
              · unfold cdr at hc0; rw [if_neg hl] at hc0; omega
          have hzn : ∀ j, j + 1 < i + 1 → cdr c r P f w j = 0 := by
            intro j hj
            by_cases hji : j + 1 < i
            · exact hz j hji
            · have hi0 : ¬ i = 0 := by omega
              rw [if_neg hi0] at h2
              have hc0 := ((es _ (cdr_lt hP (c := c) (r := r) (t := f) (w := w) (i := i - 1))).2.2.2.2.2.1).mp (by rw [h2])
              rw [show j = i - 1 by omega]; exact hc0
          obtain ⟨a1, a2, a3⟩ := ray_at hs hb.2.2 hf hw hii
          rw [Option.bind_some, ck_wij, ck_ok h.1, ez, on_int h a1 a2, Option.bind_some, a3]
          have nxt : ∀ g2 : Int64, (∀ q, q < c * r → (mem64 g2 (ixq c q) ↔ mem64 g (ixq c q) ∨ ∃ j, j < i + 1 ∧ (ray c r f w)[j]? = some q)) → ∃ k' s' G', k' < 7 - i ∧ (some ((Sum.inl (g2, Int32.ofInt (zr c f w i), nW (enc (cdr c r P f w i)), nW i + nW 1) : (Int64 × Int32 × Int32 × Int32) ⊕ ((Int64 × Int32) ⊕ Int64)), wIJ G x y) : Option _) = some (.inl s', G') ∧ (G' = wIJ G x y ∧ ∃ i g1, k' = 7 - i ∧ i ≤ st ∧ i ≤ (ray c r f w).length + 1 ∧ s' = (g1, Int32.ofInt ((pl c f : Int) + (i : Int) * wyd w), nW (if i = 0 then 0 else enc (cdr c r P f w (i - 1))), nW i) ∧ (∀ j, j + 1 < i → cdr c r P f w j = 0) ∧ ∀ q, q < c * r → (mem64 g1 (ixq c q) ↔ mem64 g (ixq c q) ∨ ∃ j, j < i ∧ (ray c r f w)[j]? = some q)) := by
            intro g2 hg2
            refine ⟨7 - (i + 1), _, _, by omega, rfl, rfl, i + 1, g2, rfl, by omega, by omega, ?_, hzn, hg2⟩
            rw [if_neg (by omega), nW_add]
            rfl
          have ec : nW (enc (cdr c r P f w i)) = nW 15 ↔ cdr c r P f w i = 12 := (es _ (cdr_lt hP)).2.2.2.2.2.2
          by_cases h15 : nW (enc (cdr c r P f w i)) = nW 15
          · rw [if_pos h15]
            have hl : ¬ i < (ray c r f w).length := by
              intro hl
              have := ec.mp h15
              unfold cdr at this
              rw [if_pos hl] at this
              have := hP ((ray c r f w).getD i 0)
              omega
            refine Or.inr (nxt g1 (fun q hq => ?_))
            rw [hg q hq]
            constructor
            · rintro (h1 | ⟨j, hj, e⟩)
              · exact Or.inl h1
              · exact Or.inr ⟨j, by omega, e⟩
            · rintro (h1 | ⟨j, hj, e⟩)
              · exact Or.inl h1
              · have := (List.getElem?_eq_some_iff.mp e).1
                exact Or.inr ⟨j, by omega, e⟩
          · rw [if_neg h15]
            have hl : i < (ray c r f w).length := by
              by_cases hl : i < (ray c r f w).length
              · exact hl
              · exact absurd (ec.mpr (by unfold cdr; rw [if_neg hl])) h15
            have b1 := ((geoB c hs.2.1 hs.1 r hs.2.2.2 hs.2.2.1 f hf w hw).2 i hl).1
            have pe : (pl c ((ray c r f w).getD i 0) : Int) = zr c f w i := ((geoP c hs.2.1 hs.1 r hs.2.2.2 hs.2.2.1 f hf).2.2.2.2 w hw).1 i hl
            have en : Int32.ofInt (zr c f w i) = nW (pl c ((ray c r f w).getD i 0)) := by rw [← pe, nW_oI]
            rw [en, bitOf_ok hs b1, Option.bind_some]
            rw [← en]
            refine Or.inr (nxt _ (fun q hq => ?_))
            have eq : (ray c r f w)[i]? = some ((ray c r f w).getD i 0) := by rw [List.getD_eq_getElem?_getD, List.getElem?_eq_getElem hl]; rfl
            rw [mem64_or (ix_lt hs b1), hg q hq, ix_inj hs b1 hq]
            constructor
            · rintro ((h1 | ⟨j, hj, e⟩) | h1)
              · exact Or.inl h1
              · exact Or.inr ⟨j, by omega, e⟩
              · exact Or.inr ⟨i, by omega, by rw [eq, h1]⟩
            · rintro (h1 | ⟨j, hj, e⟩)
              · exact Or.inl (Or.inl h1)
              · by_cases hji : j < i
                · exact Or.inl (Or.inr ⟨j, hji, e⟩)
                · rw [show j = i by omega, eq] at e
                  exact Or.inr (Option.some.inj e)
        · have h2' : ¬ nW (if i = 0 then 0 else enc (cdr c r P f w (i - 1))) = nW 0 := by
            have hi0 : ¬ i = 0 := by intro e; rw [if_pos e] at h2; exact h2 rfl
            rw [if_neg hi0] at h2 ⊢
            intro e
            have := ((es _ (cdr_lt hP)).2.2.2.2.2.1).mp e
            rw [this] at h2
            exact h2 rfl
          rw [if_neg h2']
          have hi0 : ¬ i = 0 := by intro e; rw [if_pos e] at h2; exact h2 rfl
          rw [if_neg hi0] at h2
          exact Or.inl ⟨_, _, rfl, g1, by rw [nW_add], rfl, fin (Or.inr ⟨by omega, fun e => h2 (by rw [e]; rfl)⟩)⟩)
    FU 7 (g, nW (pl c f), nW 0, nW 0) (wIJ G x y) (by decide) ⟨rfl, 0, g, rfl, Nat.zero_le _, Nat.zero_le _, by rw [nW_oI (pl c f)]; simp, fun j hj => by omega, fun q hq => by simp⟩
  exact ⟨g', e1, hg⟩
end MOVES
