/-! ===== texts: their tokens, as mathematics ===== -/
/-- the sort of a byte: 0 end, 1 stray, 2 letter, 3 digit, 4 semicolon -/
def srt (T : Nat → Nat) (L i : Nat) : Nat := if L ≤ i then 0 else if 97 ≤ T i ∧ T i ≤ 122 then 2 else if 48 ≤ T i ∧ T i ≤ 57 then 3 else if T i = 59 then 4 else 1
def spD (T : Nat → Nat) (L : Nat) : Nat → Nat → Nat
  | 0, e => e
  | d + 1, e => if e < L ∧ T e = 32 then spD T L d (e + 1) else e
/-- the first byte from e on that is no space -/
def spN (T : Nat → Nat) (L e : Nat) : Nat := spD T L (L - e) e
def rnD (T : Nat → Nat) (L k : Nat) : Nat → Nat → Nat
  | 0, e => e
  | d + 1, e => if srt T L e = k then rnD T L k d (e + 1) else e
/-- the end of the token that begins at s -/
def stp (T : Nat → Nat) (L s : Nat) : Nat := if srt T L s = 0 then s else if srt T L s = 2 ∨ srt T L s = 3 then rnD T L (srt T L s) (L - (s + 1)) (s + 1) else s + 1
def vlD (T : Nat → Nat) (s : Nat) : Nat → Nat
  | 0 => 0
  | d + 1 => 10 * vlD T s d + (T (s + d) - 48)
/-- the number that stands at s -/
def vlN (T : Nat → Nat) (L s : Nat) : Nat := vlD T s (stp T L s - s)
/-- the start of the next token -/
def nx (T : Nat → Nat) (L s : Nat) : Nat := spN T L (stp T L s)
def wdl (w : Nat) : Nat := strLen.getD w 0
def wdb (w i : Nat) : Nat := ((strByt.getD w []).getD i 0).toInt.toNat
/-- the word w stands at s -/
def isw (T : Nat → Nat) (L s w : Nat) : Bool := decide (srt T L s = 2) && (decide (stp T L s - s = wdl w) && eqP (wdl w) (fun i => T (s + i)) (wdb w))
section TEXT
variable {T : Nat → Nat} {L : Nat}
theorem srt0 {i : Nat} : srt T L i = 0 ↔ L ≤ i := by
  constructor
  · intro h1
    by_cases h : L ≤ i
    · exact h
    · exfalso
      unfold srt at h1
      rw [if_neg h] at h1
      split at h1
      · cases h1
      · split at h1
        · cases h1
        · split at h1 <;> cases h1
  · intro h
    exact if_pos h
theorem srt_le (i : Nat) : srt T L i ≤ 4 := by
  unfold srt
  split
  · decide
  · split
    · decide
    · split
      · decide
      · split <;> decide
theorem srt3 {i : Nat} (h : srt T L i = 3) : i < L ∧ 48 ≤ T i ∧ T i ≤ 57 := by
  unfold srt at h
  by_cases h1 : L ≤ i
  · rw [if_pos h1] at h; cases h
  · rw [if_neg h1] at h
    by_cases h2 : 97 ≤ T i ∧ T i ≤ 122
    · rw [if_pos h2] at h; cases h
    · rw [if_neg h2] at h
      by_cases h3 : 48 ≤ T i ∧ T i ≤ 57
      · exact ⟨by omega, h3⟩
      · rw [if_neg h3] at h
        by_cases h4 : T i = 59
        · rw [if_pos h4] at h; cases h
        · rw [if_neg h4] at h; cases h
theorem spD_spec : ∀ d e, L ≤ e + d → e ≤ spD T L d e ∧ (∀ i, e ≤ i → i < spD T L d e → i < L ∧ T i = 32) ∧ ¬ (spD T L d e < L ∧ T (spD T L d e) = 32) := by
  intro d
  induction d with
  | zero => intro e h; exact ⟨Nat.le_refl _, fun i h1 h2 => absurd h2 (by show ¬ i < e; omega), fun q => by have := q.1; show False; have : e < L := this; omega⟩
  | succ d ih =>
    intro e h
    unfold spD
    by_cases he : e < L ∧ T e = 32
    · rw [if_pos he]
      obtain ⟨q1, q2, q3⟩ := ih (e + 1) (by omega)
      refine ⟨by omega, fun i h1 h2 => ?_, q3⟩
      by_cases hi : i = e
      · rw [hi]; exact he
      · exact q2 i (by omega) h2
    · rw [if_neg he]
      exact ⟨Nat.le_refl _, fun i h1 h2 => absurd h2 (by omega), he⟩
theorem spN_spec (e : Nat) : e ≤ spN T L e ∧ (∀ i, e ≤ i → i < spN T L e → i < L ∧ T i = 32) ∧ ¬ (spN T L e < L ∧ T (spN T L e) = 32) := spD_spec _ _ (by omega)
theorem spN_le {e : Nat} (h : e ≤ L) : spN T L e ≤ L := by
  obtain ⟨q1, q2, -⟩ := spN_spec (T := T) (L := L) e
  by_cases h2 : spN T L e ≤ L
  · exact h2
  · have := (q2 (spN T L e - 1) (by omega) (by omega)).1
    omega
theorem rnD_spec {k : Nat} (hk : k ≠ 0) : ∀ d e, L ≤ e + d → e ≤ rnD T L k d e ∧ (∀ i, e ≤ i → i < rnD T L k d e → srt T L i = k) ∧ srt T L (rnD T L k d e) ≠ k := by
  intro d
  induction d with
  | zero => intro e h; exact ⟨Nat.le_refl _, fun i h1 h2 => absurd h2 (by show ¬ i < e; omega), fun q => hk (by rw [← q]; exact srt0.mpr (show L ≤ e by omega))⟩
  | succ d ih =>
    intro e h
    unfold rnD
    by_cases he : srt T L e = k
    · rw [if_pos he]
      obtain ⟨q1, q2, q3⟩ := ih (e + 1) (by omega)
      refine ⟨by omega, fun i h1 h2 => ?_, q3⟩
      by_cases hi : i = e
      · rw [hi]; exact he
      · exact q2 i (by omega) h2
    · rw [if_neg he]
      exact ⟨Nat.le_refl _, fun i h1 h2 => absurd h2 (by omega), he⟩
/-- where a token ends -/
theorem stp_end {s : Nat} (h : srt T L s = 0) : stp T L s = s := if_pos h
theorem stp_one {s : Nat} (h : srt T L s = 1 ∨ srt T L s = 4) : stp T L s = s + 1 := by
  unfold stp
  rw [if_neg (by omega), if_neg (by omega)]
theorem stp_run {s : Nat} (h : srt T L s = 2 ∨ srt T L s = 3) : s < stp T L s ∧ (∀ i, s ≤ i → i < stp T L s → srt T L i = srt T L s) ∧ srt T L (stp T L s) ≠ srt T L s := by
  have e : stp T L s = rnD T L (srt T L s) (L - (s + 1)) (s + 1) := by
    unfold stp
    rw [if_neg (by omega), if_pos h]
  obtain ⟨q1, q2, q3⟩ := rnD_spec (T := T) (L := L) (k := srt T L s) (by omega) (L - (s + 1)) (s + 1) (by omega)
  rw [← e] at q1 q2 q3
  refine ⟨by omega, fun i h1 h2 => ?_, q3⟩
  by_cases hi : i = s
  · rw [hi]
  · exact q2 i (by omega) h2
theorem stp_lt {s : Nat} (h : srt T L s ≠ 0) : s < stp T L s := by
  have h4 := srt_le (T := T) (L := L) s
  by_cases h1 : srt T L s = 1 ∨ srt T L s = 4
  · rw [stp_one h1]; omega
  · exact (stp_run (by omega)).1
theorem stp_ge (s : Nat) : s ≤ stp T L s := by
  by_cases h : srt T L s = 0
  · rw [stp_end h]; exact Nat.le_refl _
  · exact Nat.le_of_lt (stp_lt h)
theorem stp_le {s : Nat} (h : s ≤ L) : stp T L s ≤ L := by
  have h4 := srt_le (T := T) (L := L) s
  by_cases h0 : srt T L s = 0
  · rw [stp_end h0]; exact h
  · have hs : s < L := by
      by_cases q : L ≤ s
      · exact absurd (srt0.mpr q) h0
      · omega
    by_cases h1 : srt T L s = 1 ∨ srt T L s = 4
    · rw [stp_one h1]; omega
    · obtain ⟨q1, q2, q3⟩ := stp_run (T := T) (L := L) (s := s) (by omega)
      by_cases q : stp T L s ≤ L
      · exact q
      · have := q2 L (by omega) (by omega)
        rw [srt0.mpr (Nat.le_refl L)] at this
        omega
theorem nx_le {s : Nat} (h : s ≤ L) : nx T L s ≤ L := spN_le (stp_le h)
theorem nx_gt {s : Nat} (h : srt T L s ≠ 0) : s < nx T L s := Nat.lt_of_lt_of_le (stp_lt h) (spN_spec _).1
theorem nx_ge (s : Nat) : s ≤ nx T L s := Nat.le_trans (stp_ge s) (spN_spec _).1
theorem isw_srt {s w : Nat} (h : isw T L s w = true) : srt T L s = 2 := by
  unfold isw at h
  rw [Bool.and_eq_true] at h
  exact of_decide_eq_true h.1
theorem isw_wd {s w w' : Nat} (h : isw T L s w = true) (h' : isw T L s w' = true) : wdl w = wdl w' ∧ ∀ i, i < wdl w → wdb w i = wdb w' i := by
  unfold isw at h h'
  rw [Bool.and_eq_true, Bool.and_eq_true] at h h'
  have e1 := of_decide_eq_true h.2.1
  have e2 := of_decide_eq_true h'.2.1
  have el : wdl w = wdl w' := by omega
  refine ⟨el, fun i hi => ?_⟩
  have a1 := eqP_iff.mp h.2.2 i hi
  have a2 := eqP_iff.mp h'.2.2 i (by omega)
  exact a1.symm.trans a2
end TEXT
theorem u2_twice {α : Type} {f : Nat → Nat → α} {a k : Nat} {v w : α} : u2 (u2 f a k v) a k w = u2 f a k w := by
  funext b j
  by_cases h : b = a ∧ j = k
  · rw [h.1, h.2, u2_same, u2_same]
  · rw [u2_other h, u2_other h, u2_other h]
theorem u2_swap {α : Type} {f : Nat → Nat → α} {a k b j : Nat} {v w : α} (h : ¬ (a = b ∧ k = j)) : u2 (u2 f a k v) b j w = u2 (u2 f b j w) a k v := by
  funext p q
  by_cases h1 : p = a ∧ q = k
  · rw [h1.1, h1.2, u2_same, u2_other h, u2_same]
  · by_cases h2 : p = b ∧ q = j
    · rw [h2.1, h2.2, u2_same, u2_other (by rw [← h2.1, ← h2.2]; exact h1), u2_same]
    · rw [u2_other h2, u2_other h1, u2_other h1, u2_other h2]
/-! the words of the table -/
theorem wd_all : (allN 16 fun w => decide (0 < wdl w) && decide (wdl w < 100) && allN (wdl w) fun i => decide (sbyt w (nW i) = some (nW (wdb w i))) && decide (wdb w i < 256)) = true := by decide +kernel
theorem wd_at {w : Nat} (hw : w < 16) : (0 < wdl w ∧ wdl w < 100) ∧ ∀ i, i < wdl w → sbyt w (nW i) = some (nW (wdb w i)) ∧ wdb w i < 256 := by
  have h := allN_at wd_all w hw
  rw [Bool.and_eq_true, Bool.and_eq_true] at h
  refine ⟨⟨of_decide_eq_true h.1.1, of_decide_eq_true h.1.2⟩, fun i hi => ?_⟩
  have := allN_at h.2 i hi
  rw [Bool.and_eq_true] at this
  exact ⟨of_decide_eq_true this.1, of_decide_eq_true this.2⟩
theorem ckS_ok {α : Type} {i : Nat} {x : Option α} (h : i < 37) : ckS i x = x := if_pos h
theorem wlen_ok {w : Nat} (hw : w < 16) {G : Mem} : fJ0_length_8abf5 w G = some (nW (wdl w), G) := by
  have h : w < 37 := by omega
  unfold fJ0_length_8abf5 fJ0_length_8abf5_0 fJ0_coder_7d493 fJ0_coder_7d493_0 fJ0_coder_7d493_14
  rw [ckS_ok h, show slen w = some (nW (wdl w)) from if_pos h, Option.bind_some, ckS_ok h, if_neg (by decide), ckS_ok h]
  have : rz (0 : Int32) (some ((0 : Int32), G)) = some ((0 : Int32), G) := if_pos (Or.inl rfl)
  rw [this, Option.bind_some]
  show some (nW (wdl w) >>> (nW 0 &&& nW 31), G) = _
  rw [nW_shr (by have := (wd_at hw).1.2; omega) (by decide), Nat.pow_zero, Nat.div_one]
theorem wchr_ok {w i : Nat} (hw : w < 16) (hi : i < wdl w) {G : Mem} : fJ0_charAt_5068e w (nW i) G = some (nW (wdb w i), G) := by
  have h : w < 37 := by omega
  have hl := (wd_at hw).1.2
  obtain ⟨h1, h2⟩ := (wd_at hw).2 i hi
  have e1 : ∀ b, b < 256 → ((nW b &&& (255 : Int32)).toUInt32 % 65536).toInt32 = nW b ∧ (0 ≤ (nW b).toInt ∧ (nW b).toInt ≤ 65535) := by decide +kernel
  obtain ⟨e2, e3⟩ := e1 _ h2
  unfold fJ0_charAt_5068e fJ0_charAt_5068e_0 fJ0_isLatin1_aae02 fJ0_isLatin1_aae02_0 fJ0_isLatin1_aae02_18 fJ1_charAt_3b067 fJ1_charAt_3b067_0 fJ0_checkIndex_df160 fJ0_checkIndex_df160_0 fJ3_checkIndex_8e157 fJ3_checkIndex_8e157_0
  rw [ckS_ok h, if_neg (by decide), ckS_ok h, if_pos rfl]
  have : rz (1 : Int32) (some ((1 : Int32), G)) = some ((1 : Int32), G) := if_pos (Or.inr rfl)
  rw [this, Option.bind_some, if_neg (show ¬ (1 : Int32) = 0 by decide), ckS_ok h, show slen w = some (nW (wdl w)) from if_pos h, Option.bind_some]
  show ((((if nW i < nW 0 then _ else _) : Option (Int32 × Mem)).bind _).bind _).bind _ = _
  rw [if_neg (nW_neg_lt (by omega)), if_pos ((nW_lt (by omega) (by omega)).mpr hi), Option.bind_some, Option.bind_some, h1, Option.bind_some, e2]
  have : ∀ (z : Option (Int32 × Mem)), rc (nW (wdb w i)) z = z := fun z => if_pos e3
  rw [this, Option.bind_some, this]
