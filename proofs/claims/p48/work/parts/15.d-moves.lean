/-! ===== what holds of the moves and the games ===== -/
section MVS
variable {A : ASt}
abbrev lyI (A : ASt) (i : Nat) : Lay := (lyN A.1 (nN A) A.2.2.1 A.2.2.2.1 i).1
abbrev gmI (A : ASt) (i k : Nat) : Nat := gmv A.1 (nN A) A.2.2.1 A.2.2.2.1 (mN A) i k
theorem aok_lyg (h : AAOK A) : ∀ i, i ≤ mN A → ∀ p, p < lyc (lyI A i) → 1 ≤ lyg (lyI A i) p := by
  intro i
  induction i with
  | zero => intro _ p _; exact Nat.le_refl 1
  | succ i ih =>
    intro hi
    have st := (h.2.2.2.1 i hi).1
    refine runL_one _ _ _ (fun z hz => ih (by omega) _ (mem_evs.mp hz).1) (fun q hq => absurd hq (Nat.not_lt_zero _)) st
theorem aok_king (h : AAOK A) {i : Nat} (hi : i < mN A) {p : Nat} (hp : p < lyc (lyI A (i + 1))) : att A.1 (nN A) (lyp (lyI A (i + 1)) p) (fnd (nN A) (lyp (lyI A (i + 1)) p) (kgc (i % 2))) (1 - i % 2) = false := ((((lyN_run h.2.1 h.2.2.2.1).2 i hi).2.2.1) p hp).2
theorem aok_gm (h : AAOK A) : 1 ≤ gmA A ∧ gmA A < 9223372036854775808 := by
  have hs := aok_sz h
  refine ⟨?_, gsm_lt h.2.1 hs.2.1 hs.2.2 h.2.2.2.1⟩
  have h0 := aok_pos h (Nat.le_refl _)
  have h1 := aok_lyg h _ (Nat.le_refl _) 0 h0
  exact Nat.le_trans h1 (sumN_term (f := lyg (lyI A (mN A))) _ h0)
theorem sml_nz {f : Nat → Nat} : ∀ (l : List Nat), sml f (l.filter fun k => !decide (f k = 0)) = sml f l := by
  intro l
  induction l with
  | nil => rfl
  | cons a l ih =>
    by_cases e : f a = 0
    · rw [List.filter_cons_of_neg (by simp [e]), ih]
      show _ = f a + _
      rw [e, Nat.zero_add]
    · rw [List.filter_cons_of_pos (by simp [e])]
      show f a + _ = f a + _
      rw [ih]
theorem mov_sum (h : AAOK A) {i : Nat} (hi : i < mN A) : sml (gmI A i) (oMoves A i) = gmA A := by
  have hs := aok_sz h
  unfold oMoves
  rw [show sml (gmI A i) ((List.range (A.1 * A.2.1 * 64)).filter fun k => !decide (gmv A.1 (A.1 * A.2.1) A.2.2.1 A.2.2.2.1 A.2.2.2.2 i k = 0)) = sml (gmI A i) (List.range (A.1 * A.2.1 * 64)) from sml_nz _, sml_range]
  exact gmv_tot h.2.1 hs.2.1 h.2.2.2.1 hi
theorem mov_len (h : AAOK A) {i : Nat} (hi : i < mN A) : 1 ≤ (oMoves A i).length ∧ (oMoves A i).length ≤ 2304 := by
  constructor
  · have a := mov_sum h hi
    have b := (aok_gm h).1
    cases e : oMoves A i with
    | nil => rw [e] at a; have a : 0 = gmA A := a; omega
    | cons x l => exact Nat.succ_le_succ (Nat.zero_le _)
  · have hs := (aok_sz h).2.1
    have : (oMoves A i).length ≤ (List.range (A.1 * A.2.1 * 64)).length := List.length_filter_le _ _
    rw [List.length_range] at this
    have hs : A.1 * A.2.1 ≤ 36 := hs
    omega
theorem mov_asc {i : Nat} : (oMoves A i).Pairwise fun a b => a < b := List.Pairwise.filter _ List.pairwise_lt_range
theorem mov_mem {i j : Nat} (hj : j < (oMoves A i).length) : (oMoves A i).getD j 0 ∈ oMoves A i := by
  rw [List.getD_eq_getElem?_getD, List.getElem?_eq_getElem hj]
  exact List.getElem_mem hj
theorem mov_nz {i k : Nat} (hk : k ∈ oMoves A i) : gmI A i k ≠ 0 := by
  have h := (List.mem_filter.mp hk).2
  intro e
  have e : gmv A.1 (A.1 * A.2.1) A.2.2.1 A.2.2.2.1 A.2.2.2.2 i k = 0 := e
  rw [e] at h
  exact absurd h (by decide)
theorem opI_nat {a b : Nat} (ha : a < 2147483648) (hb : b < 2147483648) (h : opI (nW a) (nW b) = true) : a = b := by
  unfold opI at h
  rw [Bool.or_eq_true] at h
  rcases h with h | h
  · exact absurd (of_decide_eq_true h) (nW_m1 ha)
  · exact (nW_eq ha hb).mp (of_decide_eq_true h)
theorem opI_self {v : Int32} : opI v v = true := by
  unfold opI
  rw [decide_eq_true (rfl : v = v), Bool.or_true]
/-- a move that is played in some game keeps to its note -/
theorem mov_ok (h : AAOK A) {i k : Nat} (hi : i < mN A) (hk : k ∈ oMoves A i) : (k / 64 < nN A ∧ k % 64 < nN A) ∧ (1 ≤ gmI A i k ∧ gmI A i k < 9223372036854775808) ∧ (opI (A.2.2.1 i 1) (nW (k / 64 % A.1)) = true ∧ opI (A.2.2.1 i 2) (nW (k / 64 / A.1)) = true) ∧ opI (A.2.2.1 i 3) (nW (k % 64 % A.1)) = true ∧ opI (A.2.2.1 i 4) (nW (k % 64 / A.1)) = true := by
  have hs := aok_sz h
  have hz := mov_nz hk
  obtain ⟨z, ⟨z1, z2, z3, z4, z5, z6⟩, ek, -⟩ := gmv_ev h.2.1 h.2.2.2.1 hi hz
  have hs2 : A.1 * A.2.1 ≤ 36 := hs.2.1
  have e1 : k / 64 = z.2.1 := by omega
  have e2 : k % 64 = z.2.2 := by omega
  rw [e1, e2]
  refine ⟨⟨z2, z3⟩, ⟨Nat.pos_of_ne_zero hz, gmv_lt h.2.1 hs.2.1 hs.2.2 h.2.2.2.1 hi⟩, ?_, ?_⟩
  · unfold orgB at z5
    rw [Bool.and_eq_true, Bool.and_eq_true] at z5
    exact ⟨z5.2.1, z5.2.2⟩
  · unfold tgtB at z6
    rw [Bool.and_eq_true, Bool.and_eq_true, Bool.and_eq_true, Bool.and_eq_true] at z6
    exact ⟨z6.2.2.1, z6.2.2.2.1⟩
theorem key_eq {c n col k lp : Nat} {Lp : Lay} (hn : n ≤ 36) {N N' : Nat → Int32} (h : ∀ j, 3 ≤ j → N j = N' j) (ho : ∀ P, orgB c N P (k / 64) = orgB c N' P (k / 64)) {g : Nat × Nat × Nat → Nat} : sml (fun z => if z.2.1 * 64 + z.2.2 = k then g z else 0) (evs c n N col Lp lp) = sml (fun z => if z.2.1 * 64 + z.2.2 = k then g z else 0) (evs c n N' col Lp lp) := by
  unfold evs
  rw [sml_flat, sml_flat]
  refine sml_cong _ (fun p _ => ?_)
  unfold evP
  rw [sml_map, sml_map]
  unfold mvl lstF
  rw [sml_flat, sml_flat]
  refine sml_cong _ (fun f hf => ?_)
  rw [lstT_cong h]
  by_cases e : f = k / 64
  · rw [e, ho]
  · have z : ∀ b : Bool, sml (fun a : Nat × Nat => if a.1 * 64 + a.2 = k then g (p, a.1, a.2) else 0) (if b = true then lstT c n N' (lyp Lp p) col f n else []) = 0 := by
      intro b
      refine sml_none _ (fun a ha => if_neg (fun q => e ?_))
      cases b with
      | false => cases ha
      | true =>
        rw [if_pos rfl, mem_lstT] at ha
        omega
    exact (z _).trans (z _).symm
/-- the origin of a move that is played in some game may be told; that move's games stay -/
theorem clar_ok (h : AAOK A) {i k : Nat} (hi : i < mN A) (hk : k ∈ oMoves A i) : okN A.1 (nN A) (orgN A.2.2.1 i (nW (k / 64 % A.1)) (nW (k / 64 / A.1))) A.2.2.2.1 (mN A) ∧ gmI A i k ≤ gmA (A.1, A.2.1, orgN A.2.2.1 i (nW (k / 64 % A.1)) (nW (k / 64 / A.1)), A.2.2.2.1, A.2.2.2.2) := by
  have hs := aok_sz h
  have hz := mov_nz hk
  have hs2 : nN A ≤ 36 := hs.2.1
  have mo := mov_ok h hi hk
  obtain ⟨z, ⟨z1, z2, z3, z4, z5, z6⟩, ek, zc⟩ := gmv_ev h.2.1 h.2.2.2.1 hi hz
  have z3 : z.2.2 < nN A := z3
  have e1 : z.2.1 = k / 64 := by omega
  have hc0 : 0 < A.1 := by omega
  have sm : ∀ q, q < nN A → q % A.1 < 2147483648 ∧ q / A.1 < 2147483648 := fun q hq => by
    have := Nat.mod_lt q hc0
    have := Nat.div_le_self q A.1
    omega
  have sf := sm _ mo.1.1
  have nk : orgN A.2.2.1 i (nW (k / 64 % A.1)) (nW (k / 64 / A.1)) i = fun j => if j = 1 then nW (k / 64 % A.1) else if j = 2 then nW (k / 64 / A.1) else A.2.2.1 i j := if_pos rfl
  have n0 : orgN A.2.2.1 i (nW (k / 64 % A.1)) (nW (k / 64 / A.1)) i 0 = A.2.2.1 i 0 := by rw [nk]; rfl
  have n1 : orgN A.2.2.1 i (nW (k / 64 % A.1)) (nW (k / 64 / A.1)) i 1 = nW (k / 64 % A.1) := by rw [nk]; rfl
  have n2 : orgN A.2.2.1 i (nW (k / 64 % A.1)) (nW (k / 64 / A.1)) i 2 = nW (k / 64 / A.1) := by rw [nk]; rfl
  have n3 : ∀ j, 3 ≤ j → A.2.2.1 i j = orgN A.2.2.1 i (nW (k / 64 % A.1)) (nW (k / 64 / A.1)) i j := fun j hj => by
    rw [nk]
    show _ = if j = 1 then _ else if j = 2 then _ else A.2.2.1 i j
    rw [if_neg (by omega), if_neg (by omega)]
  have ho : ∀ P, orgB A.1 (A.2.2.1 i) P (k / 64) = orgB A.1 (orgN A.2.2.1 i (nW (k / 64 % A.1)) (nW (k / 64 / A.1)) i) P (k / 64) := fun P => by
    unfold orgB
    rw [n0, n1, n2, mo.2.2.1.1, mo.2.2.1.2, opI_self, opI_self]
  have hsub : ∀ P q, q < nN A → orgB A.1 (orgN A.2.2.1 i (nW (k / 64 % A.1)) (nW (k / 64 / A.1)) i) P q = true → orgB A.1 (A.2.2.1 i) P q = true := fun P q hq hb => by
    have hb2 := hb
    unfold orgB at hb
    rw [n1, n2, Bool.and_eq_true, Bool.and_eq_true] at hb
    have a1 := opI_nat sf.1 (sm q hq).1 hb.2.1
    have a2 := opI_nat sf.2 (sm q hq).2 hb.2.2
    have eq : q = k / 64 := by
      rw [← Nat.div_add_mod q A.1, ← Nat.div_add_mod (k / 64) A.1, a1, a2]
    rw [eq] at hb2 ⊢
    rw [ho P]; exact hb2
  have hN : ∀ j, j ≠ i → A.2.2.1 j = orgN A.2.2.1 i (nW (k / 64 % A.1)) (nW (k / 64 / A.1)) j := fun j hj => (show orgN A.2.2.1 i (nW (k / 64 % A.1)) (nW (k / 64 / A.1)) j = A.2.2.1 j from if_neg hj).symm
  have cc : ∀ P, cont A.1 (nN A) A.2.2.1 (mN A) (mN A - (i + 1)) P = cont A.1 (nN A) (orgN A.2.2.1 i (nW (k / 64 % A.1)) (nW (k / 64 / A.1))) (mN A) (mN A - (i + 1)) P := fun P => cont_cong _ P (by omega) (fun j h1 h2 => hN j (by omega))
  have hst : ∃ p, p < lyc (lyI A i) ∧ 0 < cont A.1 (nN A) (orgN A.2.2.1 i (nW (k / 64 % A.1)) (nW (k / 64 / A.1))) (mN A) (mN A - i) (lyp (lyI A i) p) := by
    refine ⟨z.1, z1, ?_⟩
    rw [show mN A - i = (mN A - (i + 1)) + 1 by omega]
    show 0 < sml (fun y => cont A.1 (nN A) (orgN A.2.2.1 i (nW (k / 64 % A.1)) (nW (k / 64 / A.1))) (mN A) (mN A - (i + 1)) (mvd (lyp (lyI A i) z.1) y.1 y.2)) (mvl A.1 (nN A) (orgN A.2.2.1 i (nW (k / 64 % A.1)) (nW (k / 64 / A.1)) (mN A - (mN A - (i + 1) + 1))) (lyp (lyI A i) z.1) ((mN A - (mN A - (i + 1) + 1)) % 2))
    rw [show mN A - (mN A - (i + 1) + 1) = i by omega]
    have hm : (z.2.1, z.2.2) ∈ mvl A.1 (nN A) (orgN A.2.2.1 i (nW (k / 64 % A.1)) (nW (k / 64 / A.1)) i) (lyp (lyI A i) z.1) (i % 2) := mem_mvl.mpr ⟨z2, z3, z4, by rw [show (z.2.1, z.2.2).1 = k / 64 from e1, ← ho, ← e1]; exact z5, by rw [← tgtB_cong n3]; exact z6⟩
    refine Nat.lt_of_lt_of_le ?_ (sml_mem _ hm)
    rw [← cc]; exact zc
  obtain ⟨o1, -, -⟩ := org_sub (f := 0) h.2.1 h.2.2.2.1 hi hsub hst (mN A - i) (show i + (mN A - i) ≤ mN A by omega)
  rw [show i + (mN A - i) = mN A by omega] at o1
  refine ⟨o1, ?_⟩
  have el : lyN A.1 (nN A) (orgN A.2.2.1 i (nW (k / 64 % A.1)) (nW (k / 64 / A.1))) A.2.2.2.1 i = lyN A.1 (nN A) A.2.2.1 A.2.2.2.1 i := (lyN_cg i (fun j hj => hN j (by omega))).symm
  have tc := tot_cont h.2.1 hs2 o1 hi
  rw [el] at tc
  have gc := gmv_cont (k := k) h.2.1 h.2.2.2.1 hi
  rw [key_eq hs2 n3 ho] at gc
  show gmv A.1 (nN A) A.2.2.1 A.2.2.2.1 (mN A) i k ≤ gsm (lyN A.1 (nN A) (orgN A.2.2.1 i (nW (k / 64 % A.1)) (nW (k / 64 / A.1))) A.2.2.2.1 (mN A)).1 (lyc (lyN A.1 (nN A) (orgN A.2.2.1 i (nW (k / 64 % A.1)) (nW (k / 64 / A.1))) A.2.2.2.1 (mN A)).1)
  rw [tc, gc]
  refine sml_le _ (fun y _ => ?_)
  by_cases e : y.2.1 * 64 + y.2.2 = k
  · rw [if_pos e, cc]; exact Nat.le_refl _
  · rw [if_neg e]; exact Nat.zero_le _
end MVS
/-! compared -/
theorem i64_nat {a : Nat} (ha : a < 9223372036854775808) : (Int64.ofNat a).toInt = a := Int64.toInt_ofNat_of_lt ha
theorem lgc_nat {a b : Nat} (ha : a < 9223372036854775808) (hb : b < 9223372036854775808) : lg_cmp (Int64.ofNat a) (Int64.ofNat b) = if b < a then 1 else if a = b then 0 else -1 := by
  have e1 : (Int64.ofNat a > Int64.ofNat b) ↔ b < a := by
    show Int64.ofNat b < Int64.ofNat a ↔ _
    rw [Int64.lt_iff_toInt_lt, i64_nat ha, i64_nat hb]; omega
  have e2 : (Int64.ofNat a = Int64.ofNat b) ↔ a = b := ⟨fun h => by have := congrArg Int64.toInt h; rw [i64_nat ha, i64_nat hb] at this; omega, fun h => by rw [h]⟩
  unfold lg_cmp
  by_cases h1 : b < a
  · rw [if_pos (e1.mpr h1), if_pos h1]
  · rw [if_neg (fun q => h1 (e1.mp q)), if_neg h1]
    by_cases h2 : a = b
    · rw [if_pos (e2.mpr h2), if_pos h2]
    · rw [if_neg (fun q => h2 (e2.mp q)), if_neg h2]
theorem lgc_ge {a b : Nat} (ha : a < 9223372036854775808) (hb : b < 9223372036854775808) : (0 : Int32) ≤ lg_cmp (Int64.ofNat a) (Int64.ofNat b) ↔ b ≤ a := by
  rw [lgc_nat ha hb]
  by_cases h1 : b < a
  · rw [if_pos h1]; exact ⟨fun _ => by omega, fun _ => by decide⟩
  · rw [if_neg h1]
    by_cases h2 : a = b
    · rw [if_pos h2]; exact ⟨fun _ => by omega, fun _ => by decide⟩
    · rw [if_neg h2]; exact ⟨fun q => absurd q (by decide), fun q => by omega⟩
theorem lgc_lt {a b : Nat} (ha : a < 9223372036854775808) (hb : b < 9223372036854775808) : lg_cmp (Int64.ofNat a) (Int64.ofNat b) < (0 : Int32) ↔ a < b := by
  rw [lgc_nat ha hb]
  by_cases h1 : b < a
  · rw [if_pos h1]; exact ⟨fun q => absurd q (by decide), fun _ => by omega⟩
  · rw [if_neg h1]
    by_cases h2 : a = b
    · rw [if_pos h2]; exact ⟨fun q => absurd q (by decide), fun _ => by omega⟩
    · rw [if_neg h2]; exact ⟨fun q => by omega, fun q => by decide⟩
theorem lgc_gt {a b : Nat} (ha : a < 9223372036854775808) (hb : b < 9223372036854775808) : (0 : Int32) < lg_cmp (Int64.ofNat a) (Int64.ofNat b) ↔ b < a := by
  rw [lgc_nat ha hb]
  by_cases h1 : b < a
  · rw [if_pos h1]; exact ⟨fun _ => h1, fun _ => by decide⟩
  · rw [if_neg h1]
    by_cases h2 : a = b
    · rw [if_pos h2]; exact ⟨fun q => absurd q (by decide), fun _ => by omega⟩
    · rw [if_neg h2]; exact ⟨fun q => absurd q (by decide), fun q => by omega⟩
theorem lgc_eq {a b : Nat} (ha : a < 9223372036854775808) (hb : b < 9223372036854775808) : lg_cmp (Int64.ofNat a) (Int64.ofNat b) = (0 : Int32) ↔ a = b := by
  rw [lgc_nat ha hb]
  by_cases h1 : b < a
  · rw [if_pos h1]; exact ⟨fun q => absurd q (by decide), fun _ => by omega⟩
  · rw [if_neg h1]
    by_cases h2 : a = b
    · rw [if_pos h2]; exact ⟨fun _ => h2, fun _ => rfl⟩
    · rw [if_neg h2]; exact ⟨fun q => absurd q (by decide), fun q => by omega⟩
