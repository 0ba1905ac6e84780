/-! ===== what holds along a layer's moves ===== -/
theorem pigeon : ∀ (m k : Nat) (f : Nat → Nat), (∀ i, i < k → f i < m) → (∀ i j, i < k → j < k → f i = f j → i = j) → k ≤ m := by
  intro m
  induction m with
  | zero =>
    intro k f h1 _
    by_cases hk : k = 0
    · omega
    · have := h1 0 (by omega); omega
  | succ m ih =>
    intro k f h1 h2
    by_cases hx : ∃ i, i < k ∧ f i = m
    · obtain ⟨i0, hi0, e0⟩ := hx
      have := ih (k - 1) (fun i => if i < i0 then f i else f (i + 1)) (fun i hi => by
        show (if i < i0 then f i else f (i + 1)) < m
        by_cases h : i < i0
        · rw [if_pos h]
          have a := h1 i (by omega)
          have b : f i ≠ m := fun q => by have := h2 i i0 (by omega) hi0 (by omega); omega
          omega
        · rw [if_neg h]
          have a := h1 (i + 1) (by omega)
          have b : f (i + 1) ≠ m := fun q => by have := h2 (i + 1) i0 (by omega) hi0 (by omega); omega
          omega) (fun i j hi hj e => by
        have e : (if i < i0 then f i else f (i + 1)) = (if j < i0 then f j else f (j + 1)) := e
        by_cases ha : i < i0
        · by_cases hb : j < i0
          · rw [if_pos ha, if_pos hb] at e; exact h2 i j (by omega) (by omega) e
          · rw [if_pos ha, if_neg hb] at e; have := h2 i (j + 1) (by omega) (by omega) e; omega
        · by_cases hb : j < i0
          · rw [if_neg ha, if_pos hb] at e; have := h2 (i + 1) j (by omega) (by omega) e; omega
          · rw [if_neg ha, if_neg hb] at e; have := h2 (i + 1) (j + 1) (by omega) (by omega) e; omega)
      omega
    · exact Nat.le_succ_of_le (ih k f (fun i hi => by
        have a := h1 i hi
        have b : f i ≠ m := fun q => hx ⟨i, hi, q⟩
        omega) h2)
/-- a move that may be noted of a position of a layer -/
def EvOK (c n : Nat) (N : Nat → Int32) (col : Nat) (Lp : Lay) (m : Nat × Nat × Nat) : Prop := m.1 < lyc Lp ∧ m.2.1 < n ∧ m.2.2 < n ∧ own (lyp Lp m.1 m.2.1) col = true ∧ orgB c N (lyp Lp m.1) m.2.1 = true ∧ tgtB c n N (lyp Lp m.1) col m.2.1 m.2.2 = true
theorem mem_lstT {c n : Nat} {N : Nat → Int32} {P : Nat → Nat} {col f k : Nat} {m : Nat × Nat} : m ∈ lstT c n N P col f k ↔ m.1 = f ∧ m.2 < k ∧ tgtB c n N P col f m.2 = true := by
  unfold lstT
  rw [List.mem_map]
  constructor
  · rintro ⟨t, h, rfl⟩
    rw [List.mem_filter, List.mem_range] at h
    exact ⟨rfl, h.1, h.2⟩
  · rintro ⟨h1, h2, h3⟩
    exact ⟨m.2, by rw [List.mem_filter, List.mem_range]; exact ⟨h2, h3⟩, by rw [← h1]⟩
theorem mem_mvl {c n : Nat} {N : Nat → Int32} {P : Nat → Nat} {col : Nat} {m : Nat × Nat} : m ∈ mvl c n N P col ↔ m.1 < n ∧ m.2 < n ∧ own (P m.1) col = true ∧ orgB c N P m.1 = true ∧ tgtB c n N P col m.1 m.2 = true := by
  unfold mvl lstF
  rw [List.mem_flatMap]
  constructor
  · rintro ⟨f, hf, h⟩
    rw [List.mem_range] at hf
    by_cases ho : (own (P f) col && orgB c N P f) = true
    · rw [if_pos ho, mem_lstT] at h
      rw [Bool.and_eq_true] at ho
      obtain ⟨h1, h2, h3⟩ := h
      rw [h1]
      exact ⟨hf, h2, ho.1, ho.2, h3⟩
    · rw [if_neg ho] at h; cases h
  · rintro ⟨h1, h2, h3, h4, h5⟩
    exact ⟨m.1, List.mem_range.mpr h1, by rw [if_pos (by rw [Bool.and_eq_true]; exact ⟨h3, h4⟩), mem_lstT]; exact ⟨rfl, h2, h5⟩⟩
theorem mem_evs {c n : Nat} {N : Nat → Int32} {col : Nat} {Lp : Lay} {m : Nat × Nat × Nat} : m ∈ evs c n N col Lp (lyc Lp) ↔ EvOK c n N col Lp m := by
  unfold evs evP EvOK
  rw [List.mem_flatMap]
  constructor
  · rintro ⟨p, hp, h⟩
    rw [List.mem_map] at h
    obtain ⟨q, hq, rfl⟩ := h
    rw [mem_mvl] at hq
    exact ⟨List.mem_range.mp hp, hq⟩
  · rintro ⟨h1, h2⟩
    refine ⟨m.1, List.mem_range.mpr h1, ?_⟩
    rw [List.mem_map]
    exact ⟨m.2, mem_mvl.mpr h2, rfl⟩
/-- the moves stand in ascending order -/
def evc (m : Nat × Nat × Nat) : Nat := m.1 * 4096 + (m.2.1 * 64 + m.2.2)
theorem mvl_sorted {c n : Nat} (hn : n ≤ 36) {N : Nat → Int32} {P : Nat → Nat} {col : Nat} : (mvl c n N P col).Pairwise fun a b => a.1 * 64 + a.2 < b.1 * 64 + b.2 := by
  unfold mvl lstF
  rw [List.pairwise_flatMap]
  refine ⟨fun f _ => ?_, ?_⟩
  · by_cases ho : (own (P f) col && orgB c N P f) = true
    · rw [if_pos ho]
      unfold lstT
      rw [List.pairwise_map]
      exact List.Pairwise.imp (fun {a b} h => by show f * 64 + a < f * 64 + b; omega) (List.Pairwise.filter _ List.pairwise_lt_range)
    · rw [if_neg ho]; exact List.Pairwise.nil
  · refine List.Pairwise.imp ?_ (List.pairwise_lt_range (n := n))
    intro a b hab x hx y hy
    have k : ∀ f z, z ∈ (if (own (P f) col && orgB c N P f) = true then lstT c n N P col f n else []) → z.1 = f ∧ z.2 < n := by
      intro f z hz
      by_cases ho : (own (P f) col && orgB c N P f) = true
      · rw [if_pos ho, mem_lstT] at hz; exact ⟨hz.1, hz.2.1⟩
      · rw [if_neg ho] at hz; cases hz
    have h1 := k a x hx
    have h2 := k b y hy
    omega
theorem evs_sorted {c n : Nat} (hn : n ≤ 36) {N : Nat → Int32} {col : Nat} {Lp : Lay} {k : Nat} : (evs c n N col Lp k).Pairwise fun a b => evc a < evc b := by
  unfold evs
  rw [List.pairwise_flatMap]
  refine ⟨fun p _ => ?_, ?_⟩
  · unfold evP
    rw [List.pairwise_map]
    exact List.Pairwise.imp (fun {a b} h => by show p * 4096 + (a.1 * 64 + a.2) < p * 4096 + (b.1 * 64 + b.2); omega) (mvl_sorted hn)
  · refine List.Pairwise.imp ?_ (List.pairwise_lt_range (n := k))
    intro a b hab x hx y hy
    have kk : ∀ p z, z ∈ evP c n N col Lp p → z.1 = p ∧ z.2.1 < n ∧ z.2.2 < n := by
      intro p z hz
      unfold evP at hz
      rw [List.mem_map] at hz
      obtain ⟨q, hq, rfl⟩ := hz
      rw [mem_mvl] at hq
      exact ⟨rfl, hq.1, hq.2.1⟩
    have h1 := kk a x hx
    have h2 := kk b y hy
    unfold evc
    omega
def sumN (n : Nat) (f : Nat → Nat) : Nat := match n with
  | 0 => 0
  | k + 1 => sumN k f + f k
theorem sumN_cong {f g : Nat → Nat} : ∀ n, (∀ i, i < n → f i = g i) → sumN n f = sumN n g := by
  intro n
  induction n with
  | zero => intro _; rfl
  | succ n ih =>
    intro h
    show sumN n f + f n = sumN n g + g n
    rw [ih (fun i hi => h i (by omega)), h n (by omega)]
/-- a position that may stand in a layer, after a move of the colour col -/
def LGood (c n : Nat) (P : Nat → Nat) (col : Nat) : Prop := WFP n P ∧ att c n P (fnd n P (kgc col)) (1 - col) = false
/-- along the run: the layer and the edges that the moves done have made -/
def RI (c n : Nat) (col : Nat) (Lp : Lay) (l : List (Nat × Nat × Nat)) (st : Lay × Edg) : Prop :=
  egc st.2 = l.length ∧ lyc st.1 ≤ 40 ∧ (∀ p, p < lyc st.1 → LGood c n (lyp st.1 p) col) ∧
  (∀ e, e < l.length → ∃ i, egd st.2 e = ((l.getD e (0, 0, 0)).1, i, (l.getD e (0, 0, 0)).2.1, (l.getD e (0, 0, 0)).2.2) ∧ i < lyc st.1 ∧ eqP n (lyp st.1 i) (mvd (lyp Lp (l.getD e (0, 0, 0)).1) (l.getD e (0, 0, 0)).2.1 (l.getD e (0, 0, 0)).2.2) = true) ∧
  (∀ q, q < lyc st.1 → lyg st.1 q = sumN (egc st.2) fun e => if (egd st.2 e).2.1 = q then lyg Lp (egd st.2 e).1 else 0) ∧
  (∀ m ∈ l, m.1 < lyc Lp ∧ m.2.1 < n ∧ m.2.2 < n ∧ own (lyp Lp m.1 m.2.1) col = true ∧ (lyp Lp m.1 m.2.2 = 0 ∨ own (lyp Lp m.1 m.2.2) col = false) ∧ m.2.1 ≠ m.2.2)
theorem mvd_inj {n : Nat} {P : Nat → Nat} {col f t f' t' : Nat} (hf : f < n) (ht : t < n) (hf' : f' < n) (ht' : t' < n) (o : own (P f) col = true) (o' : own (P f') col = true) (k : P t = 0 ∨ own (P t) col = false) (k' : P t' = 0 ∨ own (P t') col = false) (hne : f ≠ t) (hne' : f' ≠ t') (h : ∀ j, j < n → mvd P f t j = mvd P f' t' j) : f = f' ∧ t = t' := by
  have mv : ∀ f t j, mvd P f t j = if j = f then 0 else if j = t then P f else P j := fun _ _ _ => rfl
  have pf : P f ≠ 0 := by have := (own_iff.mp o).1; omega
  have pf' : P f' ≠ 0 := by have := (own_iff.mp o').1; omega
  have e1 : f = f' := by
    by_cases e : f = f'
    · exact e
    · have a := h f' hf'
      rw [mv, mv, if_neg (fun q => e q.symm), if_pos rfl] at a
      by_cases e2 : f' = t
      · rw [if_pos e2] at a; exact absurd a pf
      · rw [if_neg e2] at a; exact absurd a pf'
  subst e1
  refine ⟨rfl, ?_⟩
  by_cases e : t = t'
  · exact e
  · have a := h t ht
    rw [mv, mv, if_neg (fun q => hne q.symm), if_pos rfl, if_neg (fun q => hne q.symm), if_neg e] at a
    rcases k with k | k
    · rw [k] at a; exact absurd a pf
    · rw [← a, o] at k; cases k
theorem RI.len {c n col : Nat} {Lp : Lay} {l : List (Nat × Nat × Nat)} {st : Lay × Edg} (h : RI c n col Lp l st) (hp : lyc Lp ≤ 40) (hd : l.Pairwise fun a b => evc a < evc b) : l.length ≤ 1600 := by
  obtain ⟨h1, h2, h3, h4, h5, h6⟩ := h
  have hmem : ∀ e, e < l.length → l.getD e (0, 0, 0) ∈ l := fun e he => by
    rw [List.getD_eq_getElem?_getD, List.getElem?_eq_getElem he]; exact List.getElem_mem he
  refine pigeon 1600 l.length (fun e => (egd st.2 e).1 * 40 + (egd st.2 e).2.1) (fun e he => ?_) (fun e e' he he' heq => ?_)
  · obtain ⟨i, a1, a2, a3⟩ := h4 e he
    have b := h6 _ (hmem e he)
    show (egd st.2 e).1 * 40 + (egd st.2 e).2.1 < 1600
    rw [a1]
    show (l.getD e (0, 0, 0)).1 * 40 + i < 1600
    omega
  · obtain ⟨i, a1, a2, a3⟩ := h4 e he
    obtain ⟨i', b1, b2, b3⟩ := h4 e' he'
    have heq : (egd st.2 e).1 * 40 + (egd st.2 e).2.1 = (egd st.2 e').1 * 40 + (egd st.2 e').2.1 := heq
    rw [a1, b1] at heq
    have heq : (l.getD e (0, 0, 0)).1 * 40 + i = (l.getD e' (0, 0, 0)).1 * 40 + i' := heq
    have ei : i = i' := by omega
    have ep : (l.getD e (0, 0, 0)).1 = (l.getD e' (0, 0, 0)).1 := by omega
    subst ei
    obtain ⟨q1, q2, q3, q4, q5, q6⟩ := h6 _ (hmem e he)
    obtain ⟨r1, r2, r3, r4, r5, r6⟩ := h6 _ (hmem e' he')
    rw [← ep] at r4 r5 b3
    have hj := mvd_inj q2 q3 r2 r3 q4 r4 q5 r5 q6 r6 (fun j hj => ((eqP_iff.mp a3) j hj).symm.trans ((eqP_iff.mp b3) j hj))
    have hm : l.getD e (0, 0, 0) = l.getD e' (0, 0, 0) := Prod.ext ep (Prod.ext hj.1 hj.2)
    -- ascending: no two are the same
    by_cases hlt : e < e'
    · have := List.pairwise_iff_getElem.mp hd e e' he he' hlt
      have x1 : l[e] = l.getD e (0, 0, 0) := by rw [List.getD_eq_getElem?_getD, List.getElem?_eq_getElem he]; rfl
      have x2 : l[e'] = l.getD e' (0, 0, 0) := by rw [List.getD_eq_getElem?_getD, List.getElem?_eq_getElem he']; rfl
      rw [x1, x2, hm] at this
      omega
    · by_cases hgt : e' < e
      · have := List.pairwise_iff_getElem.mp hd e' e he' he hgt
        have x1 : l[e] = l.getD e (0, 0, 0) := by rw [List.getD_eq_getElem?_getD, List.getElem?_eq_getElem he]; rfl
        have x2 : l[e'] = l.getD e' (0, 0, 0) := by rw [List.getD_eq_getElem?_getD, List.getElem?_eq_getElem he']; rfl
        rw [x1, x2, hm] at this
        omega
      · omega
theorem att_cong {c n : Nat} {P Q : Nat → Nat} (h : P = Q) (t col : Nat) : att c n P t col = att c n Q t col := by rw [h]
theorem RI.step {c n : Nat} {N : Nat → Int32} {col : Nat} (hcol : col < 2) {Lp : Lay} (hW : ∀ p, p < lyc Lp → WFP n (lyp Lp p)) {l : List (Nat × Nat × Nat)} {st st' : Lay × Edg} (h : RI c n col Lp l st) {m : Nat × Nat × Nat} (hm : EvOK c n N col Lp m) (ha : amv n Lp m st = some st') : RI c n col Lp (l ++ [m]) st' := by
  obtain ⟨h1, h2, h3, h4, h5, h6⟩ := h
  obtain ⟨m1, m2, m3, m4, m5, m6⟩ := hm
  obtain ⟨f1, f2, f3⟩ := fxi_spec (n := n) (L := st.1) (Q := mvd (lyp Lp m.1) m.2.1 m.2.2)
  unfold amv at ha
  by_cases h40 : fxi n st.1 (mvd (lyp Lp m.1) m.2.1 m.2.2) = 40
  · rw [if_pos h40] at ha; cases ha
  rw [if_neg h40] at ha
  have W := hW m.1 m1
  unfold tgtB at m6
  simp only [Bool.and_eq_true, Bool.or_eq_true, Bool.not_eq_true', beq_iff_eq, decide_eq_false_iff_not] at m6
  obtain ⟨t1, t2, t3, t4, t5, t6⟩ := m6
  have hne := rch_ne t1
  have hpf : lyp Lp m.1 m.2.1 ≠ 0 := by have := (own_iff.mp m4).1; omega
  have htk : (lyp Lp m.1 m.2.2 - 1) % 5 ≠ 0 ∨ lyp Lp m.1 m.2.2 = 0 := t2.elim (fun q => Or.inr q) (fun q => Or.inl q.2)
  have hQ : LGood c n (mvd (lyp Lp m.1) m.2.1 m.2.2) col := by
    refine ⟨WFP_mvd W m2 m3 hne hpf htk, ?_⟩
    unfold lgB at t6
    rw [Bool.and_eq_true] at t6
    simpa using t6.1
  generalize hid : fxi n st.1 (mvd (lyp Lp m.1) m.2.1 m.2.2) = idx at *
  cases ha
  have lenA : (l ++ [m]).length = l.length + 1 := by rw [List.length_append]; rfl
  have lc' : lyc (addP st.1 (mvd (lyp Lp m.1) m.2.1 m.2.2) idx (lyg Lp m.1)) = if idx = lyc st.1 then lyc st.1 + 1 else lyc st.1 := by
    unfold addP; split <;> rfl
  have lp' : ∀ p, lyp (addP st.1 (mvd (lyp Lp m.1) m.2.1 m.2.2) idx (lyg Lp m.1)) p = if idx = lyc st.1 ∧ p = idx then mvd (lyp Lp m.1) m.2.1 m.2.2 else lyp st.1 p := by
    intro p
    unfold addP
    by_cases hn : idx = lyc st.1
    · rw [if_pos hn]
      show (if p = idx then _ else _) = _
      by_cases hp : p = idx
      · rw [if_pos hp, if_pos ⟨hn, hp⟩]
      · rw [if_neg hp, if_neg (fun q => hp q.2)]
    · rw [if_neg hn, if_neg (fun q => hn q.1)]; rfl
  have lg' : ∀ p, lyg (addP st.1 (mvd (lyp Lp m.1) m.2.1 m.2.2) idx (lyg Lp m.1)) p = if p = idx then (if idx = lyc st.1 then 0 else lyg st.1 idx) + lyg Lp m.1 else lyg st.1 p := by
    intro p
    unfold addP
    by_cases hn : idx = lyc st.1
    · rw [if_pos hn, if_pos hn]
      show (if p = idx then _ else _) = _
      by_cases hp : p = idx
      · rw [if_pos hp, if_pos hp, Nat.zero_add]
      · rw [if_neg hp, if_neg hp]
    · rw [if_neg hn, if_neg hn]
      show (if p = idx then _ else _) = _
      by_cases hp : p = idx
      · rw [if_pos hp]
      · rw [if_neg hp]
  have ed' : ∀ e, egd (addE st.2 (m.1, idx, m.2.1, m.2.2)) e = if e = egc st.2 then (m.1, idx, m.2.1, m.2.2) else egd st.2 e := fun _ => rfl
  have getA : ∀ e, e < l.length → (l ++ [m]).getD e (0, 0, 0) = l.getD e (0, 0, 0) := fun e he => by
    rw [List.getD_eq_getElem?_getD, List.getD_eq_getElem?_getD, List.getElem?_append_left he]
  have getB : (l ++ [m]).getD l.length (0, 0, 0) = m := by
    rw [List.getD_eq_getElem?_getD, List.getElem?_append_right (Nat.le_refl _), Nat.sub_self]; rfl
  refine ⟨?_, ?_, fun p hp => ?_, fun e he => ?_, fun q hq => ?_, fun z hz => ?_⟩
  · show egc st.2 + 1 = _; rw [h1, lenA]
  · show lyc (addP _ _ _ _) ≤ 40
    rw [lc']; split <;> omega
  · show LGood c n (lyp (addP _ _ _ _) p) col
    rw [lp']
    have hp : p < lyc (addP st.1 (mvd (lyp Lp m.1) m.2.1 m.2.2) idx (lyg Lp m.1)) := hp
    rw [lc'] at hp
    by_cases hc : idx = lyc st.1 ∧ p = idx
    · rw [if_pos hc]; exact hQ
    · rw [if_neg hc]
      refine h3 p ?_
      by_cases hn : idx = lyc st.1
      · rw [if_pos hn] at hp; omega
      · rw [if_neg hn] at hp; exact hp
  · rw [lenA] at he
    show ∃ i, egd (addE st.2 (m.1, idx, m.2.1, m.2.2)) e = _ ∧ i < lyc (addP _ _ _ _) ∧ eqP n (lyp (addP _ _ _ _) i) _ = true
    by_cases ee : e = l.length
    · rw [ed', if_pos (by omega), ee, getB]
      refine ⟨idx, rfl, by rw [lc']; split <;> omega, ?_⟩
      rw [lp']
      by_cases hn : idx = lyc st.1
      · rw [if_pos ⟨hn, rfl⟩]; exact eqP_iff.mpr fun _ _ => rfl
      · rw [if_neg (fun q => hn q.1)]; exact f2 (by omega)
    · rw [ed', if_neg (by omega), getA e (by omega)]
      obtain ⟨i, a1, a2, a3⟩ := h4 e (by omega)
      refine ⟨i, a1, by rw [lc']; split <;> omega, ?_⟩
      rw [lp', if_neg (by omega)]; exact a3
  · show lyg (addP _ _ _ _) q = sumN (egc st.2 + 1) _
    have hq : q < lyc (addP st.1 (mvd (lyp Lp m.1) m.2.1 m.2.2) idx (lyg Lp m.1)) := hq
    rw [lc'] at hq
    show _ = sumN (egc st.2) (fun e => if (egd (addE st.2 (m.1, idx, m.2.1, m.2.2)) e).2.1 = q then lyg Lp (egd (addE st.2 (m.1, idx, m.2.1, m.2.2)) e).1 else 0) + (if (egd (addE st.2 (m.1, idx, m.2.1, m.2.2)) (egc st.2)).2.1 = q then lyg Lp (egd (addE st.2 (m.1, idx, m.2.1, m.2.2)) (egc st.2)).1 else 0)
    rw [sumN_cong (g := fun e => if (egd st.2 e).2.1 = q then lyg Lp (egd st.2 e).1 else 0) _ (fun e he => by
      show (if (egd (addE st.2 (m.1, idx, m.2.1, m.2.2)) e).2.1 = q then _ else _) = _
      rw [ed' e, if_neg (show ¬ e = egc st.2 by omega)])]
    rw [ed', if_pos rfl, lg']
    by_cases hqi : q = idx
    · rw [if_pos hqi, if_pos hqi.symm]
      by_cases hn : idx = lyc st.1
      · rw [if_pos hn]
        have z : sumN (egc st.2) (fun e => if (egd st.2 e).2.1 = q then lyg Lp (egd st.2 e).1 else 0) = 0 := by
          have : ∀ k, k ≤ egc st.2 → sumN k (fun e => if (egd st.2 e).2.1 = q then lyg Lp (egd st.2 e).1 else 0) = 0 := by
            intro k
            induction k with
            | zero => intro _; rfl
            | succ k ih =>
              intro hk
              show sumN k _ + (if (egd st.2 k).2.1 = q then _ else 0) = 0
              obtain ⟨i, a1, a2, a3⟩ := h4 k (by omega)
              rw [ih (by omega), a1, if_neg (by show ¬ i = q; omega)]
          exact this _ (Nat.le_refl _)
        rw [z]
      · rw [if_neg hn, h5 idx (by omega), hqi]
    · rw [if_neg hqi, if_neg (fun e => hqi e.symm)]
      by_cases hn : idx = lyc st.1
      · rw [if_pos hn] at hq; exact h5 q (by omega)
      · rw [if_neg hn] at hq; exact h5 q hq
  · rcases List.mem_append.mp hz with hz | hz
    · exact h6 z hz
    · rw [List.mem_singleton.mp hz]
      exact ⟨m1, m2, m3, m4, t2.elim Or.inl (fun q => Or.inr q.1), hne⟩
theorem RI.run {c n : Nat} {N : Nat → Int32} {col : Nat} (hcol : col < 2) {Lp : Lay} (hW : ∀ p, p < lyc Lp → WFP n (lyp Lp p)) : ∀ (l2 l : List (Nat × Nat × Nat)) (st st' : Lay × Edg), RI c n col Lp l st → (∀ m ∈ l2, EvOK c n N col Lp m) → runL n Lp l2 st = some st' → RI c n col Lp (l ++ l2) st' := by
  intro l2
  induction l2 with
  | nil =>
    intro l st st' h _ hr
    cases hr
    rw [List.append_nil]; exact h
  | cons m l2 ih =>
    intro l st st' h hm hr
    have hr : (amv n Lp m st).bind (runL n Lp l2) = some st' := hr
    obtain ⟨s1, e1, e2⟩ := obind hr
    have := ih (l ++ [m]) s1 st' (RI.step hcol hW h (hm m List.mem_cons_self) e1) (fun z hz => hm z (List.mem_cons_of_mem _ hz)) e2
    rw [List.append_assoc] at this
    exact this
theorem RI.nil {c n col : Nat} {Lp : Lay} : RI c n col Lp [] (Ly0, Eg0) := ⟨rfl, Nat.zero_le _, fun p hp => absurd hp (Nat.not_lt_zero _), fun e he => absurd he (Nat.not_lt_zero _), fun q hq => absurd hq (Nat.not_lt_zero _), fun z hz => by cases hz⟩
