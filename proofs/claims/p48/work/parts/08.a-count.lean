/-! ===== counts of games, as mathematics ===== -/
theorem sumN_add {f g : Nat → Nat} : ∀ n, sumN n (fun i => f i + g i) = sumN n f + sumN n g := by
  intro n
  induction n with
  | zero => rfl
  | succ n ih =>
    show sumN n (fun i => f i + g i) + (f n + g n) = sumN n f + f n + (sumN n g + g n)
    rw [ih]; omega
theorem sumN_zero : ∀ n, sumN n (fun _ => 0) = 0 := by
  intro n
  induction n with
  | zero => rfl
  | succ n ih => show sumN n (fun _ => 0) + 0 = 0; rw [ih]
theorem sumN_swap {f : Nat → Nat → Nat} {m : Nat} : ∀ n, sumN n (fun i => sumN m (fun j => f i j)) = sumN m (fun j => sumN n (fun i => f i j)) := by
  intro n
  induction n with
  | zero => exact (sumN_zero m).symm
  | succ n ih =>
    show sumN n (fun i => sumN m (fun j => f i j)) + sumN m (fun j => f n j) = sumN m (fun j => sumN n (fun i => f i j) + f n j)
    rw [ih, sumN_add]
theorem sumN_mul {f : Nat → Nat} {k : Nat} : ∀ n, sumN n f * k = sumN n (fun i => f i * k) := by
  intro n
  induction n with
  | zero => exact Nat.zero_mul k
  | succ n ih =>
    show (sumN n f + f n) * k = sumN n (fun i => f i * k) + f n * k
    rw [Nat.add_mul, ih]
theorem sumN_none {f : Nat → Nat} : ∀ n, (∀ i, i < n → f i = 0) → sumN n f = 0 := by
  intro n h
  rw [sumN_cong (g := fun _ => 0) n h, sumN_zero]
theorem sumN_pick {f : Nat → Nat} {k : Nat} : ∀ n, k < n → sumN n (fun i => if k = i then f i else 0) = f k := by
  intro n
  induction n with
  | zero => intro h; omega
  | succ n ih =>
    intro h
    show sumN n (fun i => if k = i then f i else 0) + (if k = n then f n else 0) = f k
    by_cases e : k = n
    · subst e
      rw [if_pos rfl, sumN_none k (fun i hi => if_neg (by omega)), Nat.zero_add]
    · rw [if_neg e, ih (by omega)]; rfl
theorem sumN_le {f g : Nat → Nat} : ∀ n, (∀ i, i < n → f i ≤ g i) → sumN n f ≤ sumN n g := by
  intro n
  induction n with
  | zero => intro _; exact Nat.le_refl _
  | succ n ih =>
    intro h
    have a := ih (fun i hi => h i (by omega))
    have b := h n (by omega)
    show sumN n f + f n ≤ sumN n g + g n
    omega
theorem sumN_term {f : Nat → Nat} {k : Nat} : ∀ n, k < n → f k ≤ sumN n f := by
  intro n
  induction n with
  | zero => intro h; omega
  | succ n ih =>
    intro h
    show f k ≤ sumN n f + f n
    by_cases e : k = n
    · rw [e]; omega
    · have := ih (by omega); omega
theorem sumN_one {A : Nat → Prop} [∀ e, Decidable (A e)] : ∀ n, (∀ e e', e < n → e' < n → A e → A e' → e = e') → sumN n (fun e => if A e then 1 else 0) ≤ 1 := by
  intro n
  induction n with
  | zero => intro _; exact Nat.zero_le _
  | succ n ih =>
    intro h
    show sumN n (fun e => if A e then 1 else 0) + (if A n then 1 else 0) ≤ 1
    by_cases hn : A n
    · rw [if_pos hn, sumN_none n (fun i hi => if_neg (fun q => by have := h i n (by omega) (by omega) q hn; omega))]
      exact Nat.le_refl _
    · rw [if_neg hn]
      exact ih (fun e e' q1 q2 => h e e' (by omega) (by omega))
/-- pairs that differ: the sum over them is at most that over all -/
theorem sumN_pairs {k P Q : Nat} {f g : Nat → Nat} {h : Nat → Nat} (hf : ∀ e, e < k → f e < P) (hg : ∀ e, e < k → g e < Q) (hi : ∀ e e', e < k → e' < k → f e = f e' → g e = g e' → e = e') : sumN k (fun e => h (f e)) ≤ Q * sumN P h := by
  have e1 : sumN k (fun e => h (f e)) = sumN Q (fun q => sumN P (fun p => sumN k (fun e => if f e = p ∧ g e = q then h p else 0))) := by
    have : ∀ q, sumN P (fun p => sumN k (fun e => if f e = p ∧ g e = q then h p else 0)) = sumN k (fun e => if g e = q then h (f e) else 0) := fun q => by
      rw [sumN_swap P]
      refine sumN_cong k (fun e he => ?_)
      by_cases hq : g e = q
      · rw [if_pos hq, sumN_cong (g := fun p => if f e = p then h p else 0) P (fun p _ => by
          by_cases hp : f e = p
          · rw [if_pos ⟨hp, hq⟩, if_pos hp]
          · rw [if_neg (fun z => hp z.1), if_neg hp]), sumN_pick P (hf e he)]
      · rw [if_neg hq]
        exact sumN_none P (fun p _ => if_neg (fun z => hq z.2))
    rw [sumN_cong (g := fun q => sumN k (fun e => if g e = q then h (f e) else 0)) Q (fun q _ => this q), sumN_swap Q]
    refine (sumN_cong k (fun e he => ?_)).symm
    exact sumN_pick (f := fun _ => h (f e)) Q (hg e he)
  rw [e1]
  have e2 : ∀ q, q < Q → sumN P (fun p => sumN k (fun e => if f e = p ∧ g e = q then h p else 0)) ≤ sumN P h := fun q _ => by
    refine sumN_le P (fun p _ => ?_)
    have a : sumN k (fun e => if f e = p ∧ g e = q then h p else 0) = sumN k (fun e => if f e = p ∧ g e = q then 1 else 0) * h p := by
      rw [sumN_mul]
      refine sumN_cong k (fun e _ => ?_)
      by_cases z : f e = p ∧ g e = q
      · rw [if_pos z, if_pos z, Nat.one_mul]
      · rw [if_neg z, if_neg z, Nat.zero_mul]
    rw [a]
    have b := sumN_one (A := fun e => f e = p ∧ g e = q) k (fun e e' q1 q2 z1 z2 => hi e e' q1 q2 (z1.1.trans z2.1.symm) (z1.2.trans z2.2.symm))
    calc _ ≤ 1 * h p := Nat.mul_le_mul_right _ b
      _ = h p := Nat.one_mul _
  refine Nat.le_trans (sumN_le Q e2) ?_
  have : ∀ n, sumN n (fun _ => sumN P h) = n * sumN P h := by
    intro n
    induction n with
    | zero => exact (Nat.zero_mul _).symm
    | succ n ih =>
      show sumN n (fun _ => sumN P h) + sumN P h = (n + 1) * sumN P h
      rw [ih, Nat.succ_mul]
  rw [this]
  exact Nat.le_refl _
section CNT
variable {c n m : Nat} {N : Nat → Nat → Int32} {P0 : Nat → Nat}
abbrev eg (c n : Nat) (N : Nat → Nat → Int32) (P0 : Nat → Nat) (i e : Nat) : Nat × Nat × Nat × Nat := egd (lyN c n N P0 (i + 1)).2 e
abbrev em (c n : Nat) (N : Nat → Nat → Int32) (P0 : Nat → Nat) (i : Nat) : Nat := egc (lyN c n N P0 (i + 1)).2
/-- an edge's places, and no two edges alike -/
theorem eg_ok (W : WFP n P0) (hn : n ≤ 36) (hok : okN c n N P0 m) {i : Nat} (hi : i < m) : (∀ e, e < em c n N P0 i → (eg c n N P0 i e).1 < lyc (lyN c n N P0 i).1 ∧ (eg c n N P0 i e).2.1 < lyc (lyN c n N P0 (i + 1)).1 ∧ (eg c n N P0 i e).2.2.1 < n ∧ (eg c n N P0 i e).2.2.2 < n) ∧
    (∀ e e', e < em c n N P0 i → e' < em c n N P0 i → (eg c n N P0 i e).1 = (eg c n N P0 i e').1 → (eg c n N P0 i e).2.1 = (eg c n N P0 i e').2.1 → e = e') ∧
    ∀ q, q < lyc (lyN c n N P0 (i + 1)).1 → lyg (lyN c n N P0 (i + 1)).1 q = sumN (em c n N P0 i) fun e => if (eg c n N P0 i e).2.1 = q then lyg (lyN c n N P0 i).1 (eg c n N P0 i e).1 else 0 := by
  have hr := (lyN_run W hok).2 i hi
  have hd := evs_sorted (c := c) hn (N := N i) (col := i % 2) (Lp := (lyN c n N P0 i).1) (k := lyc (lyN c n N P0 i).1)
  generalize hl : evs c n (N i) (i % 2) (lyN c n N P0 i).1 (lyc (lyN c n N P0 i).1) = l at hr hd
  obtain ⟨h1, h2, h3, h4, h5, h6⟩ := hr
  have hmem : ∀ e, e < l.length → l.getD e (0, 0, 0) ∈ l := fun e he => by
    rw [List.getD_eq_getElem?_getD, List.getElem?_eq_getElem he]; exact List.getElem_mem he
  have hlen : em c n N P0 i = l.length := h1
  refine ⟨fun e he => ?_, fun e e' he he' q1 q2 => ?_, h5⟩
  · obtain ⟨j, a1, a2, a3⟩ := h4 e (by omega)
    have b := h6 _ (hmem e (by omega))
    show (egd (lyN c n N P0 (i + 1)).2 e).1 < _ ∧ (egd (lyN c n N P0 (i + 1)).2 e).2.1 < _ ∧ (egd (lyN c n N P0 (i + 1)).2 e).2.2.1 < _ ∧ (egd (lyN c n N P0 (i + 1)).2 e).2.2.2 < _
    rw [a1]
    exact ⟨b.1, a2, b.2.1, b.2.2.1⟩
  · rw [hlen] at he he'
    obtain ⟨j, a1, a2, a3⟩ := h4 e he
    obtain ⟨j', b1, b2, b3⟩ := h4 e' he'
    have q1 : (egd (lyN c n N P0 (i + 1)).2 e).1 = (egd (lyN c n N P0 (i + 1)).2 e').1 := q1
    have q2 : (egd (lyN c n N P0 (i + 1)).2 e).2.1 = (egd (lyN c n N P0 (i + 1)).2 e').2.1 := q2
    rw [a1, b1] at q1 q2
    have ep : (l.getD e (0, 0, 0)).1 = (l.getD e' (0, 0, 0)).1 := q1
    have ej : j = j' := q2
    subst ej
    obtain ⟨p1, p2, p3, p4, p5, p6⟩ := h6 _ (hmem e he)
    obtain ⟨r1, r2, r3, r4, r5, r6⟩ := h6 _ (hmem e' he')
    rw [← ep] at r4 r5 b3
    have hj := mvd_inj p2 p3 r2 r3 p4 r4 p5 r5 p6 r6 (fun k hk => ((eqP_iff.mp a3) k hk).symm.trans ((eqP_iff.mp b3) k hk))
    have hm : l.getD e (0, 0, 0) = l.getD e' (0, 0, 0) := Prod.ext ep (Prod.ext hj.1 hj.2)
    have x1 : ∀ e, (he : e < l.length) → l[e] = l.getD e (0, 0, 0) := fun e he => by rw [List.getD_eq_getElem?_getD, List.getElem?_eq_getElem he]; rfl
    by_cases hlt : e < e'
    · have := List.pairwise_iff_getElem.mp hd e e' he he' hlt
      rw [x1, x1, hm] at this
      omega
    · by_cases hgt : e' < e
      · have := List.pairwise_iff_getElem.mp hd e' e he' he hgt
        rw [x1, x1, hm] at this
        omega
      · omega
/-- the ways to play on from a position of a layer to the last: d notes before the last -/
def ctD (c n : Nat) (N : Nat → Nat → Int32) (P0 : Nat → Nat) (m : Nat) : Nat → Nat → Nat
  | 0, p => if p < lyc (lyN c n N P0 m).1 then 1 else 0
  | d + 1, p => sumN (em c n N P0 (m - (d + 1))) fun e => if (eg c n N P0 (m - (d + 1)) e).1 = p then ctD c n N P0 m d (eg c n N P0 (m - (d + 1)) e).2.1 else 0
/-- the games over an edge -/
def ovr (c n : Nat) (N : Nat → Nat → Int32) (P0 : Nat → Nat) (m i e : Nat) : Nat := lyg (lyN c n N P0 i).1 (eg c n N P0 i e).1 * ctD c n N P0 m (m - (i + 1)) (eg c n N P0 i e).2.1
def Tot (c n : Nat) (N : Nat → Nat → Int32) (P0 : Nat → Nat) (m i : Nat) : Nat := sumN (lyc (lyN c n N P0 i).1) fun p => lyg (lyN c n N P0 i).1 p * ctD c n N P0 m (m - i) p
theorem Tot_l (W : WFP n P0) (hn : n ≤ 36) (hok : okN c n N P0 m) {i : Nat} (hi : i < m) : Tot c n N P0 m i = sumN (em c n N P0 i) (ovr c n N P0 m i) := by
  obtain ⟨h1, h2, h3⟩ := eg_ok W hn hok hi
  have e : ∀ p, ctD c n N P0 m (m - i) p = sumN (em c n N P0 i) fun e => if (eg c n N P0 i e).1 = p then ctD c n N P0 m (m - (i + 1)) (eg c n N P0 i e).2.1 else 0 := fun p => by
    rw [show m - i = (m - (i + 1)) + 1 by omega]
    show (sumN (em c n N P0 (m - (m - (i + 1) + 1))) fun e => if (eg c n N P0 (m - (m - (i + 1) + 1)) e).1 = p then ctD c n N P0 m (m - (i + 1)) (eg c n N P0 (m - (m - (i + 1) + 1)) e).2.1 else 0) = _
    rw [show m - (m - (i + 1) + 1) = i by omega]
  unfold Tot
  rw [sumN_cong (g := fun p => sumN (em c n N P0 i) fun e => if (eg c n N P0 i e).1 = p then lyg (lyN c n N P0 i).1 p * ctD c n N P0 m (m - (i + 1)) (eg c n N P0 i e).2.1 else 0) _ (fun p _ => by
    rw [e p, Nat.mul_comm, sumN_mul]
    refine sumN_cong _ (fun k _ => ?_)
    by_cases z : (eg c n N P0 i k).1 = p
    · rw [if_pos z, if_pos z, Nat.mul_comm]
    · rw [if_neg z, if_neg z, Nat.zero_mul]), sumN_swap]
  refine sumN_cong _ (fun k hk => ?_)
  exact sumN_pick (f := fun p => lyg (lyN c n N P0 i).1 p * ctD c n N P0 m (m - (i + 1)) (eg c n N P0 i k).2.1) _ (h1 k hk).1
theorem Tot_r (W : WFP n P0) (hn : n ≤ 36) (hok : okN c n N P0 m) {i : Nat} (hi : i < m) : Tot c n N P0 m (i + 1) = sumN (em c n N P0 i) (ovr c n N P0 m i) := by
  obtain ⟨h1, h2, h3⟩ := eg_ok W hn hok hi
  unfold Tot
  rw [sumN_cong (g := fun q => sumN (em c n N P0 i) fun e => if (eg c n N P0 i e).2.1 = q then lyg (lyN c n N P0 i).1 (eg c n N P0 i e).1 * ctD c n N P0 m (m - (i + 1)) q else 0) _ (fun q hq => by
    rw [h3 q hq, sumN_mul]
    refine sumN_cong _ (fun k _ => ?_)
    by_cases z : (eg c n N P0 i k).2.1 = q
    · rw [if_pos z, if_pos z]
    · rw [if_neg z, if_neg z, Nat.zero_mul]), sumN_swap]
  refine sumN_cong _ (fun k hk => ?_)
  exact sumN_pick (f := fun q => lyg (lyN c n N P0 i).1 (eg c n N P0 i k).1 * ctD c n N P0 m (m - (i + 1)) q) _ (h1 k hk).2.1
theorem Tot_last : Tot c n N P0 m m = gsm (lyN c n N P0 m).1 (lyc (lyN c n N P0 m).1) := by
  unfold Tot gsm
  refine sumN_cong _ (fun p hp => ?_)
  rw [Nat.sub_self]
  show _ * (if p < lyc (lyN c n N P0 m).1 then 1 else 0) = _
  rw [if_pos hp, Nat.mul_one]
theorem Tot_all (W : WFP n P0) (hn : n ≤ 36) (hok : okN c n N P0 m) : ∀ {i : Nat}, i ≤ m → Tot c n N P0 m i = gsm (lyN c n N P0 m).1 (lyc (lyN c n N P0 m).1) := by
  intro i hi
  have : ∀ d, d ≤ m → Tot c n N P0 m (m - d) = gsm (lyN c n N P0 m).1 (lyc (lyN c n N P0 m).1) := by
    intro d
    induction d with
    | zero => intro _; exact Tot_last
    | succ d ih =>
      intro hd
      have a := Tot_l W hn hok (i := m - (d + 1)) (by omega)
      have b := Tot_r W hn hok (i := m - (d + 1)) (by omega)
      rw [show m - (d + 1) + 1 = m - d by omega] at b
      rw [a, ← b, ih (by omega)]
  have := this (m - i) (by omega)
  rwa [show m - (m - i) = i by omega] at this
/-- how many games there can be -/
theorem gsm_le (W : WFP n P0) (hn : n ≤ 36) : ∀ {i : Nat}, okN c n N P0 i → gsm (lyN c n N P0 i).1 (lyc (lyN c n N P0 i).1) ≤ 40 ^ i := by
  intro i
  induction i with
  | zero => intro _; exact Nat.le_refl _
  | succ i ih =>
    intro hok
    have h0 := ih (hok.mono (Nat.le_succ _))
    obtain ⟨h1, h2, h3⟩ := eg_ok W hn hok (Nat.lt_succ_self i)
    have h40 := (lyN_run W hok).1.1
    have e : gsm (lyN c n N P0 (i + 1)).1 (lyc (lyN c n N P0 (i + 1)).1) = sumN (em c n N P0 i) fun e => lyg (lyN c n N P0 i).1 (eg c n N P0 i e).1 := by
      unfold gsm
      rw [sumN_cong (g := fun q => sumN (em c n N P0 i) fun e => if (eg c n N P0 i e).2.1 = q then lyg (lyN c n N P0 i).1 (eg c n N P0 i e).1 else 0) _ (fun q hq => h3 q hq), sumN_swap]
      refine sumN_cong _ (fun k hk => ?_)
      exact sumN_pick (f := fun _ => lyg (lyN c n N P0 i).1 (eg c n N P0 i k).1) _ (h1 k hk).2.1
    rw [e]
    have := sumN_pairs (k := em c n N P0 i) (P := lyc (lyN c n N P0 i).1) (Q := 40) (f := fun e => (eg c n N P0 i e).1) (g := fun e => (eg c n N P0 i e).2.1) (h := lyg (lyN c n N P0 i).1) (fun e he => (h1 e he).1) (fun e he => by have := (h1 e he).2.1; omega) h2
    refine Nat.le_trans this ?_
    rw [Nat.pow_succ, Nat.mul_comm (40 ^ i)]
    exact Nat.mul_le_mul_left _ h0
theorem gsm_lt (W : WFP n P0) (hn : n ≤ 36) (hm : m ≤ 10) (hok : okN c n N P0 m) : gsm (lyN c n N P0 m).1 (lyc (lyN c n N P0 m).1) < 9223372036854775808 := by
  have h1 := gsm_le W hn hok
  have h2 : 40 ^ m ≤ 40 ^ 10 := Nat.pow_le_pow_right (by decide) hm
  have h3 : (40 : Nat) ^ 10 < 9223372036854775808 := by decide
  omega
/-- the games that make a move at a note -/
def gmv (c n : Nat) (N : Nat → Nat → Int32) (P0 : Nat → Nat) (m i k : Nat) : Nat := sumN (em c n N P0 i) fun e => if (eg c n N P0 i e).2.2.1 * 64 + (eg c n N P0 i e).2.2.2 = k then ovr c n N P0 m i e else 0
theorem gmv_lt (W : WFP n P0) (hn : n ≤ 36) (hm : m ≤ 10) (hok : okN c n N P0 m) {i k : Nat} (hi : i < m) : gmv c n N P0 m i k < 9223372036854775808 := by
  have h1 := gsm_lt W hn hm hok
  rw [← Tot_all W hn hok (Nat.le_of_lt hi), Tot_l W hn hok hi] at h1
  refine Nat.lt_of_le_of_lt (sumN_le _ (fun e _ => ?_)) h1
  split
  · exact Nat.le_refl _
  · exact Nat.zero_le _
theorem gmv_tot (W : WFP n P0) (hn : n ≤ 36) (hok : okN c n N P0 m) {i : Nat} (hi : i < m) : sumN (n * 64) (gmv c n N P0 m i) = gsm (lyN c n N P0 m).1 (lyc (lyN c n N P0 m).1) := by
  rw [← Tot_all W hn hok (Nat.le_of_lt hi), Tot_l W hn hok hi]
  obtain ⟨h1, h2, h3⟩ := eg_ok W hn hok hi
  unfold gmv
  rw [sumN_swap]
  refine sumN_cong _ (fun e he => ?_)
  have := h1 e he
  exact sumN_pick (f := fun _ => ovr c n N P0 m i e) _ (by omega)
theorem ovr_lt (W : WFP n P0) (hn : n ≤ 36) (hm : m ≤ 10) (hok : okN c n N P0 m) {i e : Nat} (hi : i < m) (he : e < em c n N P0 i) : ovr c n N P0 m i e < 9223372036854775808 := by
  have h1 := gsm_lt W hn hm hok
  rw [← Tot_all W hn hok (Nat.le_of_lt hi), Tot_l W hn hok hi] at h1
  exact Nat.lt_of_le_of_lt (sumN_term _ he) h1
end CNT
