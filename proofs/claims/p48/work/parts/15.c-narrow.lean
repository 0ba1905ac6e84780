/-! ===== the ways to play on; a note whose origin is told ===== -/
def cont (c n : Nat) (N : Nat → Nat → Int32) (m : Nat) : Nat → (Nat → Nat) → Nat
  | 0, _ => 1
  | d + 1, P => sml (fun z => cont c n N m d (mvd P z.1 z.2)) (mvl c n (N (m - (d + 1))) P ((m - (d + 1)) % 2))
theorem cont_cong {c n m : Nat} {N N' : Nat → Nat → Int32} : ∀ (d : Nat) (P : Nat → Nat), d ≤ m → (∀ j, m - d ≤ j → j < m → N j = N' j) → cont c n N m d P = cont c n N' m d P := by
  intro d
  induction d with
  | zero => intro P _ _; rfl
  | succ d ih =>
    intro P hd h
    show sml _ (mvl c n (N (m - (d + 1))) P _) = sml _ (mvl c n (N' (m - (d + 1))) P _)
    rw [h (m - (d + 1)) (Nat.le_refl _) (by omega)]
    exact sml_cong _ fun z _ => ih _ (by omega) fun j h1 h2 => h j (by omega) h2
theorem mvd_at {P : Nat → Nat} {f t j : Nat} : mvd P f t j = if j = f then 0 else if j = t then P f else P j := rfl
theorem mvd_zero {n f t : Nat} {P : Nat → Nat} (h : ∀ k, n ≤ k → P k = 0) (hf : f < n) (ht : t < n) : ∀ k, n ≤ k → mvd P f t k = 0 := fun k hk => by
  rw [mvd_at, if_neg (by omega), if_neg (by omega)]; exact h k hk
theorem eqP_fun {n : Nat} {P Q : Nat → Nat} (h : eqP n P Q = true) (h1 : ∀ k, n ≤ k → P k = 0) (h2 : ∀ k, n ≤ k → Q k = 0) : P = Q := funext fun k => by
  by_cases hk : k < n
  · exact eqP_iff.mp h k hk
  · rw [h1 k (by omega), h2 k (by omega)]
section CLAR
variable {c n m : Nat} {N : Nat → Nat → Int32} {P0 : Nat → Nat}
/-- sums over the edges are sums over the moves -/
theorem esum (W : WFP n P0) (hok : okN c n N P0 m) {i : Nat} (hi : i < m) (hct : ∀ q, q < lyc (lyN c n N P0 (i + 1)).1 → ctD c n N P0 m (m - (i + 1)) q = cont c n N m (m - (i + 1)) (lyp (lyN c n N P0 (i + 1)).1 q)) (H : Nat × Nat × Nat → Nat → Nat) :
    sumN (em c n N P0 i) (fun e => H ((eg c n N P0 i e).1, (eg c n N P0 i e).2.2.1, (eg c n N P0 i e).2.2.2) (ctD c n N P0 m (m - (i + 1)) (eg c n N P0 i e).2.1)) = sml (fun z => H z (cont c n N m (m - (i + 1)) (mvd (lyp (lyN c n N P0 i).1 z.1) z.2.1 z.2.2))) (evs c n (N i) (i % 2) (lyN c n N P0 i).1 (lyc (lyN c n N P0 i).1)) := by
  have hrun := lyN_run W hok
  have hr := hrun.2 i hi
  have w0 := ((lyN_run W (hok.mono (show i ≤ m by omega))).1).2
  have w1 := ((lyN_run W (hok.mono (show i + 1 ≤ m by omega))).1).2
  generalize hl : evs c n (N i) (i % 2) (lyN c n N P0 i).1 (lyc (lyN c n N P0 i).1) = l at hr
  obtain ⟨h1, h2, h3, h4, h5, h6⟩ := hr
  have hmem : ∀ e, e < l.length → l.getD e (0, 0, 0) ∈ l := fun e he => by
    rw [List.getD_eq_getElem?_getD, List.getElem?_eq_getElem he]; exact List.getElem_mem he
  have hlen : em c n N P0 i = l.length := h1
  rw [hlen, ← sml_get (z := (0, 0, 0)) l]
  refine sumN_cong _ (fun e he => ?_)
  obtain ⟨j, a1, a2, a3⟩ := h4 e he
  have b := h6 _ (hmem e he)
  show H ((egd (lyN c n N P0 (i + 1)).2 e).1, (egd (lyN c n N P0 (i + 1)).2 e).2.2.1, (egd (lyN c n N P0 (i + 1)).2 e).2.2.2) (ctD c n N P0 m (m - (i + 1)) (egd (lyN c n N P0 (i + 1)).2 e).2.1) = _
  rw [a1]
  show H (l.getD e (0, 0, 0)) (ctD c n N P0 m (m - (i + 1)) j) = _
  rw [hct j a2, eqP_fun a3 (w1 j a2).2.1 (mvd_zero (w0 _ b.1).2.1 b.2.1 b.2.2.1)]
theorem evs_pick {N : Nat → Int32} {col p : Nat} {Lp : Lay} {g : Nat × Nat × Nat → Nat} (hp : p < lyc Lp) : sml (fun z => if z.1 = p then g z else 0) (evs c n N col Lp (lyc Lp)) = sml (fun z => g (p, z.1, z.2)) (mvl c n N (lyp Lp p) col) := by
  unfold evs evP
  rw [sml_flat, sml_range]
  rw [sumN_cong (g := fun q => if p = q then sml (fun z => g (q, z.1, z.2)) (mvl c n N (lyp Lp q) col) else 0) _ (fun q _ => by
    rw [sml_map]
    by_cases e : p = q
    · rw [if_pos e]
      exact sml_cong _ fun z _ => if_pos e.symm
    · rw [if_neg e]
      exact sml_none _ fun z _ => if_neg fun x => e x.symm)]
  exact sumN_pick (f := fun q => sml (fun z => g (q, z.1, z.2)) (mvl c n N (lyp Lp q) col)) _ hp
theorem ctD_cont (W : WFP n P0) (hok : okN c n N P0 m) : ∀ d, d ≤ m → ∀ p, p < lyc (lyN c n N P0 (m - d)).1 → ctD c n N P0 m d p = cont c n N m d (lyp (lyN c n N P0 (m - d)).1 p) := by
  intro d
  induction d with
  | zero => intro _ p hp; exact if_pos hp
  | succ d ih =>
    intro hd p hp
    have e1 : m - (m - (d + 1) + 1) = d := by omega
    have e2 : m - (d + 1) + 1 = m - d := by omega
    have es := esum W hok (i := m - (d + 1)) (by omega) (fun q hq => by rw [e1, e2]; rw [e2] at hq; exact ih (by omega) q hq) (fun z x => if z.1 = p then x else 0)
    rw [e1] at es
    rw [evs_pick hp] at es
    exact es
theorem tot_cont (W : WFP n P0) (hn : n ≤ 36) (hok : okN c n N P0 m) {i : Nat} (hi : i < m) : gsm (lyN c n N P0 m).1 (lyc (lyN c n N P0 m).1) = sml (fun z => lyg (lyN c n N P0 i).1 z.1 * cont c n N m (m - (i + 1)) (mvd (lyp (lyN c n N P0 i).1 z.1) z.2.1 z.2.2)) (evs c n (N i) (i % 2) (lyN c n N P0 i).1 (lyc (lyN c n N P0 i).1)) := by
  rw [← Tot_all W hn hok (Nat.le_of_lt hi), Tot_l W hn hok hi]
  have h := ctD_cont W hok (m - (i + 1)) (by omega)
  rw [show m - (m - (i + 1)) = i + 1 by omega] at h
  exact esum W hok hi h (fun z x => lyg (lyN c n N P0 i).1 z.1 * x)
theorem gmv_cont (W : WFP n P0) (hok : okN c n N P0 m) {i k : Nat} (hi : i < m) : gmv c n N P0 m i k = sml (fun z => if z.2.1 * 64 + z.2.2 = k then lyg (lyN c n N P0 i).1 z.1 * cont c n N m (m - (i + 1)) (mvd (lyp (lyN c n N P0 i).1 z.1) z.2.1 z.2.2) else 0) (evs c n (N i) (i % 2) (lyN c n N P0 i).1 (lyc (lyN c n N P0 i).1)) := by
  have h := ctD_cont W hok (m - (i + 1)) (by omega)
  rw [show m - (m - (i + 1)) = i + 1 by omega] at h
  exact esum W hok hi h (fun z x => if z.2.1 * 64 + z.2.2 = k then lyg (lyN c n N P0 i).1 z.1 * x else 0)
/-- a move that is played in some game -/
theorem gmv_ev (W : WFP n P0) (hok : okN c n N P0 m) {i k : Nat} (hi : i < m) (h : gmv c n N P0 m i k ≠ 0) : ∃ z, EvOK c n (N i) (i % 2) (lyN c n N P0 i).1 z ∧ z.2.1 * 64 + z.2.2 = k ∧ 0 < cont c n N m (m - (i + 1)) (mvd (lyp (lyN c n N P0 i).1 z.1) z.2.1 z.2.2) := by
  rw [gmv_cont W hok hi] at h
  obtain ⟨z, z1, z2⟩ := sml_pos _ (Nat.pos_of_ne_zero h)
  by_cases e : z.2.1 * 64 + z.2.2 = k
  · rw [if_pos e] at z2
    exact ⟨z, mem_evs.mp z1, e, Nat.pos_of_mul_pos_left z2⟩
  · rw [if_neg e] at z2; exact absurd z2 (Nat.lt_irrefl _)
theorem lyN_cg {N' : Nat → Nat → Int32} : ∀ i, (∀ j, j < i → N j = N' j) → lyN c n N P0 i = lyN c n N' P0 i := by
  intro i
  induction i with
  | zero => intro _; rfl
  | succ i ih =>
    intro h
    show (stepL c n (N i) (i % 2) (lyN c n N P0 i).1).getD _ = (stepL c n (N' i) (i % 2) (lyN c n N' P0 i).1).getD _
    rw [ih (fun j hj => h j (by omega)), h i (by omega)]
theorem okN_cg {N' : Nat → Nat → Int32} {k : Nat} (h : ∀ j, j < k → N j = N' j) (hok : okN c n N P0 k) : okN c n N' P0 k := fun i hi => by
  have a := hok i hi
  rw [lyN_cg (N' := N') i (fun j hj => h j (by omega)), lyN_cg (N' := N') (i + 1) (fun j hj => h j (by omega)), h i hi] at a
  exact a
/-- the notes with the origin of note k told keep to the positions that there were -/
theorem org_sub (W : WFP n P0) (hok : okN c n N P0 m) {k f : Nat} (hk : k < m) {cx ry : Int32} (hsub : ∀ P q, q < n → orgB c (orgN N k cx ry k) P q = true → orgB c (N k) P q = true)
    (hst : ∃ p, p < lyc (lyN c n N P0 k).1 ∧ 0 < cont c n (orgN N k cx ry) m (m - k) (lyp (lyN c n N P0 k).1 p)) :
    ∀ e, k + e ≤ m → okN c n (orgN N k cx ry) P0 (k + e) ∧ (∀ p', p' < lyc (lyN c n (orgN N k cx ry) P0 (k + e)).1 → ∃ p, p < lyc (lyN c n N P0 (k + e)).1 ∧ lyp (lyN c n (orgN N k cx ry) P0 (k + e)).1 p' = lyp (lyN c n N P0 (k + e)).1 p) ∧ ∃ p', p' < lyc (lyN c n (orgN N k cx ry) P0 (k + e)).1 ∧ 0 < cont c n (orgN N k cx ry) m (m - (k + e)) (lyp (lyN c n (orgN N k cx ry) P0 (k + e)).1 p') := by
  have hN : ∀ j, j ≠ k → orgN N k cx ry j = N j := fun j hj => if_neg hj
  have hN3 : ∀ i j, 3 ≤ j → orgN N k cx ry i j = N i j := fun i j hj => by
    by_cases e : i = k
    · subst e
      have : orgN N i cx ry i = fun j => if j = 1 then cx else if j = 2 then ry else N i j := if_pos rfl
      rw [this]
      show (if j = 1 then cx else if j = 2 then ry else N i j) = _
      rw [if_neg (by omega), if_neg (by omega)]
    · rw [hN i e]
  have ho : ∀ i P q, q < n → orgB c (orgN N k cx ry i) P q = true → orgB c (N i) P q = true := fun i P q hq h => by
    by_cases e : i = k
    · subst e; exact hsub P q hq h
    · rwa [hN i e] at h
  generalize hN' : orgN N k cx ry = N' at *
  intro e
  induction e with
  | zero =>
    intro _
    have e1 : lyN c n N' P0 k = lyN c n N P0 k := lyN_cg k (fun j hj => hN j (by omega))
    show okN c n N' P0 k ∧ _
    refine ⟨okN_cg (fun j hj => (hN j (by omega)).symm) (hok.mono (by omega)), ?_, ?_⟩
    · show ∀ p', p' < lyc (lyN c n N' P0 k).1 → ∃ p, p < lyc (lyN c n N P0 k).1 ∧ lyp (lyN c n N' P0 k).1 p' = lyp (lyN c n N P0 k).1 p
      rw [e1]; exact fun p hp => ⟨p, hp, rfl⟩
    · show ∃ p', p' < lyc (lyN c n N' P0 k).1 ∧ 0 < cont c n N' m (m - k) (lyp (lyN c n N' P0 k).1 p')
      rw [e1]; exact hst
  | succ e ih =>
    intro he
    obtain ⟨o1, s1, ⟨p0, hp0, hc0⟩⟩ := ih (by omega)
    generalize hi : k + e = i at o1 s1 hp0 hc0
    have him : i < m := by omega
    rw [show k + (e + 1) = i + 1 by omega]
    have w0 := ((lyN_run W (hok.mono (show i ≤ m by omega))).1).2
    have w1 := ((lyN_run W (hok.mono (show i + 1 ≤ m by omega))).1).2
    obtain ⟨st, stc⟩ := hok i him
    have rs := (stepL_spec st).1
    have cover : ∀ z, z ∈ evs c n (N' i) (i % 2) (lyN c n N' P0 i).1 (lyc (lyN c n N' P0 i).1) → z.2.1 < n ∧ z.2.2 < n ∧ WFP n (lyp (lyN c n N' P0 i).1 z.1) ∧ ∃ q, q < lyc (lyN c n N P0 (i + 1)).1 ∧ eqP n (lyp (lyN c n N P0 (i + 1)).1 q) (mvd (lyp (lyN c n N' P0 i).1 z.1) z.2.1 z.2.2) = true := by
      intro z hz
      obtain ⟨z1, z2, z3, z4, z5, z6⟩ := mem_evs.mp hz
      obtain ⟨p, hp, ep⟩ := s1 z.1 z1
      rw [ep] at z4 z5 z6 ⊢
      have hm : (p, z.2.1, z.2.2) ∈ evs c n (N i) (i % 2) (lyN c n N P0 i).1 (lyc (lyN c n N P0 i).1) := mem_evs.mpr ⟨hp, z2, z3, z4, ho i _ _ z2 z5, by rw [← tgtB_cong (hN3 i)]; exact z6⟩
      exact ⟨z2, z3, w0 p hp, rs.2.2.1 _ hm⟩
    obtain ⟨st', hst'⟩ := runL_some (n := n) (Lp := (lyN c n N' P0 i).1) (B := lyp (lyN c n N P0 (i + 1)).1) ((lyN_run W (hok.mono (show i + 1 ≤ m by omega))).1).1 (evs c n (N' i) (i % 2) (lyN c n N' P0 i).1 (lyc (lyN c n N' P0 i).1)) [] (Ly0, Eg0) RS.nil (fun z hz => (cover z hz).2.2.2)
    have hS : stepL c n (N' i) (i % 2) (lyN c n N' P0 i).1 = some st' := hst'
    have el : lyN c n N' P0 (i + 1) = st' := lyN_of hS
    have rs' := (stepL_spec hS).1
    have sub : ∀ p', p' < lyc st'.1 → ∃ p, p < lyc (lyN c n N P0 (i + 1)).1 ∧ lyp st'.1 p' = lyp (lyN c n N P0 (i + 1)).1 p := by
      intro p' hp'
      obtain ⟨z, z1, z2⟩ := rs'.2.1 p' hp'
      obtain ⟨a1, a2, a3, q, a4, a5⟩ := cover z z1
      exact ⟨q, a4, by rw [z2]; exact (eqP_fun a5 (w1 q a4).2.1 (mvd_zero a3.2.1 a1 a2)).symm⟩
    have pos : ∃ p', p' < lyc st'.1 ∧ 0 < cont c n N' m (m - (i + 1)) (lyp st'.1 p') := by
      rw [show m - i = (m - (i + 1)) + 1 by omega] at hc0
      have hc0 : 0 < sml (fun z => cont c n N' m (m - (i + 1)) (mvd (lyp (lyN c n N' P0 i).1 p0) z.1 z.2)) (mvl c n (N' (m - (m - (i + 1) + 1))) (lyp (lyN c n N' P0 i).1 p0) ((m - (m - (i + 1) + 1)) % 2)) := hc0
      rw [show m - (m - (i + 1) + 1) = i by omega] at hc0
      obtain ⟨z, z1, z2⟩ := sml_pos _ hc0
      have hz : (p0, z.1, z.2) ∈ evs c n (N' i) (i % 2) (lyN c n N' P0 i).1 (lyc (lyN c n N' P0 i).1) := mem_evs.mpr ⟨hp0, mem_mvl.mp z1⟩
      obtain ⟨q, q1, q2⟩ := rs'.2.2.1 _ hz
      obtain ⟨a1, a2, a3, -⟩ := cover _ hz
      obtain ⟨p, hp, ep⟩ := sub q q1
      refine ⟨q, q1, ?_⟩
      rw [eqP_fun q2 (by rw [ep]; exact (w1 p hp).2.1) (mvd_zero a3.2.1 a1 a2)]
      exact z2
    rw [el]
    refine ⟨okN_succ.mpr ⟨o1, ?_, ?_⟩, sub, pos⟩
    · rw [el]; exact hS
    · rw [el]
      obtain ⟨p', hp', -⟩ := pos
      omega
end CLAR
