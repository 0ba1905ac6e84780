/-! ===== sums over the moves of a layer; what a run over them gives ===== -/
def sml {α : Type} (f : α → Nat) : List α → Nat
  | [] => 0
  | a :: l => f a + sml f l
section SML
variable {α β : Type}
theorem sml_app {f : α → Nat} : ∀ (l1 l2 : List α), sml f (l1 ++ l2) = sml f l1 + sml f l2 := by
  intro l1
  induction l1 with
  | nil => intro l2; exact (Nat.zero_add _).symm
  | cons a l ih => intro l2; show f a + sml f (l ++ l2) = f a + sml f l + _; rw [ih]; omega
theorem sml_sub {f : α → Nat} {l1 l2 : List α} (h : l1.Sublist l2) : sml f l1 ≤ sml f l2 := by
  induction h with
  | slnil => exact Nat.le_refl _
  | cons a _ ih => exact Nat.le_trans ih (Nat.le_add_left _ _)
  | cons_cons a _ ih => exact Nat.add_le_add_left ih _
theorem sml_map {f : β → Nat} {g : α → β} : ∀ (l : List α), sml f (l.map g) = sml (fun a => f (g a)) l := by
  intro l
  induction l with
  | nil => rfl
  | cons a l ih => show f (g a) + _ = f (g a) + _; rw [ih]
theorem sml_flat {f : β → Nat} {g : α → List β} : ∀ (l : List α), sml f (l.flatMap g) = sml (fun a => sml f (g a)) l := by
  intro l
  induction l with
  | nil => rfl
  | cons a l ih => rw [List.flatMap_cons, sml_app, ih]; rfl
theorem sml_range {f : Nat → Nat} : ∀ n, sml f (List.range n) = sumN n f := by
  intro n
  induction n with
  | zero => rfl
  | succ n ih => rw [List.range_succ, sml_app, ih]; show _ + (f n + 0) = sumN n f + f n; omega
theorem sml_cong {f g : α → Nat} : ∀ (l : List α), (∀ a ∈ l, f a = g a) → sml f l = sml g l := by
  intro l
  induction l with
  | nil => intro _; rfl
  | cons a l ih =>
    intro h
    show f a + _ = g a + _
    rw [h a List.mem_cons_self, ih (fun b hb => h b (List.mem_cons_of_mem _ hb))]
theorem sml_le {f g : α → Nat} : ∀ (l : List α), (∀ a ∈ l, f a ≤ g a) → sml f l ≤ sml g l := by
  intro l
  induction l with
  | nil => intro _; exact Nat.le_refl _
  | cons a l ih =>
    intro h
    exact Nat.add_le_add (h a List.mem_cons_self) (ih (fun b hb => h b (List.mem_cons_of_mem _ hb)))
theorem sml_none {f : α → Nat} : ∀ (l : List α), (∀ a ∈ l, f a = 0) → sml f l = 0 := by
  intro l
  induction l with
  | nil => intro _; rfl
  | cons a l ih =>
    intro h
    show f a + _ = 0
    rw [h a List.mem_cons_self, ih (fun b hb => h b (List.mem_cons_of_mem _ hb))]
theorem sml_pos {f : α → Nat} : ∀ (l : List α), 0 < sml f l → ∃ a, a ∈ l ∧ 0 < f a := by
  intro l
  induction l with
  | nil => intro h; exact absurd h (Nat.lt_irrefl _)
  | cons a l ih =>
    intro h
    by_cases ha : 0 < f a
    · exact ⟨a, List.mem_cons_self, ha⟩
    · have h : 0 < f a + sml f l := h
      obtain ⟨b, h1, h2⟩ := ih (by omega)
      exact ⟨b, List.mem_cons_of_mem _ h1, h2⟩
theorem sml_mem {f : α → Nat} {a : α} : ∀ (l : List α), a ∈ l → f a ≤ sml f l := by
  intro l
  induction l with
  | nil => intro h; cases h
  | cons b l ih =>
    intro h
    rcases List.mem_cons.mp h with rfl | h
    · exact Nat.le_add_right _ _
    · exact Nat.le_trans (ih h) (Nat.le_add_left _ _)
theorem sumN_cons {g : Nat → Nat} : ∀ n, sumN (n + 1) g = g 0 + sumN n (fun i => g (i + 1)) := by
  intro n
  induction n with
  | zero => show 0 + g 0 = g 0 + 0; omega
  | succ n ih => show sumN (n + 1) g + g (n + 1) = g 0 + (sumN n (fun i => g (i + 1)) + g (n + 1)); rw [ih]; omega
theorem sml_get {f : α → Nat} {z : α} : ∀ (l : List α), sumN l.length (fun e => f (l.getD e z)) = sml f l := by
  intro l
  induction l with
  | nil => rfl
  | cons a l ih =>
    rw [List.length_cons, sumN_cons]
    show f a + sumN l.length (fun e => f (l.getD e z)) = f a + _
    rw [ih]
theorem flat_sub {f g : α → List β} : ∀ (l : List α), (∀ a ∈ l, (f a).Sublist (g a)) → (l.flatMap f).Sublist (l.flatMap g) := by
  intro l
  induction l with
  | nil => intro _; exact List.Sublist.refl _
  | cons a l ih =>
    intro h
    rw [List.flatMap_cons, List.flatMap_cons]
    exact List.Sublist.append (h a List.mem_cons_self) (ih fun b hb => h b (List.mem_cons_of_mem _ hb))
end SML
/-! runs -/
theorem addP_gsm {L : Lay} {Q : Nat → Nat} {i g : Nat} (hi : i ≤ lyc L) : gsm (addP L Q i g) (lyc (addP L Q i g)) = gsm L (lyc L) + g := by
  by_cases h : i = lyc L
  · have e : addP L Q i g = (lyc L + 1, updF (lyp L) i Q, updF (lyg L) i g) := if_pos h
    rw [e]
    show sumN (lyc L) (updF (lyg L) i g) + updF (lyg L) i g (lyc L) = _
    rw [sumN_cong (f := updF (lyg L) i g) (g := lyg L) (lyc L) (fun j hj => if_neg (show ¬ j = i by omega)), show updF (lyg L) i g (lyc L) = g from if_pos h.symm]
    rfl
  · have e : addP L Q i g = (lyc L, lyp L, updF (lyg L) i (lyg L i + g)) := if_neg h
    rw [e]
    show sumN (lyc L) (updF (lyg L) i (lyg L i + g)) = sumN (lyc L) (lyg L) + g
    have := sumN_up (f := lyg L) (e := i) (v := lyg L i + g) (lyc L) (by omega)
    have e2 : sumN (lyc L) (updF (lyg L) i (lyg L i + g)) = sumN (lyc L) (fun j => if j = i then lyg L i + g else lyg L j) := rfl
    rw [e2]; omega
theorem runL_gsm {n : Nat} {Lp : Lay} : ∀ (l : List (Nat × Nat × Nat)) (st st' : Lay × Edg), runL n Lp l st = some st' → gsm st'.1 (lyc st'.1) = gsm st.1 (lyc st.1) + sml (fun m => lyg Lp m.1) l := by
  intro l
  induction l with
  | nil => intro st st' h; cases h; rfl
  | cons m l ih =>
    intro st st' h
    have h : (amv n Lp m st).bind (runL n Lp l) = some st' := h
    unfold amv at h
    by_cases h40 : fxi n st.1 (mvd (lyp Lp m.1) m.2.1 m.2.2) = 40
    · rw [if_pos h40] at h; cases h
    · rw [if_neg h40, Option.bind_some] at h
      rw [ih _ _ h]
      show gsm (addP _ _ _ _) (lyc (addP _ _ _ _)) + _ = _ + (lyg Lp m.1 + _)
      rw [addP_gsm (fxi_spec.1)]
      omega
theorem runL_one {n : Nat} {Lp : Lay} : ∀ (l : List (Nat × Nat × Nat)) (st st' : Lay × Edg), (∀ m ∈ l, 1 ≤ lyg Lp m.1) → (∀ q, q < lyc st.1 → 1 ≤ lyg st.1 q) → runL n Lp l st = some st' → ∀ q, q < lyc st'.1 → 1 ≤ lyg st'.1 q := by
  intro l
  induction l with
  | nil => intro st st' _ h0 h; cases h; exact h0
  | cons m l ih =>
    intro st st' hm h0 h
    have h : (amv n Lp m st).bind (runL n Lp l) = some st' := h
    unfold amv at h
    by_cases h40 : fxi n st.1 (mvd (lyp Lp m.1) m.2.1 m.2.2) = 40
    · rw [if_pos h40] at h; cases h
    · rw [if_neg h40, Option.bind_some] at h
      refine ih _ _ (fun z hz => hm z (List.mem_cons_of_mem _ hz)) ?_ h
      intro q hq
      have g1 := hm m List.mem_cons_self
      generalize fxi n st.1 (mvd (lyp Lp m.1) m.2.1 m.2.2) = i at hq ⊢
      generalize mvd (lyp Lp m.1) m.2.1 m.2.2 = Q at hq ⊢
      have hq : q < lyc (addP st.1 Q i (lyg Lp m.1)) := hq
      show 1 ≤ lyg (addP st.1 Q i (lyg Lp m.1)) q
      by_cases e : i = lyc st.1
      · rw [show addP st.1 Q i (lyg Lp m.1) = (lyc st.1 + 1, updF (lyp st.1) i Q, updF (lyg st.1) i (lyg Lp m.1)) from if_pos e] at hq ⊢
        have hq : q < lyc st.1 + 1 := hq
        show 1 ≤ if q = i then lyg Lp m.1 else lyg st.1 q
        by_cases e2 : q = i
        · rw [if_pos e2]; exact g1
        · rw [if_neg e2]; exact h0 q (by omega)
      · rw [show addP st.1 Q i (lyg Lp m.1) = (lyc st.1, lyp st.1, updF (lyg st.1) i (lyg st.1 i + lyg Lp m.1)) from if_neg e] at hq ⊢
        have hq : q < lyc st.1 := hq
        show 1 ≤ if q = i then lyg st.1 i + lyg Lp m.1 else lyg st.1 q
        by_cases e2 : q = i
        · rw [if_pos e2]; omega
        · rw [if_neg e2]; exact h0 q hq
/-- what a run has reached -/
def RS (n : Nat) (Lp : Lay) (l : List (Nat × Nat × Nat)) (st : Lay × Edg) : Prop :=
  lyc st.1 ≤ 40 ∧ (∀ q, q < lyc st.1 → ∃ m, m ∈ l ∧ lyp st.1 q = mvd (lyp Lp m.1) m.2.1 m.2.2) ∧ (∀ m, m ∈ l → ∃ q, q < lyc st.1 ∧ eqP n (lyp st.1 q) (mvd (lyp Lp m.1) m.2.1 m.2.2) = true) ∧ ∀ q q', q' < lyc st.1 → q < q' → eqP n (lyp st.1 q) (lyp st.1 q') = false
theorem eqP_symm {n : Nat} {P Q : Nat → Nat} (h : eqP n P Q = true) : eqP n Q P = true := eqP_iff.mpr fun k hk => (eqP_iff.mp h k hk).symm
theorem eqP_trans {n : Nat} {P Q R : Nat → Nat} (h : eqP n P Q = true) (h2 : eqP n Q R = true) : eqP n P R = true := eqP_iff.mpr fun k hk => (eqP_iff.mp h k hk).trans (eqP_iff.mp h2 k hk)
theorem eqP_self {n : Nat} {P : Nat → Nat} : eqP n P P = true := eqP_iff.mpr fun _ _ => rfl
theorem RS.step {n : Nat} {Lp : Lay} {l : List (Nat × Nat × Nat)} {st st' : Lay × Edg} (h : RS n Lp l st) {m : Nat × Nat × Nat} (ha : amv n Lp m st = some st') : RS n Lp (l ++ [m]) st' := by
  obtain ⟨h1, h2, h3, h4⟩ := h
  unfold amv at ha
  by_cases h40 : fxi n st.1 (mvd (lyp Lp m.1) m.2.1 m.2.2) = 40
  · rw [if_pos h40] at ha; cases ha
  · rw [if_neg h40] at ha
    obtain ⟨f1, f2, f3⟩ := fxi_spec (n := n) (L := st.1) (Q := mvd (lyp Lp m.1) m.2.1 m.2.2)
    have ha := Option.some.inj ha
    rw [← ha]
    clear ha
    generalize hQ : mvd (lyp Lp m.1) m.2.1 m.2.2 = Q at h40 f1 f2 f3 ⊢
    generalize fxi n st.1 Q = i at h40 f1 f2 f3 ⊢
    by_cases e : i = lyc st.1
    · subst e
      have eA : addP st.1 Q (lyc st.1) (lyg Lp m.1) = (lyc st.1 + 1, updF (lyp st.1) (lyc st.1) Q, updF (lyg st.1) (lyc st.1) (lyg Lp m.1)) := if_pos rfl
      unfold RS
      dsimp only
      rw [eA]
      have old : ∀ q, q < lyc st.1 → updF (lyp st.1) (lyc st.1) Q q = lyp st.1 q := fun q hq => if_neg (by omega)
      have new : updF (lyp st.1) (lyc st.1) Q (lyc st.1) = Q := if_pos rfl
      refine ⟨by show lyc st.1 + 1 ≤ 40; omega, fun q hq => ?_, fun z hz => ?_, fun q q' hq' hlt => ?_⟩
      · have hq : q < lyc st.1 + 1 := hq
        show ∃ z, z ∈ l ++ [m] ∧ updF (lyp st.1) (lyc st.1) Q q = _
        by_cases eq : q = lyc st.1
        · exact ⟨m, List.mem_append_right _ List.mem_cons_self, by rw [eq]; exact new.trans hQ.symm⟩
        · obtain ⟨z, z1, z2⟩ := h2 q (by omega)
          exact ⟨z, List.mem_append_left _ z1, by rw [old q (by omega)]; exact z2⟩
      · show ∃ q, q < lyc st.1 + 1 ∧ eqP n (updF (lyp st.1) (lyc st.1) Q q) _ = true
        rcases List.mem_append.mp hz with hz | hz
        · obtain ⟨q, q1, q2⟩ := h3 z hz
          exact ⟨q, by omega, by rw [old q q1]; exact q2⟩
        · rw [List.mem_singleton.mp hz]
          exact ⟨lyc st.1, by omega, by rw [new, hQ]; exact eqP_self⟩
      · have hq' : q' < lyc st.1 + 1 := hq'
        show eqP n (updF (lyp st.1) (lyc st.1) Q q) (updF (lyp st.1) (lyc st.1) Q q') = false
        rw [old q (by omega)]
        by_cases eq : q' = lyc st.1
        · rw [eq, new]; exact f3 q (by omega)
        · rw [old q' (by omega)]; exact h4 q q' (by omega) hlt
    · have eA : addP st.1 Q i (lyg Lp m.1) = (lyc st.1, lyp st.1, updF (lyg st.1) i (lyg st.1 i + lyg Lp m.1)) := if_neg e
      unfold RS
      dsimp only
      rw [eA]
      refine ⟨h1, fun q hq => ?_, fun z hz => ?_, h4⟩
      · obtain ⟨z, z1, z2⟩ := h2 q hq
        exact ⟨z, List.mem_append_left _ z1, z2⟩
      · rcases List.mem_append.mp hz with hz | hz
        · exact h3 z hz
        · rw [List.mem_singleton.mp hz]
          exact ⟨i, by show i < lyc st.1; omega, by rw [hQ]; exact f2 (by omega)⟩
theorem RS.nil {n : Nat} {Lp : Lay} : RS n Lp [] (Ly0, Eg0) := ⟨Nat.zero_le _, fun q hq => absurd hq (Nat.not_lt_zero _), fun z hz => by (cases hz), fun q q' hq => absurd hq (Nat.not_lt_zero _)⟩
theorem RS.run {n : Nat} {Lp : Lay} : ∀ (l2 l : List (Nat × Nat × Nat)) (st st' : Lay × Edg), RS n Lp l st → runL n Lp l2 st = some st' → RS n Lp (l ++ l2) st' := by
  intro l2
  induction l2 with
  | nil => intro l st st' h hr; cases hr; rw [List.append_nil]; exact h
  | cons m l2 ih =>
    intro l st st' h hr
    have hr : (amv n Lp m st).bind (runL n Lp l2) = some st' := hr
    cases ha : amv n Lp m st with
    | none => rw [ha] at hr; cases hr
    | some s1 =>
      rw [ha, Option.bind_some] at hr
      have := ih _ _ _ (h.step ha) hr
      rwa [List.append_assoc] at this
/-- a run ends well if all that it reaches lies among forty positions -/
theorem runL_some {n : Nat} {Lp : Lay} {B : Nat → Nat → Nat} {k : Nat} (hk : k ≤ 40) : ∀ (l2 l : List (Nat × Nat × Nat)) (st : Lay × Edg), RS n Lp l st → (∀ m, m ∈ l ++ l2 → ∃ q, q < k ∧ eqP n (B q) (mvd (lyp Lp m.1) m.2.1 m.2.2) = true) → ∃ st', runL n Lp l2 st = some st' := by
  intro l2
  induction l2 with
  | nil => intro l st _ _; exact ⟨st, rfl⟩
  | cons m l2 ih =>
    intro l st h hB
    have hne : fxi n st.1 (mvd (lyp Lp m.1) m.2.1 m.2.2) ≠ 40 := by
      intro e
      obtain ⟨f1, f2, f3⟩ := fxi_spec (n := n) (L := st.1) (Q := mvd (lyp Lp m.1) m.2.1 m.2.2)
      obtain ⟨h1, h2, h3, h4⟩ := h
      have el : lyc st.1 = 40 := by omega
      have pick : ∀ j : Nat, ∃ q : Nat, j < 41 → q < k ∧ eqP n (B q) (if j < 40 then lyp st.1 j else mvd (lyp Lp m.1) m.2.1 m.2.2) = true := by
        intro j
        by_cases hj : j < 40
        · obtain ⟨z, z1, z2⟩ := h2 j (by omega)
          obtain ⟨q, q1, q2⟩ := hB z (List.mem_append_left _ z1)
          exact ⟨q, fun _ => ⟨q1, by rw [if_pos hj, z2]; exact q2⟩⟩
        · obtain ⟨q, q1, q2⟩ := hB m (List.mem_append_right _ List.mem_cons_self)
          exact ⟨q, fun _ => ⟨q1, by rw [if_neg hj]; exact q2⟩⟩
      obtain ⟨F, hF⟩ := Classical.axiomOfChoice pick
      have := pigeon k 41 F (fun i hi => (hF i hi).1) (fun i j hi hj eij => by
        have a := (hF i hi).2
        have b := (hF j hj).2
        rw [eij] at a
        have ab := eqP_trans (eqP_symm a) b
        have key : ∀ i j : Nat, j < 41 → i < j → eqP n (if i < 40 then lyp st.1 i else mvd (lyp Lp m.1) m.2.1 m.2.2) (if j < 40 then lyp st.1 j else mvd (lyp Lp m.1) m.2.1 m.2.2) = true → False := by
          intro i j hj hlt q
          rw [if_pos (show i < 40 by omega)] at q
          by_cases h40 : j < 40
          · rw [if_pos h40, h4 i j (by omega) hlt] at q; cases q
          · rw [if_neg h40, f3 i (by omega)] at q; cases q
        rcases Nat.lt_trichotomy i j with q | q | q
        · exact (key i j hj q ab).elim
        · exact q
        · exact (key j i hi q (eqP_symm ab)).elim)
      omega
    have ha : ∃ s1, amv n Lp m st = some s1 := ⟨_, if_neg hne⟩
    obtain ⟨s1, ha⟩ := ha
    obtain ⟨st', hr⟩ := ih (l ++ [m]) s1 (h.step ha) (fun z hz => hB z (by rwa [List.append_assoc] at hz))
    refine ⟨st', ?_⟩
    show (amv n Lp m st).bind (runL n Lp l2) = some st'
    rw [ha]; exact hr
theorem stepL_spec {c n col : Nat} {N : Nat → Int32} {Lp : Lay} {st : Lay × Edg} (h : stepL c n N col Lp = some st) : RS n Lp (evs c n N col Lp (lyc Lp)) st ∧ gsm st.1 (lyc st.1) = sml (fun m => lyg Lp m.1) (evs c n N col Lp (lyc Lp)) := by
  have a := RS.run _ [] _ _ RS.nil h
  have b := runL_gsm _ _ _ h
  rw [show gsm (Ly0, Eg0).1 (lyc (Ly0, Eg0).1) = 0 from rfl, Nat.zero_add] at b
  exact ⟨a, b⟩
/-! a note that says less -/
theorem tgtB_cong {c n col f t : Nat} {P : Nat → Nat} {N N' : Nat → Int32} (h : ∀ j, 3 ≤ j → N j = N' j) : tgtB c n N P col f t = tgtB c n N' P col f t := by
  unfold tgtB
  rw [h 3 (by decide), h 4 (by decide), h 5 (by decide), h 6 (by decide)]
theorem lstT_cong {c n col f k : Nat} {P : Nat → Nat} {N N' : Nat → Int32} (h : ∀ j, 3 ≤ j → N j = N' j) : lstT c n N P col f k = lstT c n N' P col f k := by
  have e : (fun t => tgtB c n N P col f t) = fun t => tgtB c n N' P col f t := funext fun t => tgtB_cong h
  unfold lstT
  rw [e]
theorem mvl_sub {c n col : Nat} {P : Nat → Nat} {N N' : Nat → Int32} (h : ∀ j, 3 ≤ j → N j = N' j) (ho : ∀ f, orgB c N P f = true → orgB c N' P f = true) : (mvl c n N P col).Sublist (mvl c n N' P col) := by
  unfold mvl lstF
  refine flat_sub _ (fun f _ => ?_)
  by_cases a : (own (P f) col && orgB c N P f) = true
  · rw [Bool.and_eq_true] at a
    rw [if_pos (by rw [Bool.and_eq_true]; exact a), if_pos (by rw [Bool.and_eq_true]; exact ⟨a.1, ho f a.2⟩), lstT_cong h]
    exact List.Sublist.refl _
  · rw [if_neg a]; exact List.nil_sublist _
theorem evs_sub {c n col k : Nat} {Lp : Lay} {N N' : Nat → Int32} (h : ∀ j, 3 ≤ j → N j = N' j) (ho : ∀ P f, orgB c N P f = true → orgB c N' P f = true) : (evs c n N col Lp k).Sublist (evs c n N' col Lp k) := by
  unfold evs
  refine flat_sub _ (fun p _ => ?_)
  unfold evP
  exact List.Sublist.map _ (mvl_sub h (ho _))
theorem step_wide {c n col : Nat} {Lp : Lay} {N N' : Nat → Int32} (h : ∀ j, 3 ≤ j → N j = N' j) (ho : ∀ P f, orgB c N P f = true → orgB c N' P f = true) {st st' : Lay × Edg} (h1 : stepL c n N col Lp = some st) (h2 : stepL c n N' col Lp = some st') : gsm st.1 (lyc st.1) ≤ gsm st'.1 (lyc st'.1) := by
  rw [(stepL_spec h1).2, (stepL_spec h2).2]
  exact sml_sub (evs_sub h ho)
