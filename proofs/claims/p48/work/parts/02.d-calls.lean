/-! ===== arrays, ends, calls, loops, bodies ===== -/
section JARR
variable {X : Cx} {cc : ByteArray} {own : String} {ret : Option FieldType} {nL fr lo pc : Nat} {L L' : List (Nat × Value)} {st : List Value} {G G' : Mem}
theorem va_P1 {D : va_G} {cl : List vw_C} {q : Nat × va_E} {H : Heap} (h : va_at D cl q H) : va_P D cl [q] H := fun j x hx => by
  have hj : j < 1 := (List.getElem?_eq_some_iff.mp hx).1
  rw [show j = 0 by omega] at hx
  cases hx
  exact h
theorem j_iald (ok : OK X cc own ret nL fr lo) {a : Nat} {i v : Int32} (hv : gA G 1 a i = some v) (hd : decode cc pc = .ok (.iaload, 1)) (kk : J X nL (pc + 1) L (.int v :: st) G) : J X nL pc L (.int i :: .ref (X.B + a) :: st) G := by
  obtain ⟨⟨ht, hb⟩, hv⟩ := ite_get hv
  intro H locs ls hR hcl hl
  have hcell := hR.2.2.2.2.2.2.1 a (by omega)
  rw [cellE_int (Or.inl rfl) ht] at hcell
  refine va_iald ok.1 ok.2.1 ok.k (va_P1 hcell) 0 0 rfl rfl (vpin_of hb) hd ?_
  rw [show mI G a i.toNatClampNeg = v from hv]
  exact kk H locs ls hR hcl hl
theorem j_bald (ok : OK X cc own ret nL fr lo) {a : Nat} {i v : Int32} (hv : gA G 2 a i = some v) (hd : decode cc pc = .ok (.baload, 1)) (kk : J X nL (pc + 1) L (.int v :: st) G) : J X nL pc L (.int i :: .ref (X.B + a) :: st) G := by
  obtain ⟨⟨ht, hb⟩, hv⟩ := ite_get hv
  intro H locs ls hR hcl hl
  have hcell := hR.2.2.2.2.2.2.1 a (by omega)
  rw [cellE_int (Or.inr (Or.inl rfl)) ht] at hcell
  refine va_bald ok.1 ok.2.1 ok.k (va_P1 hcell) 0 1 rfl rfl (vpin_of hb) hd ?_
  rw [show mI G a i.toNatClampNeg = v from hv]
  exact kk H locs ls hR hcl hl
theorem j_zald (ok : OK X cc own ret nL fr lo) {a : Nat} {i v : Int32} (hv : gA G 3 a i = some v) (hd : decode cc pc = .ok (.baload, 1)) (kk : J X nL (pc + 1) L (.int v :: st) G) : J X nL pc L (.int i :: .ref (X.B + a) :: st) G := by
  obtain ⟨⟨ht, hb⟩, hv⟩ := ite_get hv
  intro H locs ls hR hcl hl
  have hcell := hR.2.2.2.2.2.2.1 a (by omega)
  rw [cellE_int (Or.inr (Or.inr rfl)) ht] at hcell
  refine va_zald ok.1 ok.2.1 ok.k (va_P1 hcell) 0 2 rfl rfl (vpin_of hb) hd ?_
  rw [show mI G a i.toNatClampNeg = v from hv]
  exact kk H locs ls hR hcl hl
theorem j_lald (ok : OK X cc own ret nL fr lo) {a : Nat} {i : Int32} {v : Int64} (hv : gJ G a i = some v) (hd : decode cc pc = .ok (.laload, 1)) (kk : J X nL (pc + 1) L (.long v :: st) G) : J X nL pc L (.int i :: .ref (X.B + a) :: st) G := by
  obtain ⟨⟨ht, hb⟩, hv⟩ := ite_get hv
  intro H locs ls hR hcl hl
  have hcell := hR.2.2.2.2.2.2.1 a (by omega)
  rw [cellE_long ht] at hcell
  refine va_lald ok.1 ok.2.1 ok.k (va_P1 hcell) 0 3 rfl rfl (vpin_of hb) hd ?_
  rw [show mJ G a i.toNatClampNeg = v from hv]
  exact kk H locs ls hR hcl hl
theorem j_aald (ok : OK X cc own ret nL fr lo) {a v t : Nat} (htt : t = 6 ∨ t = 7) {i : Int32} (hv : gQ G t a i = some v) (hd : decode cc pc = .ok (.aaload, 1)) (kk : J X nL (pc + 1) L (.ref (X.B + v) :: st) G) : J X nL pc L (.int i :: .ref (X.B + a) :: st) G := by
  obtain ⟨⟨ht, hb⟩, hv⟩ := ite_get2 hv
  intro H locs ls hR hcl hl
  have hcell := hR.2.2.2.2.2.2.1 a (by omega)
  rw [cellE_ref htt ht] at hcell
  have e : (fun j => (mP G a j).map (fun x => X.B + x)) i.toNatClampNeg = some (X.B + v) := by
    show (mP G a i.toNatClampNeg).map _ = _
    rw [hv]; rfl
  rcases htt with rfl | rfl
  · refine va_aldq (C := RX1) ok.1 ok.2.1 ok.k (va_P1 hcell) 0 4 rfl rfl (vpin_of hb) hd ?_
    show W _ _ _ _ _ _ _ _ _ _ _ _ _ _ _ (F0 _ _ _ (va_rf ((fun j => (mP G a j).map (fun x => X.B + x)) i.toNatClampNeg) :: _))
    rw [e]
    exact kk H locs ls hR hcl hl
  · refine va_aldq (C := RX3) ok.1 ok.2.1 ok.k (va_P1 hcell) 0 5 rfl rfl (vpin_of hb) hd ?_
    show W _ _ _ _ _ _ _ _ _ _ _ _ _ _ _ (F0 _ _ _ (va_rf ((fun j => (mP G a j).map (fun x => X.B + x)) i.toNatClampNeg) :: _))
    rw [e]
    exact kk H locs ls hR hcl hl
theorem gL_some {a : Nat} {v : Int32} (h : gL G a = some v) : (mt G a = 1 ∨ mt G a = 2 ∨ mt G a = 3 ∨ mt G a = 5 ∨ mt G a = 6 ∨ mt G a = 7) ∧ Int32.ofNat (mn G a) = v := ite_get h
theorem j_alen (ok : OK X cc own ret nL fr lo) {a : Nat} {v : Int32} (hv : gL G a = some v) (hd : decode cc pc = .ok (.arraylength, 1)) (kk : J X nL (pc + 1) L (.int v :: st) G) : J X nL pc L (.ref (X.B + a) :: st) G := by
  obtain ⟨ht, hv⟩ := gL_some hv
  intro H locs ls hR hcl hl
  have hcell := hR.2.2.2.2.2.2.1 a (by omega)
  have k := kk H locs ls hR hcl hl
  rcases ht with ht | ht | ht | ht | ht | ht
  · rw [cellE_int (Or.inl rfl) ht] at hcell
    exact va_alen ok.1 ok.2.1 ok.k (va_P1 hcell) 0 0 rfl rfl hv hd k
  · rw [cellE_int (Or.inr (Or.inl rfl)) ht] at hcell
    exact va_alen ok.1 ok.2.1 ok.k (va_P1 hcell) 0 1 rfl rfl hv hd k
  · rw [cellE_int (Or.inr (Or.inr rfl)) ht] at hcell
    exact va_alen ok.1 ok.2.1 ok.k (va_P1 hcell) 0 2 rfl rfl hv hd k
  · rw [cellE_long ht] at hcell
    exact va_alen ok.1 ok.2.1 ok.k (va_P1 hcell) 0 3 rfl rfl hv hd k
  · rw [cellE_ref (Or.inl rfl) ht] at hcell
    exact va_alen ok.1 ok.2.1 ok.k (va_P1 hcell) 0 4 rfl rfl hv hd k
  · rw [cellE_ref (Or.inr rfl) ht] at hcell
    exact va_alen ok.1 ok.2.1 ok.k (va_P1 hcell) 0 5 rfl rfl hv hd k
/-- behind a write -/
theorem J.after {H H' : Heap} {locs : List Loc} {ls : Array Slot} {z : Loc} (kk : J X nL pc L st G') (hR : X.rel G' H') (e2 : H'.size = H.size) {a : Nat} {c0 c1 : Cell} (h0 : H[X.B + a]? = some c0) (h1 : H'[X.B + a]? = some c1) (hs : c1.slots.size = c0.slots.size) (e3 : ∀ q : Nat, q ≠ X.B + a → H'[q]? = H[q]?) (hcl : ∀ q ∈ locs, X.B ≤ q.base) (hz : X.B ≤ z.base) (hl : lv_has ls nL L) :
    W X.p X.l X.e X.R X.s X.m X.args X.below X.meth X.c H' (locs ++ [z]) (H.size - X.s.heap.size) (sums X.s.heap.size H) X.Q (F0 X.m pc ls st) := by
  have e4 : sums X.s.heap.size H' = sums X.s.heap.size H := sums_congr e2 (fun q => by
    by_cases hq : q = X.B + a
    · rw [hq, h1, h0]; simp [hs]
    · rw [e3 q hq])
  have := kk H' (locs ++ [z]) ls hR (fun q hq => by
    rcases List.mem_append.mp hq with h | h
    · exact hcl q h
    · rw [List.mem_singleton.mp h]; exact hz) hl
  rw [e4, e2] at this
  exact this
theorem setSlot_size (c : Cell) (k : Nat) (v : Value) : (c.setSlot k v).slots.size = c.slots.size := by simp [Cell.setSlot]
theorem cellI_set {cA : ClassId} {n : Nat} {f f' : Nat → Int32} {k : Nat} {v : Int32} (h : f' = fun j => if j = k then v else f j) : (vp_cell cA (n, .inl f)).setSlot k (.int v) = vp_cell cA (n, .inl f') := by
  subst h
  rw [vp_cell_i, vp_cell_i, arrV_store]
  congr 1
  funext q
  by_cases hq : q = k <;> simp [updV, hq]
/-- a write into a row of ints -/
theorem j_astI (ok : OK X cc own ret nL fr lo) {t a k : Nat} {v : Int32} (htt : t = 1 ∨ t = 2 ∨ t = 3) (ht : mt G a = t) (hfit : t = 2 → fits .byte (.int v) = true) (kk : J X nL pc L st (sI G a k v)) {H H' : Heap} {locs : List Loc} {ls : Array Slot} {z : Loc} (hR : X.rel G H) (hcl : ∀ q ∈ locs, X.B ≤ q.base) (hz : X.B ≤ z.base) (hl : lv_has ls nL L)
    (e1 : H'[X.B + a]? = some ((vp_cell (X.V.cy t) (mn G a, .inl (mI G a))).setSlot k (.int v))) (e2 : H'.size = H.size) (e3 : ∀ q : Nat, q ≠ X.B + a → H'[q]? = H[q]?) :
    W X.p X.l X.e X.R X.s X.m X.args X.below X.meth X.c H' (locs ++ [z]) (H.size - X.s.heap.size) (sums X.s.heap.size H) X.Q (F0 X.m pc ls st) := by
  have hcell := hR.2.2.2.2.2.2.1 a (by omega)
  rw [cellE_int htt ht] at hcell
  have hcell : H[X.B + a]? = some (vp_cell (X.V.cy t) (mn G a, .inl (mI G a))) := hcell
  have g : mI (sI G a k v) a = fun j => if j = k then v else mI G a j := u2_eq
  refine J.after kk (Rel.write hR rfl rfl rfl rfl rfl (fun b hb => cellE_congr rfl rfl (u2_ne hb) rfl rfl) hcell e1 (setSlot_size _ _ _) e2 e3 (fun _ => ?_) (fun b hb j => ?_)) e2 hcell e1 (setSlot_size _ _ _) e3 hcl hz hl
  · rw [cellE_int htt (show mt (sI G a k v) a = t from ht)]
    show H'[X.B + a]? = some (vp_cell _ _)
    rw [e1, cellI_set g]
    rfl
  · show fits .byte (.int (u2 (mI G) a k v b j)) = true
    unfold u2
    by_cases h : b = a ∧ j = k
    · rw [if_pos h]
      exact hfit (by rw [← ht, ← h.1]; exact hb)
    · rw [if_neg h]
      exact hR.2.2.2.2.2.2.2 b hb j
theorem j_iast (ok : OK X cc own ret nL fr lo) {a : Nat} {i v : Int32} (hv : pA G a i v = some G') (hd : decode cc pc = .ok (.iastore, 1)) (kk : J X nL (pc + 1) L st G') : J X nL pc L (.int v :: .int i :: .ref (X.B + a) :: st) G := by
  obtain ⟨⟨ht, hb⟩, rfl⟩ := ite_get hv
  intro H locs ls hR hcl hl
  have hcell := hR.2.2.2.2.2.2.1 a (by omega)
  rw [cellE_int (Or.inl rfl) ht] at hcell
  exact W.iast ok.1 ok.2.1 hcell ((ok.k.2 0 _ rfl).1 _ (fun j => .int (mI G a j))) (fun q => by cases q) (by show ¬ (i < 0 ∨ (arrV _ _ _).slots.size ≤ _); rw [arrV_size]; exact vpin_of hb) rfl rfl hd fun H1 e z oq => j_astI ok (Or.inl rfl) ht (fun h => by cases h) kk hR hcl (Nat.le_add_right _ _) hl e z oq
theorem nar_byte (v : Int32) : narrow .byte (.int v) = .int v.toInt8.toInt32 := by rfl
theorem j_bast (ok : OK X cc own ret nL fr lo) {a : Nat} {i v : Int32} (hv : pB G a i v = some G') (hd : decode cc pc = .ok (.bastore, 1)) (kk : J X nL (pc + 1) L st G') : J X nL pc L (.int v :: .int i :: .ref (X.B + a) :: st) G := by
  obtain ⟨⟨ht, hb⟩, rfl⟩ := ite_get hv
  intro H locs ls hR hcl hl
  have hcell := hR.2.2.2.2.2.2.1 a (by omega)
  rw [cellE_int (Or.inr (Or.inl rfl)) ht] at hcell
  exact W.bast ok.1 ok.2.1 hcell ((ok.k.2 1 _ rfl).1 _ (fun j => .int (mI G a j))) (fun q => by cases q) (by show ¬ (i < 0 ∨ (arrV _ _ _).slots.size ≤ _); rw [arrV_size]; exact vpin_of hb) rfl rfl hd fun H1 e z oq => j_astI ok (Or.inr (Or.inl rfl)) ht (fun h => pk_fb v) kk hR hcl (Nat.le_add_right _ _) hl (by rw [nar_byte] at e; exact e) z oq
theorem j_zast (ok : OK X cc own ret nL fr lo) {a : Nat} {i v : Int32} (hv : pT G a i v = some G') (hd : decode cc pc = .ok (.bastore, 1)) (kk : J X nL (pc + 1) L st G') : J X nL pc L (.int v :: .int i :: .ref (X.B + a) :: st) G := by
  obtain ⟨⟨ht, hb, h01⟩, rfl⟩ := ite_get hv
  intro H locs ls hR hcl hl
  have hcell := hR.2.2.2.2.2.2.1 a (by omega)
  rw [cellE_int (Or.inr (Or.inr rfl)) ht] at hcell
  exact W.zast ok.1 ok.2.1 hcell ((ok.k.2 2 _ rfl).1 _ (fun j => .int (mI G a j))) (fun q => by cases q) (by show ¬ (i < 0 ∨ (arrV _ _ _).slots.size ≤ _); rw [arrV_size]; exact vpin_of hb) rfl rfl hd fun H1 e z oq => j_astI ok (Or.inr (Or.inr rfl)) ht (fun h => by cases h) kk hR hcl (Nat.le_add_right _ _) hl (by rw [(nar01 h01).1] at e; exact e) z oq
theorem j_last (ok : OK X cc own ret nL fr lo) {a : Nat} {i : Int32} {v : Int64} (hv : pJ G a i v = some G') (hd : decode cc pc = .ok (.lastore, 1)) (kk : J X nL (pc + 1) L st G') : J X nL pc L (.long v :: .int i :: .ref (X.B + a) :: st) G := by
  obtain ⟨⟨ht, hb⟩, rfl⟩ := ite_get hv
  intro H locs ls hR hcl hl
  have hcell := hR.2.2.2.2.2.2.1 a (by omega)
  rw [cellE_long ht] at hcell
  have hcell : H[X.B + a]? = some (vp_cell (X.V.cy 5) (mn G a, .inr (.inl (mJ G a)))) := hcell
  refine W.last ok.1 ok.2.1 hcell ((ok.k.2 3 _ rfl).1 _ (fun j => .long (mJ G a j))) (fun q => by cases q) (by show ¬ (i < 0 ∨ (arrV _ _ _).slots.size ≤ _); rw [arrV_size]; exact vpin_of hb) rfl rfl hd fun H1 e z oq => ?_
  refine J.after kk (Rel.write hR rfl rfl rfl rfl rfl (fun b hb => cellE_congr rfl rfl rfl (u2_ne hb) rfl) hcell e (setSlot_size _ _ _) z oq (fun _ => ?_) (fun b hb j => hR.2.2.2.2.2.2.2 b hb j)) z hcell e (setSlot_size _ _ _) oq hcl (Nat.le_add_right _ _) hl
  rw [cellE_long (show mt (sJ G a i.toNatClampNeg v) a = 5 from ht)]
  show H1[X.B + a]? = some (vp_cell _ _)
  rw [e, vp_cell_l, vp_cell_l, arrV_store]
  congr 2
  funext q
  show updV _ i.toNatClampNeg _ q = Value.long (u2 (mJ G) a i.toNatClampNeg v a q)
  by_cases hq : q = i.toNatClampNeg
  · subst hq; simp [updV, u2]
  · simp [updV, u2, hq]
theorem j_aast (ok : OK X cc own ret nL fr lo) {t to ci : Nat} {r : vw_C} (htt : (t = 6 ∧ to = 11 ∧ ci = 1) ∨ (t = 7 ∧ to = 13 ∧ ci = 3)) {a v : Nat} {i : Int32} (hv : pQ G t to a i v = some G') (hd : decode cc pc = .ok (.aastore, 1)) (kk : J X nL (pc + 1) L st G') : J X nL pc L (.ref (X.B + v) :: .int i :: .ref (X.B + a) :: st) G := by
  obtain ⟨⟨ht, hto, hb⟩, rfl⟩ := ite_get hv
  intro H locs ls hR hcl hl
  have ht0 : mt G a ≠ 0 := by omega
  have hcell := hR.2.2.2.2.2.2.1 a ht0
  have hcv := hR.2.2.2.2.2.2.1 v (by omega)
  have hfin : ∀ (H1 : Heap) (z : Loc), X.B ≤ z.base → (t = 6 ∨ t = 7) → H[X.B + a]? = some (vp_cell (X.V.cy t) (mn G a, .inr (.inr (.inr (.inr (fun j => (mP G a j).map (fun x => X.B + x))))))) → H1[X.B + a]? = some ((vp_cell (X.V.cy t) (mn G a, .inr (.inr (.inr (.inr (fun j => (mP G a j).map (fun x => X.B + x))))))).setSlot i.toNatClampNeg (.ref (X.B + v))) → H1.size = H.size → (∀ q, q ≠ X.B + a → H1[q]? = H[q]?) →
      W X.p X.l X.e X.R X.s X.m X.args X.below X.meth X.c H1 (locs ++ [z]) (H.size - X.s.heap.size) (sums X.s.heap.size H) X.Q (F0 X.m (pc + 1) ls st) := by
    intro H1 z hz h67 hc0 e z1 oq
    refine J.after kk (Rel.write hR rfl rfl rfl rfl rfl (fun b hb => cellE_congr rfl rfl rfl rfl (u2_ne hb)) hc0 e (setSlot_size _ _ _) z1 oq (fun _ => ?_) (fun b hb j => hR.2.2.2.2.2.2.2 b hb j)) z1 hc0 e (setSlot_size _ _ _) oq hcl hz hl
    rw [cellE_ref h67 (show mt (sP G a i.toNatClampNeg (some v)) a = t from ht)]
    show H1[X.B + a]? = some (vp_cell _ _)
    rw [e, vp_cell_q, vp_cell_q, arrV_store]
    congr 2
    funext q
    show updV _ i.toNatClampNeg _ q = va_rf ((u2 (mP G) a i.toNatClampNeg (some v) a q).map _)
    by_cases hq : q = i.toNatClampNeg
    · subst hq; simp [updV, u2, va_rf]
    · simp [updV, u2, hq, va_rf]
  rcases htt with ⟨rfl, rfl, rfl⟩ | ⟨rfl, rfl, rfl⟩
  · rw [cellE_ref (Or.inl rfl) ht] at hcell
    rw [cellE_obj (ci := 1) hto] at hcv
    obtain ⟨r', hr', cellV, g1, g2, g3, -⟩ := hcv
    have hcls := (ok.k.1 1 _ rfl).2
    obtain ⟨kA, comp, k1, k2, k3, -⟩ := (ok.k.2 4 _ rfl).2
    have hcomp : comp = X.V.D.1 1 := Option.some.inj (k3.symm.trans hcls.1)
    subst hcomp
    obtain ⟨kC, hkC, -⟩ := hcls.2
    exact W.aast ok.1 ok.2.1 hcell (fun q h => by cases h) (fun h => by cases h) k1 k2 rfl hkC ⟨by have := hb.1; exact fun q => (vpin_of hb) (Or.inl q), by show _ < (arrV _ _ _).slots.size; rw [arrV_size]; exact inb_lt hb⟩ g1 (fun q h => by rw [g3] at h; cases h) (by rw [g2]; exact hkC) (by rw [g2]; exact va_assign hcls) rfl rfl hd fun H1 e z oq => hfin H1 _ (Nat.le_add_right _ _) (Or.inl rfl) hcell e z oq
  · rw [cellE_ref (Or.inr rfl) ht] at hcell
    rw [cellE_obj (ci := 3) hto] at hcv
    obtain ⟨r', hr', cellV, g1, g2, g3, -⟩ := hcv
    have hcls := (ok.k.1 3 _ rfl).2
    obtain ⟨kA, comp, k1, k2, k3, -⟩ := (ok.k.2 5 _ rfl).2
    have hcomp : comp = X.V.D.1 3 := Option.some.inj (k3.symm.trans hcls.1)
    subst hcomp
    obtain ⟨kC, hkC, -⟩ := hcls.2
    exact W.aast ok.1 ok.2.1 hcell (fun q h => by cases h) (fun h => by cases h) k1 k2 rfl hkC ⟨by have := hb.1; exact fun q => (vpin_of hb) (Or.inl q), by show _ < (arrV _ _ _).slots.size; rw [arrV_size]; exact inb_lt hb⟩ g1 (fun q h => by rw [g3] at h; cases h) (by rw [g2]; exact hkC) (by rw [g2]; exact va_assign hcls) rfl rfl hd fun H1 e z oq => hfin H1 _ (Nat.le_add_right _ _) (Or.inr rfl) hcell e z oq
end JARR
