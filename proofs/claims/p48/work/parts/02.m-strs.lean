/-! ===== heap Strings, StringBuilders: bytes, rows of String constants, inherited calls ===== -/
section JSTR
variable {X : Cx} {cc : ByteArray} {own : String} {ret : Option FieldType} {nL fr lo pc : Nat} {L L' : List (Nat × Value)} {st : List Value} {G G' : Mem}
theorem getD_fit {r : List Int32} (h : ∀ v ∈ r, fits .byte (.int v) = true) (j : Nat) : fits .byte (.int (r.getD j 0)) = true := by
  by_cases hj : j < r.length
  · rw [List.getD_eq_getElem?_getD, List.getElem?_eq_getElem hj, Option.getD_some]
    exact h _ (List.getElem_mem _)
  · rw [List.getD_eq_getElem?_getD, List.getElem?_eq_none (Nat.le_of_not_lt hj)]; rfl
theorem sbyt_all : ∀ r ∈ strByt, ∀ v ∈ r, fits .byte (.int v) = true := by decide +kernel
theorem sbyt_fit (a j : Nat) : fits .byte (.int ((strByt.getD a []).getD j 0)) = true := by
  refine getD_fit ?_ j
  by_cases ha : a < strByt.length
  · rw [List.getD_eq_getElem?_getD, List.getElem?_eq_getElem ha, Option.getD_some]
    exact sbyt_all _ (List.getElem_mem _)
  · rw [List.getD_eq_getElem?_getD, List.getElem?_eq_none (Nat.le_of_not_lt ha)]
    intro v hv; cases hv
theorem cpy_fit {f g : Nat → Int32} (hf : ∀ j, fits .byte (.int (f j)) = true) (hg : ∀ j, fits .byte (.int (g j)) = true) (p q n j : Nat) : fits .byte (.int (va_cpy f g p q n j)) = true := by
  unfold va_cpy
  split
  · exact hf _
  · exact hg _
def cpB (G : Mem) (a : Nat) (p : Int32) (b : Nat) (q n : Int32) : Option Mem := if mt G a = 2 ∧ mt G b = 2 ∧ 0 ≤ p.toInt ∧ 0 ≤ q.toInt ∧ 0 ≤ n.toInt ∧ p.toNatClampNeg + n.toNatClampNeg ≤ mn G a ∧ q.toNatClampNeg + n.toNatClampNeg ≤ mn G b then some (wI G (ur (mI G) b (va_cpy (mI G a) (mI G b) p.toNatClampNeg q.toNatClampNeg n.toNatClampNeg))) else none
def cpS (G : Mem) (a : Nat) (p : Int32) (b : Nat) (q n : Int32) : Option Mem := if a < strN ∧ mt G b = 2 ∧ 0 ≤ p.toInt ∧ 0 ≤ q.toInt ∧ 0 ≤ n.toInt ∧ p.toNatClampNeg + n.toNatClampNeg ≤ strLen.getD a 0 ∧ q.toNatClampNeg + n.toNatClampNeg ≤ mn G b then some (wI G (ur (mI G) b (va_cpy (fun j => (strByt.getD a []).getD j 0) (mI G b) p.toNatClampNeg q.toNatClampNeg n.toNatClampNeg))) else none
theorem k_cpB (ok : OK X cc own ret nL fr lo) {index : Nat} (w1 : Cond.methodLink own index arraycopyName ∈ WT) (hf : 1 ≤ fr) (hlo : 60 ≤ lo) (hr : (st.map fun v => v.category).sum ≤ 8) {a b : Nat} {p q n : Int32} (hv : cpB G a p b q n = some G') (hd : decode cc pc = .ok (.invokestatic index, 3)) (kk : J X nL (pc + 3) L st G') : J X nL pc L (.int n :: .int q :: .ref (X.B + b) :: .int p :: .ref (X.B + a) :: st) G := by
  obtain ⟨⟨ha, hb, h1, h2, h3, h4, h5⟩, rfl⟩ := ite_get hv
  have h1 := i_nn h1
  have h2 := i_nn h2
  have h3 := i_nn h3
  intro H locs ls hR hcl hl T hT S
  have hc0 := hR.2.2.2.2.2.2.1 a (by omega)
  rw [cellE_int (Or.inr (Or.inl rfl)) ha] at hc0
  have hc0 : H[X.B + a]? = some (vp_cell (X.V.cy 2) (mn G a, .inl (mI G a))) := hc0
  have hc1 := hR.2.2.2.2.2.2.1 b (by omega)
  rw [cellE_int (Or.inr (Or.inl rfl)) hb] at hc1
  have hc1 : H[X.B + b]? = some (vp_cell (X.V.cy 2) (mn G b, .inl (mI G b))) := hc1
  have hts := ok.2.2.2.2.1
  have hR2 : X.R = rmOf fr lo X.V X.G0 := ok.2.2.2.2.2.2.2.1
  have nn : ∀ z : Int32, ¬ z < 0 → z.toInt = (z.toNatClampNeg : Int) := by
    intro z hz
    have hz0 : (0 : Int) ≤ z.toInt := by
      have := Int32.not_lt.mp hz
      simpa using Int32.le_iff_toInt_le.mp this
    show z.toInt = ((z.toInt.toNat : Nat) : Int)
    omega
  obtain ⟨-, k0, hk0, cm0, hkk0⟩ := (ok.k.2 1 _ rfl).1 (mn G a) (fun j => .int (mI G a j))
  obtain ⟨vm', S', step⟩ := S.arraycopy ok.1 ok.2.2.2.1 (hts _ w1) (hts _ wcp_n) (hts _ wcp_s) (hts _ wcp_i) (src := X.B + a) (dst := X.B + b) (cs := vp_cell (X.V.cy 2) (mn G a, .inl (mI G a))) (cd := vp_cell (X.V.cy 2) (mn G b, .inl (mI G b))) (srcPos := p) (destPos := q) (n := n) (by rw [hT]; exact hc0) (by rw [hT]; exact hc1)
    (fun _ h => by cases h) (fun _ h => by cases h) (fun h => by cases h) (fun h => by cases h) hk0 hk0 hkk0 hkk0 (by simp [refKind]) h1 h2 h3
    (by rw [nn p h1, nn n h3]; show ¬ _ > ((arrV (X.V.cy 2) (mn G a) (fun j => .int (mI G a j))).slots.size : Int); rw [arrV_size]; omega)
    (by rw [nn q h2, nn n h3]; show ¬ _ > ((arrV (X.V.cy 2) (mn G b) (fun j => .int (mI G b j))).slots.size : Int); rw [arrV_size]; omega)
    (fun vm₁ _ i hi => by
      have e : (vp_cell (X.V.cy 2) (mn G a, .inl (mI G a))).slots.getD (p.toNatClampNeg + i) .null = .int (mI G a (p.toNatClampNeg + i)) := by
        show (arrV (X.V.cy 2) (mn G a) (fun j => .int (mI G a j))).slots.getD _ _ = _
        rw [Array.getD_eq_getD_getElem?, arrV_read _ _ (by omega)]
        rfl
      refine ⟨?_, ?_⟩
      · rw [e]; first | rfl | exact hR.2.2.2.2.2.2.2 a ha _
      · rw [e]; exact trivial)
    (g := F0 X.m pc ls (.int n :: .int q :: .ref (X.B + b) :: .int p :: .ref (X.B + a) :: st)) rfl (by rw [hl.1]; exact ok.2.2.1.symm) (rest := st) rfl (by rw [ok.2.1]; exact hd) (by rw [hR2]; exact hf) (by rw [hR2]; show 2 * 0 + _ + _ ≤ lo; have h9 := wcp_w; omega)
  have e1 : copied (vp_cell (X.V.cy 2) (mn G a, .inl (mI G a))) (vp_cell (X.V.cy 2) (mn G b, .inl (mI G b))) p q n = vp_cell (X.V.cy 2) (mn G b, .inl (va_cpy (mI G a) (mI G b) p.toNatClampNeg q.toNatClampNeg n.toNatClampNeg)) := va_copied (fun z => .int z) (X.V.cy 2) (X.V.cy 2) (mI G a) (mI G b) h4
  rw [e1] at S' step
  have hl1 : X.B + b < H.size := (Array.getElem?_eq_some_iff.mp hc1).1
  obtain ⟨H1, hH1⟩ : ∃ z, z = H.setIfInBounds (X.B + b) (vp_cell (X.V.cy 2) (mn G b, .inl (va_cpy (mI G a) (mI G b) p.toNatClampNeg q.toNatClampNeg n.toNatClampNeg))) := ⟨_, rfl⟩
  have hheap : ((T.setVm vm').setCell (X.B + b) (vp_cell (X.V.cy 2) (mn G b, .inl (va_cpy (mI G a) (mI G b) p.toNatClampNeg q.toNatClampNeg n.toNatClampNeg)))).heap = H1 := by rw [hH1, ← hT]; rfl
  have eb : H1[X.B + b]? = some (vp_cell (X.V.cy 2) (mn G b, .inl (va_cpy (mI G a) (mI G b) p.toNatClampNeg q.toNatClampNeg n.toNatClampNeg))) := by rw [hH1]; simp [Array.getElem?_setIfInBounds, hl1]
  have ez : H1.size = H.size := by rw [hH1]; simp
  have eq : ∀ x : Nat, x ≠ X.B + b → H1[x]? = H[x]? := fun x hx => by rw [hH1]; simp [Array.getElem?_setIfInBounds, Ne.symm hx]
  have es : (vp_cell (X.V.cy 2) (mn G b, .inl (va_cpy (mI G a) (mI G b) p.toNatClampNeg q.toNatClampNeg n.toNatClampNeg))).slots.size = (vp_cell (X.V.cy 2) (mn G b, .inl (mI G b))).slots.size := by
    rw [vp_cell_i, vp_cell_i, arrV_size, arrV_size]
  have hrel : X.rel (wI G (ur (mI G) b (va_cpy (mI G a) (mI G b) p.toNatClampNeg q.toNatClampNeg n.toNatClampNeg))) H1 := by
    refine Rel.write hR rfl rfl rfl rfl rfl (fun c hc => cellE_congr rfl rfl (ur_ne hc) rfl rfl) hc1 eb es ez eq (fun _ => ?_) (fun c hc j => ?_)
    · rw [cellE_int (Or.inr (Or.inl rfl)) (show mt (wI G (ur (mI G) b (va_cpy (mI G a) (mI G b) p.toNatClampNeg q.toNatClampNeg n.toNatClampNeg))) b = 2 from hb)]
      show H1[X.B + b]? = some (vp_cell _ _)
      rw [eb]
      show some (vp_cell _ (mn G b, _)) = some (vp_cell _ (mn G b, .inl (ur (mI G) b _ b)))
      rw [ur_eq]
    · show fits .byte (.int (ur (mI G) b _ c j)) = true
      by_cases hcb : c = b
      · rw [hcb, ur_eq]
        exact cpy_fit (hR.2.2.2.2.2.2.2 a ha) (hR.2.2.2.2.2.2.2 b hb) _ _ _ _
      · rw [ur_ne hcb]
        exact hR.2.2.2.2.2.2.2 c hc j
  have hfin := kk H1 (locs ++ (((vp_cell (X.V.cy 2) (mn G a, .inl (mI G a))).stretch p.toNatClampNeg n.toNatClampNeg).zipIdx).map fun (z : Value × Nat) => (⟨X.B + b, q.toNatClampNeg + z.2⟩ : Loc)) ls hrel (fun x hx => by
    rcases List.mem_append.mp hx with h | h
    · exact hcl x h
    · obtain ⟨z, -, rfl⟩ := List.mem_map.mp h
      exact Nat.le_add_right _ _) hl
  have e4 : sums X.s.heap.size H1 = sums X.s.heap.size H := sums_congr ez (fun x => by
    by_cases hx : x = X.B + b
    · rw [hx, eb, hc1]; simp [es]
    · rw [eq x hx])
  rw [e4, ez] at hfin
  obtain ⟨t, a1, b1⟩ := hfin _ hheap S'
  exact ⟨t, step t a1, b1⟩
theorem k_cpS (ok : OK X cc own ret nL fr lo) {index : Nat} (w1 : Cond.methodLink own index arraycopyName ∈ WT) (hf : 1 ≤ fr) (hlo : 60 ≤ lo) (hr : (st.map fun v => v.category).sum ≤ 8) {a b : Nat} {p q n : Int32} (hv : cpS G a p b q n = some G') (hd : decode cc pc = .ok (.invokestatic index, 3)) (kk : J X nL (pc + 3) L st G') : J X nL pc L (.int n :: .int q :: .ref (X.B + b) :: .int p :: .ref (X.V.sb a) :: st) G := by
  obtain ⟨⟨ha, hb, h1, h2, h3, h4, h5⟩, rfl⟩ := ite_get hv
  obtain ⟨cs, t1, t2, t3, t4, t5, t6, t7⟩ := ((sv_S ok).2.2.1 a ha).2.2.2
  have h1 := i_nn h1
  have h2 := i_nn h2
  have h3 := i_nn h3
  intro H locs ls hR hcl hl T hT S
  have hc0 : H[X.V.sb a]? = some cs := old_get hR t1
  have hc1 := hR.2.2.2.2.2.2.1 b (by omega)
  rw [cellE_int (Or.inr (Or.inl rfl)) hb] at hc1
  have hc1 : H[X.B + b]? = some (vp_cell (X.V.cy 2) (mn G b, .inl (mI G b))) := hc1
  have hts := ok.2.2.2.2.1
  have hR2 : X.R = rmOf fr lo X.V X.G0 := ok.2.2.2.2.2.2.2.1
  have nn : ∀ z : Int32, ¬ z < 0 → z.toInt = (z.toNatClampNeg : Int) := by
    intro z hz
    have hz0 : (0 : Int) ≤ z.toInt := by
      have := Int32.not_lt.mp hz
      simpa using Int32.le_iff_toInt_le.mp this
    show z.toInt = ((z.toInt.toNat : Nat) : Int)
    omega
  obtain ⟨hs6, k0, hk0, cm0, hkk0⟩ := t2
  obtain ⟨-, k1, hk1, cm1, hkk1⟩ := (ok.k.2 1 _ rfl).1 (mn G b) (fun j => .int (mI G b j))
  obtain ⟨vm', S', step⟩ := S.arraycopy ok.1 ok.2.2.2.1 (hts _ w1) (hts _ wcp_n) (hts _ wcp_s) (hts _ wcp_i) (src := X.V.sb a) (dst := X.B + b) (cs := cs) (cd := vp_cell (X.V.cy 2) (mn G b, .inl (mI G b))) (srcPos := p) (destPos := q) (n := n) (by rw [hT]; exact hc0) (by rw [hT]; exact hc1)
    hs6 (fun _ h => by cases h) t3 (fun h => by cases h) hk0 hk1 hkk0 hkk1 (by simp [refKind]) h1 h2 h3
    (by rw [nn p h1, nn n h3]; omega)
    (by rw [nn q h2, nn n h3]; show ¬ _ > ((arrV (X.V.cy 2) (mn G b) (fun j => .int (mI G b j))).slots.size : Int); rw [arrV_size]; omega)
    (fun vm₁ _ i hi => by
      have e : cs.slots.getD (p.toNatClampNeg + i) .null = .int ((strByt.getD a []).getD (p.toNatClampNeg + i) 0) := by
        rw [Array.getD_eq_getD_getElem?, t6 _ (by omega)]
        rfl
      refine ⟨?_, ?_⟩
      · rw [e]; first | rfl | exact sbyt_fit a _
      · rw [e]; exact trivial)
    (g := F0 X.m pc ls (.int n :: .int q :: .ref (X.B + b) :: .int p :: .ref (X.V.sb a) :: st)) rfl (by rw [hl.1]; exact ok.2.2.1.symm) (rest := st) rfl (by rw [ok.2.1]; exact hd) (by rw [hR2]; exact hf) (by rw [hR2]; show 2 * 0 + _ + _ ≤ lo; have h9 := wcp_w; omega)
  have e1 : copied cs (vp_cell (X.V.cy 2) (mn G b, .inl (mI G b))) p q n = vp_cell (X.V.cy 2) (mn G b, .inl (va_cpy (fun j => (strByt.getD a []).getD j 0) (mI G b) p.toNatClampNeg q.toNatClampNeg n.toNatClampNeg)) := va_copiedX (fun z => .int z) cs (X.V.cy 2) (fun j => (strByt.getD a []).getD j 0) (mI G b) t6 h4
  rw [e1] at S' step
  have hl1 : X.B + b < H.size := (Array.getElem?_eq_some_iff.mp hc1).1
  obtain ⟨H1, hH1⟩ : ∃ z, z = H.setIfInBounds (X.B + b) (vp_cell (X.V.cy 2) (mn G b, .inl (va_cpy (fun j => (strByt.getD a []).getD j 0) (mI G b) p.toNatClampNeg q.toNatClampNeg n.toNatClampNeg))) := ⟨_, rfl⟩
  have hheap : ((T.setVm vm').setCell (X.B + b) (vp_cell (X.V.cy 2) (mn G b, .inl (va_cpy (fun j => (strByt.getD a []).getD j 0) (mI G b) p.toNatClampNeg q.toNatClampNeg n.toNatClampNeg)))).heap = H1 := by rw [hH1, ← hT]; rfl
  have eb : H1[X.B + b]? = some (vp_cell (X.V.cy 2) (mn G b, .inl (va_cpy (fun j => (strByt.getD a []).getD j 0) (mI G b) p.toNatClampNeg q.toNatClampNeg n.toNatClampNeg))) := by rw [hH1]; simp [Array.getElem?_setIfInBounds, hl1]
  have ez : H1.size = H.size := by rw [hH1]; simp
  have eq : ∀ x : Nat, x ≠ X.B + b → H1[x]? = H[x]? := fun x hx => by rw [hH1]; simp [Array.getElem?_setIfInBounds, Ne.symm hx]
  have es : (vp_cell (X.V.cy 2) (mn G b, .inl (va_cpy (fun j => (strByt.getD a []).getD j 0) (mI G b) p.toNatClampNeg q.toNatClampNeg n.toNatClampNeg))).slots.size = (vp_cell (X.V.cy 2) (mn G b, .inl (mI G b))).slots.size := by
    rw [vp_cell_i, vp_cell_i, arrV_size, arrV_size]
  have hrel : X.rel (wI G (ur (mI G) b (va_cpy (fun j => (strByt.getD a []).getD j 0) (mI G b) p.toNatClampNeg q.toNatClampNeg n.toNatClampNeg))) H1 := by
    refine Rel.write hR rfl rfl rfl rfl rfl (fun c hc => cellE_congr rfl rfl (ur_ne hc) rfl rfl) hc1 eb es ez eq (fun _ => ?_) (fun c hc j => ?_)
    · rw [cellE_int (Or.inr (Or.inl rfl)) (show mt (wI G (ur (mI G) b (va_cpy (fun j => (strByt.getD a []).getD j 0) (mI G b) p.toNatClampNeg q.toNatClampNeg n.toNatClampNeg))) b = 2 from hb)]
      show H1[X.B + b]? = some (vp_cell _ _)
      rw [eb]
      show some (vp_cell _ (mn G b, _)) = some (vp_cell _ (mn G b, .inl (ur (mI G) b _ b)))
      rw [ur_eq]
    · show fits .byte (.int (ur (mI G) b _ c j)) = true
      by_cases hcb : c = b
      · rw [hcb, ur_eq]
        exact cpy_fit (sbyt_fit a) (hR.2.2.2.2.2.2.2 b hb) _ _ _ _
      · rw [ur_ne hcb]
        exact hR.2.2.2.2.2.2.2 c hc j
  have hfin := kk H1 (locs ++ ((cs.stretch p.toNatClampNeg n.toNatClampNeg).zipIdx).map fun (z : Value × Nat) => (⟨X.B + b, q.toNatClampNeg + z.2⟩ : Loc)) ls hrel (fun x hx => by
    rcases List.mem_append.mp hx with h | h
    · exact hcl x h
    · obtain ⟨z, -, rfl⟩ := List.mem_map.mp h
      exact Nat.le_add_right _ _) hl
  have e4 : sums X.s.heap.size H1 = sums X.s.heap.size H := sums_congr ez (fun x => by
    by_cases hx : x = X.B + b
    · rw [hx, eb, hc1]; exact congrArg some es
    · rw [eq x hx])
  rw [e4, ez] at hfin
  obtain ⟨t, a1, b1⟩ := hfin _ hheap S'
  exact ⟨t, step t a1, b1⟩

theorem k_putB (ok : OK X cc own ret nL fr lo) {C : String} {T : u_T} {N ci k index : Nat} (f : FL own C T N ci k index false) {ty0 : Nat → FieldType} (g : FP C T N ty0) (hi : ty0 k = .byte) (hfin : (T k).2.2.2 = false ∨ ((T k).2.2.2 = true ∧ X.meth.name = "<init>" ∧ (T k).1 = own)) {a : Nat} {v : Int32} (hv : pZ G (ci + 10) a k v = some G') (hd : decode cc pc = .ok (.putfield index, 3)) (kk : J X nL (pc + 3) L st G') : J X nL pc L (.int v :: .ref (X.B + a) :: st) G := by
  obtain ⟨⟨ht, h01⟩, rfl⟩ := ite_get hv
  exact j_put ok f.1 ty0 g.1 g.2 f.2.1 k f.2.2.1 f.2.2.2.1 hfin f.2.2.2.2 ht (by rw [hi]; rcases h01 with rfl | rfl <;> rfl) (by rw [hi]; rcases h01 with rfl | rfl <;> rfl) (sI_ok rfl) hd kk
theorem j_anull (ok : OK X cc own ret nL fr lo) (hd : decode cc pc = .ok (.aconst_null, 1)) (k : J X nL (pc + 1) L (.null :: st) G) : J X nL pc L st G := fun H locs ls hR hc hl => lv_null ok.1 ok.2.1 hd (k H locs ls hR hc hl)
theorem j_ifnn (ok : OK X cc own ret nL fr lo) {x : Nat} {off : Int} {tgt : Nat} (hd : decode cc pc = .ok (.ifnonnull off, 3)) (ht : (pc : Int) + off = (tgt : Int)) (k : J X nL tgt L st G) : J X nL pc L (.ref x :: st) G := fun H locs ls hR hc hl => lv_ifnonnull ok.1 ok.2.1 hd ht (k H locs ls hR hc hl)
/-- a row of String constants -/
theorem j_aalds (ok : OK X cc own ret nL fr lo) {a v : Nat} {i : Int32} (hv : gQS G a i = some v) (hd : decode cc pc = .ok (.aaload, 1)) (kk : J X nL (pc + 1) L (.ref (X.V.sa v) :: st) G) : J X nL pc L (.int i :: .ref (X.B + a) :: st) G := by
  obtain ⟨⟨ht, hb⟩, hv⟩ := ite_get2 hv
  intro H locs ls hR hcl hl
  have hcell := hR.2.2.2.2.2.2.1 a (by omega)
  rw [cellE_sref ht] at hcell
  refine va_aldq (C := RJ0) ok.1 ok.2.1 ok.k (va_P1 hcell) 0 6 rfl rfl (vpin_of hb) hd ?_
  show W _ _ _ _ _ _ _ _ _ _ _ _ _ _ _ (F0 _ _ _ (va_rf ((mP G a i.toNatClampNeg).map (fun i => X.V.cy (100 + i))) :: _))
  rw [hv]
  exact kk H locs ls hR hcl hl
theorem j_aasts (ok : OK X cc own ret nL fr lo) {a v : Nat} {i : Int32} (hv : pQS G a i v = some G') (hd : decode cc pc = .ok (.aastore, 1)) (kk : J X nL (pc + 1) L st G') : J X nL pc L (.ref (X.V.sa v) :: .int i :: .ref (X.B + a) :: st) G := by
  obtain ⟨⟨ht, hto, hb⟩, rfl⟩ := ite_get hv
  intro H locs ls hR hcl hl
  have hcell := hR.2.2.2.2.2.2.1 a (by omega)
  rw [cellE_sref ht] at hcell
  have hc0 : H[X.B + a]? = some (vp_cell (X.V.cy 8) (mn G a, .inr (.inr (.inr (.inr (fun j => (mP G a j).map (fun i => X.V.cy (100 + i)))))))) := hcell
  obtain ⟨cellV, g1, g2, g3, -⟩ := ((sv_S ok).2.2.1 v hto).1
  obtain ⟨kA, comp, k1, k2, k3, -⟩ := (ok.k.2 6 _ rfl).2
  obtain ⟨kE, hkE, -⟩ := Vm.findClass_spec k3
  have hcls := (ok.k.1 7 _ rfl).2
  have e1 : cellV.cls = X.V.D.1 7 := Option.some.inj (g3.symm.trans hcls.1)
  have e2 : comp = X.V.D.1 7 := Option.some.inj (k3.symm.trans hcls.1)
  subst e2
  exact W.aast ok.1 ok.2.1 hc0 (fun q h => by cases h) (fun h => by cases h) k1 k2 rfl hkE ⟨by have := hb.1; exact fun q => (vpin_of hb) (Or.inl q), by show _ < (arrV _ _ _).slots.size; rw [arrV_size]; exact inb_lt hb⟩ (old_get hR g1) (fun q h => by rw [h] at g2; cases g2) (by rw [e1]; exact hkE) (by rw [e1]; exact va_assign hcls) rfl rfl hd fun H1 e z oq => by
    refine J.after kk (Rel.write hR rfl rfl rfl rfl rfl (fun b hb => cellE_congr rfl rfl rfl rfl (u2_ne hb)) hc0 e (setSlot_size _ _ _) z oq (fun _ => ?_) (fun b hb j => hR.2.2.2.2.2.2.2 b hb j)) z hc0 e (setSlot_size _ _ _) oq hcl (Nat.le_add_right _ _) hl
    rw [cellE_sref (show mt (sP G a i.toNatClampNeg (some v)) a = 8 from ht)]
    show H1[X.B + a]? = some (vp_cell _ _)
    rw [e, vp_cell_q, vp_cell_q, arrV_store]
    congr 2
    funext q
    show updV _ i.toNatClampNeg _ q = va_rf ((u2 (mP G) a i.toNatClampNeg (some v) a q).map _)
    by_cases hq : q = i.toNatClampNeg
    · subst hq; simp [updV, u2, va_rf]
    · simp [updV, u2, hq, va_rf]
end JSTR
