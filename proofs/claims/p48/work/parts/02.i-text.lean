/-! ===== String constants; copies ===== -/
theorem wcp_n : Cond.native arraycopyName ∈ WT := wt_in 350 (by decide +kernel) (by decide +kernel)
theorem wcp_s : Cond.static arraycopyName ∈ WT := wt_in 349 (by decide +kernel) (by decide +kernel)
theorem wcp_i : Cond.initialized "java/lang/System" ∈ WT := wt_in 44 (by decide +kernel) (by decide +kernel)
theorem wcp_w : nativeFrameWords "java/lang/System" "arraycopy" 5 + 11 ≤ 52 := by decide +kernel
section JTEXT
variable {X : Cx} {cc : ByteArray} {own : String} {ret : Option FieldType} {nL fr lo pc : Nat} {L L' : List (Nat × Value)} {st : List Value} {G G' : Mem}
def slen (i : Nat) : Option Int32 := if i < strN then some (Int32.ofNat (strLen.getD i 0)) else none
def sbyt (i : Nat) (j : Int32) : Option Int32 := if i < strN ∧ inb j (strLen.getD i 0) then some ((strByt.getD i []).getD j.toNatClampNeg 0) else none
def ckS {α : Type} (i : Nat) (x : Option α) : Option α := if i < strN then x else none
theorem ckS_some {α : Type} {i : Nat} {x : Option α} {v : α} (h : ckS i x = some v) : i < strN ∧ x = some v := ite_get2 h
def rc {α : Type} (v : Int32) (x : Option α) : Option α := if 0 ≤ v.toInt ∧ v.toInt ≤ 65535 then x else none
theorem rc_some {α : Type} {v : Int32} {x : Option α} {r : α} (h : rc v x = some r) : (0 ≤ v.toInt ∧ v.toInt ≤ 65535) ∧ x = some r := ite_get2 h
theorem sv_S (ok : OK X cc own ret nL fr lo) : svS X.V X.s := ok.2.2.2.2.2.2.2.2.2.1.2.2.2.2.1
theorem old_get {H : Heap} (hR : X.rel G H) {a : Nat} {cell : Cell} (h : X.V.H0[a]? = some cell) : H[a]? = some cell := by
  rw [kept0 hR a (Array.getElem?_eq_some_iff.mp h).1]; exact h
theorem k_str (ok : OK X cc own ret nL fr lo) {ix : Nat} {tx : String} {i : Nat} (hs : (own, ix, tx, i) ∈ strTab) (hd : decode cc pc = .ok (.ldc ix, 2)) (k : J X nL (pc + 2) L (.ref (X.V.sa i) :: st) G) : J X nL pc L st G := fun H locs ls hR hc hl => va_ldcS ok.1 ok.2.1 ok.2.2.2.1 (sv_str ok hs) hd (k H locs ls hR hc hl)
theorem k_gets1 (ok : OK X cc own ret nL fr lo) {index : Nat} (w1 : Cond.fieldLink own index "java/lang/String" "COMPACT_STRINGS" "Z" ∈ WT) (hd : decode cc pc = .ok (.getstatic index, 3)) (kk : J X nL (pc + 3) L (.int 1 :: st) G) : J X nL pc L st G := by
  intro H locs ls hR hc hl
  obtain ⟨cf, kf, fi, f, a, cell, h1, h2, h3, h4, h5, h6, h7, h8⟩ := (sv_S ok).1
  exact W.gets ok.1 ok.2.1 ok.2.2.2.1 (ok.2.2.2.2.1 _ w1) h1 h2 h3 h4 (old_get hR h5) (fun e => by rw [e] at h6; cases h6) h7 rfl hd (kk H locs ls hR hc hl)
theorem k_getsF (ok : OK X cc own ret nL fr lo) {index : Nat} (w1 : Cond.fieldLink own index "jdk/internal/util/Preconditions" "SIOOBE_FORMATTER" "Ljava/util/function/BiFunction;" ∈ WT) (hd : decode cc pc = .ok (.getstatic index, 3)) (kk : J X nL (pc + 3) L (va_rf X.V.fm :: st) G) : J X nL pc L st G := by
  intro H locs ls hR hc hl
  obtain ⟨cf, kf, fi, f, a, cell, h1, h2, h3, h4, h5, h6, h7, h8⟩ := (sv_S ok).2.1
  exact W.gets ok.1 ok.2.1 ok.2.2.2.1 (ok.2.2.2.2.1 _ w1) h1 h2 h3 h4 (old_get hR h5) (fun e => by rw [e] at h6; cases h6) h7 rfl hd (kk H locs ls hR hc hl)
theorem k_sget (ok : OK X cc own ret nL fr lo) {index i : Nat} {n d : String} {v : Value} (hi : va_OF "java/lang/String" n d v (X.V.sa i) (fun q => X.V.B ≤ q) X.s X.V.H0) (w1 : Cond.fieldLink own index "java/lang/String" n d ∈ WT) (hd : decode cc pc = .ok (.getfield index, 3)) (kk : J X nL (pc + 3) L (v :: st) G) : J X nL pc L (.ref (X.V.sa i) :: st) G := by
  intro H locs ls hR hc hl
  obtain ⟨cf, k, fi, f, cell, h1, h2, h3, h4, h5, h6⟩ := hi
  exact W.getf ok.1 ok.2.1 ok.2.2.2.1 (ok.2.2.2.2.1 _ w1) h1 h2 (old_get hR h3) h4 (v := v) h5 rfl rfl hd (kk H locs ls hR hc hl)
theorem k_sval (ok : OK X cc own ret nL fr lo) {index i : Nat} (hi : i < strN) (w1 : Cond.fieldLink own index "java/lang/String" "value" "[B" ∈ WT) (hd : decode cc pc = .ok (.getfield index, 3)) (kk : J X nL (pc + 3) L (.ref (X.V.sb i) :: st) G) : J X nL pc L (.ref (X.V.sa i) :: st) G := k_sget ok ((sv_S ok).2.2.1 i hi).2.2.1 w1 hd kk
theorem k_scod (ok : OK X cc own ret nL fr lo) {index i : Nat} (hi : i < strN) (w1 : Cond.fieldLink own index "java/lang/String" "coder" "B" ∈ WT) (hd : decode cc pc = .ok (.getfield index, 3)) (kk : J X nL (pc + 3) L (.int 0 :: st) G) : J X nL pc L (.ref (X.V.sa i) :: st) G := k_sget ok ((sv_S ok).2.2.1 i hi).2.1 w1 hd kk
theorem k_salen (ok : OK X cc own ret nL fr lo) {i : Nat} {v : Int32} (hv : slen i = some v) (hd : decode cc pc = .ok (.arraylength, 1)) (kk : J X nL (pc + 1) L (.int v :: st) G) : J X nL pc L (.ref (X.V.sb i) :: st) G := by
  obtain ⟨hi, hv⟩ := ite_get hv
  intro H locs ls hR hc hl
  obtain ⟨cell, h1, h2, h3, h4, h5, h6, h7⟩ := ((sv_S ok).2.2.1 i hi).2.2.2
  exact W.alen (n := v) ok.1 ok.2.1 (old_get hR h1) h2 (by rw [← hv]; exact h5) rfl rfl hd (kk H locs ls hR hc hl)
theorem k_sald (ok : OK X cc own ret nL fr lo) {i : Nat} {j v : Int32} (hv : sbyt i j = some v) (hd : decode cc pc = .ok (.baload, 1)) (kk : J X nL (pc + 1) L (.int v :: st) G) : J X nL pc L (.int j :: .ref (X.V.sb i) :: st) G := by
  obtain ⟨⟨hi, hb⟩, hv⟩ := ite_get hv
  intro H locs ls hR hc hl
  obtain ⟨cell, h1, h2, h3, h4, h5, h6, h7⟩ := ((sv_S ok).2.2.1 i hi).2.2.2
  refine W.bald (v := .int v) ok.1 ok.2.1 (old_get hR h1) h2 h3 ?_ (by rw [h6 _ (inb_lt hb)]; show some (Value.int _) = _; rw [hv]) rfl rfl hd (kk H locs ls hR hc hl)
  have := inb_lt hb
  intro q
  rcases q with q | q
  · exact vpin_of hb (Or.inl q)
  · omega
theorem j_i2c (ok : OK X cc own ret nL fr lo) {x : Int32} (hd : decode cc pc = .ok (.i2c, 1)) (k : J X nL (pc + 1) L (.int ((x.toUInt32 % 65536).toInt32) :: st) G) : J X nL pc L (.int x :: st) G := fun H locs ls hR hc hl => lv_i2c ok.1 ok.2.1 hd rfl (k H locs ls hR hc hl)
theorem nar_char {v : Int32} (h : 0 ≤ v.toInt ∧ v.toInt ≤ 65535) : narrow .char (.int v) = .int v := by
  have h1 : ¬ v < 0 := by
    intro h2
    have := Int32.lt_iff_toInt_lt.mp h2
    have e : (0 : Int32).toInt = 0 := by decide
    omega
  obtain ⟨j, hj, rfl⟩ := nI_of h1
  have h3 : (nI j).toInt = (j : Int) := nI_toInt hj
  exact (pk_charN (by omega)).1
theorem j_cret (ok : OK X cc own ret nL fr lo) {v : Int32} (hr : ret = some .char) (h : 0 ≤ v.toInt ∧ v.toInt ≤ 65535) (hd : decode cc pc = .ok (.ireturn, 1)) (he : Ends X (.inl (some (.int v))) G) : J X nL pc L [.int v] G := by
  subst hr
  intro H locs ls hR hcl hl
  refine w_fit ok fun hS => ?_
  obtain ⟨f1, f2⟩ := ok_fit ok hR hS
  rw [he.2]
  exact vx_ret (W.widen (by omega) (by omega) (W.zret ok.1 ok.2.1 ok.2.2.2.2.2.1 (nar_char h) (fun t ht hW => ⟨_, rfl, rfl, by rw [ht]; exact hR⟩) hcl hd ok.2.2.2.2.2.2.1))
theorem j_bret (ok : OK X cc own ret nL fr lo) {v : Int32} (hr : ret = some .byte) (h : v = 0 ∨ v = 1) (hd : decode cc pc = .ok (.ireturn, 1)) (he : Ends X (.inl (some (.int v))) G) : J X nL pc L [.int v] G := by
  subst hr
  intro H locs ls hR hcl hl
  refine w_fit ok fun hS => ?_
  obtain ⟨f1, f2⟩ := ok_fit ok hR hS
  rw [he.2]
  exact vx_ret (W.widen (by omega) (by omega) (W.zret ok.1 ok.2.1 ok.2.2.2.2.2.1 (by rcases h with rfl | rfl <;> rfl) (fun t ht hW => ⟨_, rfl, rfl, by rw [ht]; exact hR⟩) hcl hd ok.2.2.2.2.2.2.1))
/-- a call of a String constant's method -/
def CLT (own : String) (index : Nat) (y : MethodName) (bytes : ByteArray) (maxL : Nat) (ret' : Option FieldType) (n : Nat) : Prop := Cond.methodLink own index y ∈ WT ∧ Cond.instanceMethod y ∈ WT ∧ Cond.selects RJ0 y y ∈ WT ∧ Cond.initialized RJ0 ∈ WT ∧ Cond.code y bytes maxL ret' ∈ WT ∧ (y.cls = RJ0 ∧ y.cls ≠ "java/lang/invoke/MethodHandle" ∧ y.cls ≠ "java/lang/invoke/VarHandle" ∧ (parseMethodDescriptor y.desc).map (fun d => d.parameters.length) = some n)
theorem k_T1 (ok : OK X cc own ret nL fr lo) {y : MethodName} {bytes : ByteArray} {maxL index n fr' lo' : Nat} {ret' : Option FieldType} (f : CLT own index y bytes maxL ret' n) (hf : fr' + 1 ≤ fr ∧ 8 + (maxL + 11) + lo' ≤ lo) {i : Nat} (As : List Value) {stk : List Value} {v : Value} {G1 : Mem} (hi : i < strN)
    (hn : As.length = n) (hs : stk = As.reverse ++ .ref (X.V.sa i) :: st) (hr : (st.map fun v => v.category).sum ≤ 8) (hM : Mx X.l y bytes maxL ret' fr' lo' X.V (.ref (X.V.sa i) :: As) G (.inl (some v)) G1) (hd : decode cc pc = .ok (.invokevirtual index, 3))
    (kv : J X nL (pc + 3) L (v :: st) G1) : J X nL pc L stk G := by
  obtain ⟨w1, w2, w3, w4, w5, hy⟩ := f
  intro H locs ls hR hcl hl
  have hgi : GoodIn WT (wsV own index RJ0 y (Cond.code y bytes maxL ret' :: WT)) := fun w hw => by
    rcases List.mem_append.mp hw with h | h
    · simp only [List.mem_cons, List.not_mem_nil, or_false] at h
      rcases h with rfl | rfl | rfl | rfl
      · exact wt_good w1
      · exact wt_good w2
      · exact wt_good w3
      · exact wt_good w4
    · exact wt_all w5 w h
  have hR2 : X.R = rmOf fr lo X.V X.G0 := ok.2.2.2.2.2.2.2.1
  have hrecv : ∃ cell : Cell, H[X.V.sa i]? = some cell ∧ cell.vm.isStatics = false ∧ X.s.vm.findClass RJ0 = some cell.cls := by
    obtain ⟨cell, h1, h2, h3, -⟩ := ((sv_S ok).2.2.1 i hi).1
    exact ⟨cell, old_get hR h1, h2, h3⟩
  refine w_fit ok fun hS => ?_
  obtain ⟨f1, f2⟩ := ok_fit ok hR hS
  exact j_fin ok hR hcl hl (vx_runV (ok_fix ok) hM (cwV n ok.2.2.2.2.1 hgi rfl rfl rfl hy (by rw [hR2]; exact hf)) ⟨pc_blind, hrecv, pc_at ok hR⟩ rfl hn hl.1 hs (lv_room hr) hd (by rw [hR2]; exact ⟨Nat.le_of_eq f1, Nat.le_of_eq f2⟩)) (fun w e => by cases e; exact kv) (fun k e => by cases e)
/-! copies -/
def cpI (G : Mem) (a : Nat) (p : Int32) (b : Nat) (q n : Int32) : Option Mem := if mt G a = 1 ∧ mt G b = 1 ∧ 0 ≤ p.toInt ∧ 0 ≤ q.toInt ∧ 0 ≤ n.toInt ∧ p.toNatClampNeg + n.toNatClampNeg ≤ mn G a ∧ q.toNatClampNeg + n.toNatClampNeg ≤ mn G b then some (wI G (ur (mI G) b (va_cpy (mI G a) (mI G b) p.toNatClampNeg q.toNatClampNeg n.toNatClampNeg))) else none
def cpJ (G : Mem) (a : Nat) (p : Int32) (b : Nat) (q n : Int32) : Option Mem := if mt G a = 5 ∧ mt G b = 5 ∧ 0 ≤ p.toInt ∧ 0 ≤ q.toInt ∧ 0 ≤ n.toInt ∧ p.toNatClampNeg + n.toNatClampNeg ≤ mn G a ∧ q.toNatClampNeg + n.toNatClampNeg ≤ mn G b then some (wJ G (ur (mJ G) b (va_cpy (mJ G a) (mJ G b) p.toNatClampNeg q.toNatClampNeg n.toNatClampNeg))) else none
theorem ur_ne {α : Type} {f : Nat → Nat → α} {a b : Nat} {r : Nat → α} (h : b ≠ a) : ur f a r b = f b := by funext j; unfold ur; rw [if_neg h]
theorem ur_eq {α : Type} {f : Nat → Nat → α} {a : Nat} {r : Nat → α} : ur f a r a = r := by funext j; unfold ur; rw [if_pos rfl]
theorem i_nn {z : Int32} (h : 0 ≤ z.toInt) : ¬ z < 0 := fun h2 => by
  have := Int32.lt_iff_toInt_lt.mp h2
  have e : (0 : Int32).toInt = 0 := by decide
  omega
theorem k_cpI (ok : OK X cc own ret nL fr lo) {index : Nat} (w1 : Cond.methodLink own index arraycopyName ∈ WT) (hf : 1 ≤ fr) (hlo : 60 ≤ lo) (hr : (st.map fun v => v.category).sum ≤ 8) {a b : Nat} {p q n : Int32} (hv : cpI G a p b q n = some G') (hd : decode cc pc = .ok (.invokestatic index, 3)) (kk : J X nL (pc + 3) L st G') : J X nL pc L (.int n :: .int q :: .ref (X.B + b) :: .int p :: .ref (X.B + a) :: st) G := by
  obtain ⟨⟨ha, hb, h1, h2, h3, h4, h5⟩, rfl⟩ := ite_get hv
  have h1 := i_nn h1
  have h2 := i_nn h2
  have h3 := i_nn h3
  intro H locs ls hR hcl hl T hT S
  have hc0 := hR.2.2.2.2.2.2.1 a (by omega)
  rw [cellE_int (Or.inl rfl) ha] at hc0
  have hc0 : H[X.B + a]? = some (vp_cell (X.V.cy 1) (mn G a, .inl (mI G a))) := hc0
  have hc1 := hR.2.2.2.2.2.2.1 b (by omega)
  rw [cellE_int (Or.inl rfl) hb] at hc1
  have hc1 : H[X.B + b]? = some (vp_cell (X.V.cy 1) (mn G b, .inl (mI G b))) := hc1
  have hts := ok.2.2.2.2.1
  have hR2 : X.R = rmOf fr lo X.V X.G0 := ok.2.2.2.2.2.2.2.1
  have nn : ∀ z : Int32, ¬ z < 0 → z.toInt = (z.toNatClampNeg : Int) := by
    intro z hz
    have hz0 : (0 : Int) ≤ z.toInt := by
      have := Int32.not_lt.mp hz
      simpa using Int32.le_iff_toInt_le.mp this
    show z.toInt = ((z.toInt.toNat : Nat) : Int)
    omega
  obtain ⟨-, k0, hk0, cm0, hkk0⟩ := (ok.k.2 0 _ rfl).1 (mn G a) (fun j => .int (mI G a j))
  obtain ⟨vm', S', step⟩ := S.arraycopy ok.1 ok.2.2.2.1 (hts _ w1) (hts _ wcp_n) (hts _ wcp_s) (hts _ wcp_i) (src := X.B + a) (dst := X.B + b) (cs := vp_cell (X.V.cy 1) (mn G a, .inl (mI G a))) (cd := vp_cell (X.V.cy 1) (mn G b, .inl (mI G b))) (srcPos := p) (destPos := q) (n := n) (by rw [hT]; exact hc0) (by rw [hT]; exact hc1)
    (fun _ h => by cases h) (fun _ h => by cases h) (fun h => by cases h) (fun h => by cases h) hk0 hk0 hkk0 hkk0 (by simp [refKind]) h1 h2 h3
    (by rw [nn p h1, nn n h3]; show ¬ _ > ((arrV (X.V.cy 1) (mn G a) (fun j => .int (mI G a j))).slots.size : Int); rw [arrV_size]; omega)
    (by rw [nn q h2, nn n h3]; show ¬ _ > ((arrV (X.V.cy 1) (mn G b) (fun j => .int (mI G b j))).slots.size : Int); rw [arrV_size]; omega)
    (fun vm₁ _ i hi => by
      have e : (vp_cell (X.V.cy 1) (mn G a, .inl (mI G a))).slots.getD (p.toNatClampNeg + i) .null = .int (mI G a (p.toNatClampNeg + i)) := by
        show (arrV (X.V.cy 1) (mn G a) (fun j => .int (mI G a j))).slots.getD _ _ = _
        rw [Array.getD_eq_getD_getElem?, arrV_read _ _ (by omega)]
        rfl
      refine ⟨?_, ?_⟩
      · rw [e]; rfl
      · rw [e]; exact trivial)
    (g := F0 X.m pc ls (.int n :: .int q :: .ref (X.B + b) :: .int p :: .ref (X.B + a) :: st)) rfl (by rw [hl.1]; exact ok.2.2.1.symm) (rest := st) rfl (by rw [ok.2.1]; exact hd) (by rw [hR2]; exact hf) (by rw [hR2]; show 2 * 0 + _ + _ ≤ lo; have h9 := wcp_w; omega)
  have e1 : copied (vp_cell (X.V.cy 1) (mn G a, .inl (mI G a))) (vp_cell (X.V.cy 1) (mn G b, .inl (mI G b))) p q n = vp_cell (X.V.cy 1) (mn G b, .inl (va_cpy (mI G a) (mI G b) p.toNatClampNeg q.toNatClampNeg n.toNatClampNeg)) := va_copied (fun z => .int z) (X.V.cy 1) (X.V.cy 1) (mI G a) (mI G b) h4
  rw [e1] at S' step
  have hl1 : X.B + b < H.size := (Array.getElem?_eq_some_iff.mp hc1).1
  obtain ⟨H1, hH1⟩ : ∃ z, z = H.setIfInBounds (X.B + b) (vp_cell (X.V.cy 1) (mn G b, .inl (va_cpy (mI G a) (mI G b) p.toNatClampNeg q.toNatClampNeg n.toNatClampNeg))) := ⟨_, rfl⟩
  have hheap : ((T.setVm vm').setCell (X.B + b) (vp_cell (X.V.cy 1) (mn G b, .inl (va_cpy (mI G a) (mI G b) p.toNatClampNeg q.toNatClampNeg n.toNatClampNeg)))).heap = H1 := by rw [hH1, ← hT]; rfl
  have eb : H1[X.B + b]? = some (vp_cell (X.V.cy 1) (mn G b, .inl (va_cpy (mI G a) (mI G b) p.toNatClampNeg q.toNatClampNeg n.toNatClampNeg))) := by rw [hH1]; simp [Array.getElem?_setIfInBounds, hl1]
  have ez : H1.size = H.size := by rw [hH1]; simp
  have eq : ∀ x : Nat, x ≠ X.B + b → H1[x]? = H[x]? := fun x hx => by rw [hH1]; simp [Array.getElem?_setIfInBounds, Ne.symm hx]
  have es : (vp_cell (X.V.cy 1) (mn G b, .inl (va_cpy (mI G a) (mI G b) p.toNatClampNeg q.toNatClampNeg n.toNatClampNeg))).slots.size = (vp_cell (X.V.cy 1) (mn G b, .inl (mI G b))).slots.size := by
    rw [vp_cell_i, vp_cell_i, arrV_size, arrV_size]
  have hrel : X.rel (wI G (ur (mI G) b (va_cpy (mI G a) (mI G b) p.toNatClampNeg q.toNatClampNeg n.toNatClampNeg))) H1 := by
    refine Rel.write hR rfl rfl rfl rfl rfl (fun c hc => cellE_congr rfl rfl (ur_ne hc) rfl rfl) hc1 eb es ez eq (fun _ => ?_) (fun c hc j => ?_)
    · rw [cellE_int (Or.inl rfl) (show mt (wI G (ur (mI G) b (va_cpy (mI G a) (mI G b) p.toNatClampNeg q.toNatClampNeg n.toNatClampNeg))) b = 1 from hb)]
      show H1[X.B + b]? = some (vp_cell _ _)
      rw [eb]
      show some (vp_cell _ (mn G b, _)) = some (vp_cell _ (mn G b, .inl (ur (mI G) b _ b)))
      rw [ur_eq]
    · have hcb : c ≠ b := by intro e; rw [e] at hc; omega
      show fits .byte (.int (ur (mI G) b _ c j)) = true
      rw [ur_ne hcb]
      exact hR.2.2.2.2.2.2.2 c hc j
  have hfin := kk H1 (locs ++ (((vp_cell (X.V.cy 1) (mn G a, .inl (mI G a))).stretch p.toNatClampNeg n.toNatClampNeg).zipIdx).map fun (z : Value × Nat) => (⟨X.B + b, q.toNatClampNeg + z.2⟩ : Loc)) ls hrel (fun x hx => by
    rcases List.mem_append.mp hx with h | h
    · exact hcl x h
    · obtain ⟨z, -, rfl⟩ := List.mem_map.mp h
      exact Nat.le_add_right _ _) hl
  have e4 : sums X.s.heap.size H1 = sums X.s.heap.size H := sums_congr ez (fun x => by
    by_cases hx : x = X.B + b
    · rw [hx, eb, hc1]; simp [es]
    · rw [eq x hx])
  rw [e4, ez] at hfin
  obtain ⟨t, a1, b1⟩ := hfin _ hheap S'
  exact ⟨t, step t a1, b1⟩
theorem k_cpJ (ok : OK X cc own ret nL fr lo) {index : Nat} (w1 : Cond.methodLink own index arraycopyName ∈ WT) (hf : 1 ≤ fr) (hlo : 60 ≤ lo) (hr : (st.map fun v => v.category).sum ≤ 8) {a b : Nat} {p q n : Int32} (hv : cpJ G a p b q n = some G') (hd : decode cc pc = .ok (.invokestatic index, 3)) (kk : J X nL (pc + 3) L st G') : J X nL pc L (.int n :: .int q :: .ref (X.B + b) :: .int p :: .ref (X.B + a) :: st) G := by
  obtain ⟨⟨ha, hb, h1, h2, h3, h4, h5⟩, rfl⟩ := ite_get hv
  have h1 := i_nn h1
  have h2 := i_nn h2
  have h3 := i_nn h3
  intro H locs ls hR hcl hl T hT S
  have hc0 := hR.2.2.2.2.2.2.1 a (by omega)
  rw [cellE_long ha] at hc0
  have hc0 : H[X.B + a]? = some (vp_cell (X.V.cy 5) (mn G a, .inr (.inl (mJ G a)))) := hc0
  have hc1 := hR.2.2.2.2.2.2.1 b (by omega)
  rw [cellE_long hb] at hc1
  have hc1 : H[X.B + b]? = some (vp_cell (X.V.cy 5) (mn G b, .inr (.inl (mJ G b)))) := hc1
  have hts := ok.2.2.2.2.1
  have hR2 : X.R = rmOf fr lo X.V X.G0 := ok.2.2.2.2.2.2.2.1
  have nn : ∀ z : Int32, ¬ z < 0 → z.toInt = (z.toNatClampNeg : Int) := by
    intro z hz
    have hz0 : (0 : Int) ≤ z.toInt := by
      have := Int32.not_lt.mp hz
      simpa using Int32.le_iff_toInt_le.mp this
    show z.toInt = ((z.toInt.toNat : Nat) : Int)
    omega
  obtain ⟨-, k0, hk0, cm0, hkk0⟩ := (ok.k.2 3 _ rfl).1 (mn G a) (fun j => .long (mJ G a j))
  obtain ⟨vm', S', step⟩ := S.arraycopy ok.1 ok.2.2.2.1 (hts _ w1) (hts _ wcp_n) (hts _ wcp_s) (hts _ wcp_i) (src := X.B + a) (dst := X.B + b) (cs := vp_cell (X.V.cy 5) (mn G a, .inr (.inl (mJ G a)))) (cd := vp_cell (X.V.cy 5) (mn G b, .inr (.inl (mJ G b)))) (srcPos := p) (destPos := q) (n := n) (by rw [hT]; exact hc0) (by rw [hT]; exact hc1)
    (fun _ h => by cases h) (fun _ h => by cases h) (fun h => by cases h) (fun h => by cases h) hk0 hk0 hkk0 hkk0 (by simp [refKind]) h1 h2 h3
    (by rw [nn p h1, nn n h3]; show ¬ _ > ((arrV (X.V.cy 5) (mn G a) (fun j => .long (mJ G a j))).slots.size : Int); rw [arrV_size]; omega)
    (by rw [nn q h2, nn n h3]; show ¬ _ > ((arrV (X.V.cy 5) (mn G b) (fun j => .long (mJ G b j))).slots.size : Int); rw [arrV_size]; omega)
    (fun vm₁ _ i hi => by
      have e : (vp_cell (X.V.cy 5) (mn G a, .inr (.inl (mJ G a)))).slots.getD (p.toNatClampNeg + i) .null = .long (mJ G a (p.toNatClampNeg + i)) := by
        show (arrV (X.V.cy 5) (mn G a) (fun j => .long (mJ G a j))).slots.getD _ _ = _
        rw [Array.getD_eq_getD_getElem?, arrV_read _ _ (by omega)]
        rfl
      refine ⟨?_, ?_⟩
      · rw [e]; rfl
      · rw [e]; exact trivial)
    (g := F0 X.m pc ls (.int n :: .int q :: .ref (X.B + b) :: .int p :: .ref (X.B + a) :: st)) rfl (by rw [hl.1]; exact ok.2.2.1.symm) (rest := st) rfl (by rw [ok.2.1]; exact hd) (by rw [hR2]; exact hf) (by rw [hR2]; show 2 * 0 + _ + _ ≤ lo; have h9 := wcp_w; omega)
  have e1 : copied (vp_cell (X.V.cy 5) (mn G a, .inr (.inl (mJ G a)))) (vp_cell (X.V.cy 5) (mn G b, .inr (.inl (mJ G b)))) p q n = vp_cell (X.V.cy 5) (mn G b, .inr (.inl (va_cpy (mJ G a) (mJ G b) p.toNatClampNeg q.toNatClampNeg n.toNatClampNeg))) := va_copied (fun z => .long z) (X.V.cy 5) (X.V.cy 5) (mJ G a) (mJ G b) h4
  rw [e1] at S' step
  have hl1 : X.B + b < H.size := (Array.getElem?_eq_some_iff.mp hc1).1
  obtain ⟨H1, hH1⟩ : ∃ z, z = H.setIfInBounds (X.B + b) (vp_cell (X.V.cy 5) (mn G b, .inr (.inl (va_cpy (mJ G a) (mJ G b) p.toNatClampNeg q.toNatClampNeg n.toNatClampNeg)))) := ⟨_, rfl⟩
  have hheap : ((T.setVm vm').setCell (X.B + b) (vp_cell (X.V.cy 5) (mn G b, .inr (.inl (va_cpy (mJ G a) (mJ G b) p.toNatClampNeg q.toNatClampNeg n.toNatClampNeg))))).heap = H1 := by rw [hH1, ← hT]; rfl
  have eb : H1[X.B + b]? = some (vp_cell (X.V.cy 5) (mn G b, .inr (.inl (va_cpy (mJ G a) (mJ G b) p.toNatClampNeg q.toNatClampNeg n.toNatClampNeg)))) := by rw [hH1]; simp [Array.getElem?_setIfInBounds, hl1]
  have ez : H1.size = H.size := by rw [hH1]; simp
  have eq : ∀ x : Nat, x ≠ X.B + b → H1[x]? = H[x]? := fun x hx => by rw [hH1]; simp [Array.getElem?_setIfInBounds, Ne.symm hx]
  have es : (vp_cell (X.V.cy 5) (mn G b, .inr (.inl (va_cpy (mJ G a) (mJ G b) p.toNatClampNeg q.toNatClampNeg n.toNatClampNeg)))).slots.size = (vp_cell (X.V.cy 5) (mn G b, .inr (.inl (mJ G b)))).slots.size := by
    rw [vp_cell_l, vp_cell_l, arrV_size, arrV_size]
  have hrel : X.rel (wJ G (ur (mJ G) b (va_cpy (mJ G a) (mJ G b) p.toNatClampNeg q.toNatClampNeg n.toNatClampNeg))) H1 := by
    refine Rel.write hR rfl rfl rfl rfl rfl (fun c hc => cellE_congr rfl rfl rfl (ur_ne hc) rfl) hc1 eb es ez eq (fun _ => ?_) (fun c hc j => ?_)
    · rw [cellE_long (show mt (wJ G (ur (mJ G) b (va_cpy (mJ G a) (mJ G b) p.toNatClampNeg q.toNatClampNeg n.toNatClampNeg))) b = 5 from hb)]
      show H1[X.B + b]? = some (vp_cell _ _)
      rw [eb]
      show some (vp_cell _ (mn G b, _)) = some (vp_cell _ (mn G b, .inr (.inl (ur (mJ G) b _ b))))
      rw [ur_eq]
    · exact hR.2.2.2.2.2.2.2 c hc j
  have hfin := kk H1 (locs ++ (((vp_cell (X.V.cy 5) (mn G a, .inr (.inl (mJ G a)))).stretch p.toNatClampNeg n.toNatClampNeg).zipIdx).map fun (z : Value × Nat) => (⟨X.B + b, q.toNatClampNeg + z.2⟩ : Loc)) ls hrel (fun x hx => by
    rcases List.mem_append.mp hx with h | h
    · exact hcl x h
    · obtain ⟨z, -, rfl⟩ := List.mem_map.mp h
      exact Nat.le_add_right _ _) hl
  have e4 : sums X.s.heap.size H1 = sums X.s.heap.size H := sums_congr ez (fun x => by
    by_cases hx : x = X.B + b
    · rw [hx, eb, hc1]; simp [es]
    · rw [eq x hx])
  rw [e4, ez] at hfin
  obtain ⟨t, a1, b1⟩ := hfin _ hheap S'
  exact ⟨t, step t a1, b1⟩
end JTEXT
