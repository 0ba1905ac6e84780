/-! ===== further rows: new things, tables, copies, nest mates ===== -/
theorem wmin_s : Cond.static Lib.Math.min.name ∈ WT := wt_in 413 (by decide +kernel) (by decide +kernel)
theorem wmin_i : Cond.initialized "java/lang/Math" ∈ WT := wt_in 50 (by decide +kernel) (by decide +kernel)
theorem wmin_c : Cond.code Lib.Math.min.name Lib.Math.min.code 2 (some .int) ∈ WT := wt_in 414 (by decide +kernel) (by decide +kernel)
theorem wmax_s : Cond.static Lib.Math.max.name ∈ WT := wt_in 567 (by decide +kernel) (by decide +kernel)
theorem wmax_i : Cond.initialized "java/lang/Math" ∈ WT := wt_in 50 (by decide +kernel) (by decide +kernel)
theorem wmax_c : Cond.code Lib.Math.max.name Lib.Math.max.code 2 (some .int) ∈ WT := wt_in 568 (by decide +kernel) (by decide +kernel)
section JMORE
variable {X : Cx} {cc : ByteArray} {own : String} {ret : Option FieldType} {nL fr lo pc : Nat} {L L' : List (Nat × Value)} {st : List Value} {G G' : Mem}
theorem j_ineg (ok : OK X cc own ret nL fr lo) {x : Int32} (hd : decode cc pc = .ok (.ineg, 1)) (k : J X nL (pc + 1) L (.int (-x) :: st) G) : J X nL pc L (.int x :: st) G := fun H locs ls hR hc hl => lv_ineg ok.1 ok.2.1 hd (k H locs ls hR hc hl)
theorem j_iushr (ok : OK X cc own ret nL fr lo) {x y : Int32} (hd : decode cc pc = .ok (.iushr, 1)) (k : J X nL (pc + 1) L (.int ((x.toUInt32 >>> (y.toUInt32 &&& Int32.toUInt32 31)).toInt32) :: st) G) : J X nL pc L (.int y :: .int x :: st) G := fun H locs ls hR hc hl => lv_iushr ok.1 ok.2.1 hd rfl (k H locs ls hR hc hl)
theorem j_tsw_in (ok : OK X cc own ret nL fr lo) {dflt low hi : Int} {offs : Array Int} {len : Nat} {x : Int32} {off : Int} {tgt : Nat} (hd : decode cc pc = .ok (.tableswitch dflt low hi offs, len)) (h1 : ¬ x.toInt < low) (h2 : ¬ hi < x.toInt) (ho : offs[(x.toInt - low).toNat]? = some off) (ht : (pc : Int) + off = (tgt : Int)) (k : J X nL tgt L st G) : J X nL pc L (.int x :: st) G := fun H locs ls hR hc hl => lv_tableIn ok.1 ok.2.1 hd h1 h2 ho ht (k H locs ls hR hc hl)
theorem j_tsw_out (ok : OK X cc own ret nL fr lo) {dflt low hi : Int} {offs : Array Int} {len : Nat} {x : Int32} {tgt : Nat} (hd : decode cc pc = .ok (.tableswitch dflt low hi offs, len)) (h : x.toInt < low ∨ hi < x.toInt) (ht : (pc : Int) + dflt = (tgt : Int)) (k : J X nL tgt L st G) : J X nL pc L (.int x :: st) G := fun H locs ls hR hc hl => lv_tableOut ok.1 ok.2.1 hd h ht (k H locs ls hR hc hl)
theorem sw_out5 {x : Int32} (h0 : ¬ x = 0) (h1 : ¬ x = 1) (h2 : ¬ x = 2) (h3 : ¬ x = 3) (h4 : ¬ x = 4) : x.toInt < 0 ∨ 4 < x.toInt := by
  have f : ∀ y : Int32, ¬ x = y → ¬ x.toInt = y.toInt := fun y h e => h (Int32.toInt_inj.mp e)
  have a0 := f 0 h0
  have a1 := f 1 h1
  have a2 := f 2 h2
  have a3 := f 3 h3
  have a4 := f 4 h4
  have b0 : (0 : Int32).toInt = 0 := by decide
  have b1 : (1 : Int32).toInt = 1 := by decide
  have b2 : (2 : Int32).toInt = 2 := by decide
  have b3 : (3 : Int32).toInt = 3 := by decide
  have b4 : (4 : Int32).toInt = 4 := by decide
  omega
theorem k_mmin (ok : OK X cc own ret nL fr lo) {index : Nat} (w1 : Cond.methodLink own index Lib.Math.min.name ∈ WT) (hf : 1 ≤ fr) (hlo : 21 ≤ lo) (hr : (st.map fun v => v.category).sum ≤ 8) {x y : Int32} (hd : decode cc pc = .ok (.invokestatic index, 3)) (k : J X nL (pc + 3) L (.int (if y < x then y else x) :: st) G) : J X nL pc L (.int y :: .int x :: st) G := by
  intro H locs ls hR hc hl
  have hR2 : X.R = rmOf fr lo X.V X.G0 := ok.2.2.2.2.2.2.2.1
  have hts := ok.2.2.2.2.1
  refine w_fit ok fun hS => ?_
  obtain ⟨f1, f2⟩ := ok_fit ok hR hS
  exact va_mmin ok.1 ok.2.1 (ok.2.2.1.trans hl.1.symm) ok.2.2.2.1 (hts _ w1) (hts _ wmin_s) (hts _ wmin_i) (hts _ wmin_c) (by rw [hR2]; exact hf) (by rw [hR2]; show _ + 13 ≤ lo; omega) (by rw [hR2]; show _ ≤ X.V.cc - mz X.G0; omega) (by rw [hR2]; show _ ≤ X.V.cs - ml X.G0; omega) hd (k H locs ls hR hc hl)
theorem k_mmax (ok : OK X cc own ret nL fr lo) {index : Nat} (w1 : Cond.methodLink own index Lib.Math.max.name ∈ WT) (hf : 1 ≤ fr) (hlo : 21 ≤ lo) (hr : (st.map fun v => v.category).sum ≤ 8) {x y : Int32} (hd : decode cc pc = .ok (.invokestatic index, 3)) (k : J X nL (pc + 3) L (.int (if x < y then y else x) :: st) G) : J X nL pc L (.int y :: .int x :: st) G := by
  intro H locs ls hR hc hl
  have hR2 : X.R = rmOf fr lo X.V X.G0 := ok.2.2.2.2.2.2.2.1
  have hts := ok.2.2.2.2.1
  refine w_fit ok fun hS => ?_
  obtain ⟨f1, f2⟩ := ok_fit ok hR hS
  exact va_mmax ok.1 ok.2.1 (ok.2.2.1.trans hl.1.symm) ok.2.2.2.1 (hts _ w1) (hts _ wmax_s) (hts _ wmax_i) (hts _ wmax_c) (by rw [hR2]; exact hf) (by rw [hR2]; show _ + 13 ≤ lo; omega) (by rw [hR2]; show _ ≤ X.V.cc - mz X.G0; omega) (by rw [hR2]; show _ ≤ X.V.cs - ml X.G0; omega) hd (k H locs ls hR hc hl)
/-- the tables of constants -/
def tb (k : Nat) (i : Int32) : Option Int32 := if inb i (tabN k).2.2.2.2.length then some ((tabN k).2.2.2.2.getD i.toNatClampNeg 0) else none
theorem kept0 {X : Cx} {G : Mem} {H : Heap} (hR : X.rel G H) : ∀ q : Nat, q < X.V.H0.size → H[q]? = X.V.H0[q]? := fun q hq => hR.2.2.2.2.2.1 q (by have e : X.V.H0.size = X.V.B := hR.1; rw [← e]; exact hq)
theorem k_tab (ok : OK X cc own ret nL fr lo) {index k : Nat} (hk : k < 3) (w1 : Cond.fieldLink own index (tabN k).1 (tabN k).2.1 (tabN k).2.2.1 ∈ WT) (hd : decode cc pc = .ok (.getstatic index, 3)) (kk : J X nL (pc + 3) L (.ref (X.V.ta k) :: st) G) : J X nL pc L st G := by
  intro H locs ls hR hc hl
  obtain ⟨cf, kf, fi, f, a, cell, h1, h2, h3, h4, h5, h6, h7, h8⟩ := (ok.2.2.2.2.2.2.2.2.2.1.2.1 k hk).1
  exact W.gets ok.1 ok.2.1 ok.2.2.2.1 (ok.2.2.2.2.1 _ w1) h1 h2 h3 h4 (by rw [kept0 hR a (Array.getElem?_eq_some_iff.mp h5).1]; exact h5) (fun e => by rw [e] at h6; cases h6) h7 rfl hd (kk H locs ls hR hc hl)
theorem k_tiaload (ok : OK X cc own ret nL fr lo) {k : Nat} {i v : Int32} (hk : k < 3 ∧ (tabN k).2.2.2.1 = .int) (hv : tb k i = some v) (hd : decode cc pc = .ok (.iaload, 1)) (kk : J X nL (pc + 1) L (.int v :: st) G) : J X nL pc L (.int i :: .ref (X.V.ta k) :: st) G := by
  obtain ⟨hb, hv⟩ := ite_get hv
  intro H locs ls hR hc hl
  obtain ⟨cell, h1, h2, h3, h4, h5, h6, h7⟩ := (ok.2.2.2.2.2.2.2.2.2.1.2.1 k hk.1).2
  rw [hk.2] at h2
  refine W.iald (v := .int v) ok.1 ok.2.1 (by rw [kept0 hR _ (Array.getElem?_eq_some_iff.mp h1).1]; exact h1) h2 h3 ?_ (by rw [h6 _ (inb_lt hb)]; show some (Value.int _) = _; rw [hv]) rfl rfl hd (kk H locs ls hR hc hl)
  have := inb_lt hb
  intro q
  rcases q with q | q
  · exact vpin_of hb (Or.inl q)
  · omega
theorem k_tcaload (ok : OK X cc own ret nL fr lo) {k : Nat} {i v : Int32} (hk : k < 3 ∧ (tabN k).2.2.2.1 = .char) (hv : tb k i = some v) (hd : decode cc pc = .ok (.caload, 1)) (kk : J X nL (pc + 1) L (.int v :: st) G) : J X nL pc L (.int i :: .ref (X.V.ta k) :: st) G := by
  obtain ⟨hb, hv⟩ := ite_get hv
  intro H locs ls hR hc hl
  obtain ⟨cell, h1, h2, h3, h4, h5, h6, h7⟩ := (ok.2.2.2.2.2.2.2.2.2.1.2.1 k hk.1).2
  rw [hk.2] at h2
  refine W.cald (v := .int v) ok.1 ok.2.1 (by rw [kept0 hR _ (Array.getElem?_eq_some_iff.mp h1).1]; exact h1) h2 h3 ?_ (by rw [h6 _ (inb_lt hb)]; show some (Value.int _) = _; rw [hv]) rfl rfl hd (kk H locs ls hR hc hl)
  have := inb_lt hb
  intro q
  rcases q with q | q
  · exact vpin_of hb (Or.inl q)
  · omega
theorem k_tlen (ok : OK X cc own ret nL fr lo) {k : Nat} {v : Int32} (hk : k < 3) (hv : Int32.ofNat (tabN k).2.2.2.2.length = v) (hd : decode cc pc = .ok (.arraylength, 1)) (kk : J X nL (pc + 1) L (.int v :: st) G) : J X nL pc L (.ref (X.V.ta k) :: st) G := by
  intro H locs ls hR hc hl
  obtain ⟨cell, h1, h2, h3, h4, h5, h6, h7⟩ := (ok.2.2.2.2.2.2.2.2.2.1.2.1 k hk).2
  exact W.alen (n := v) ok.1 ok.2.1 (by rw [kept0 hR _ (Array.getElem?_eq_some_iff.mp h1).1]; exact h1) h2 (by rw [← hv]; exact h5) rfl rfl hd (kk H locs ls hR hc hl)
/-- a nest mate's static method -/
theorem met_of {l : Launch} {y : MethodName} {ws : List Cond} {rm : Room} {V : Wd} {Pc : Array Value → State → Prop} {v : Option Value} {G1 : Mem} {mc ms : Nat} {free : Addr → Prop} (h : vx_Met l y ws rm Pc (qcOf V (.inl v) G1) (xcOf V (.inl v) G1) mc ms free) : Met l y ws rm Pc (qcOf V (.inl v) G1) mc ms free :=
  MetFree.mono h (fun _ _ h => h) (fun _ _ _ _ _ h => h) (fun a st o t _ h => by
    rcases h with h | ⟨q, -, E, ce, L, ⟨k, hk, -⟩, -⟩
    · exact h
    · cases hk)
def CLN (own : String) (index : Nat) (y : MethodName) (bytes : ByteArray) (maxL : Nat) (ret' : Option FieldType) (n : Nat) : Prop := (own, index, y, RX6) ∈ nestTab ∧ Cond.static y ∈ WT ∧ Cond.initialized y.cls ∈ WT ∧ Cond.code y bytes maxL ret' ∈ WT ∧ (y.cls ≠ "java/lang/invoke/MethodHandle" ∧ y.cls ≠ "java/lang/invoke/VarHandle" ∧ (parseMethodDescriptor y.desc).map (fun d => d.parameters.length) = some n)
theorem k_N1 (ok : OK X cc own ret nL fr lo) {y : MethodName} {bytes : ByteArray} {maxL index n fr' lo' : Nat} {ret' : Option FieldType} (f : CLN own index y bytes maxL ret' n) (hf : fr' + 1 ≤ fr ∧ 8 + (maxL + 11) + lo' ≤ lo) (As : List Value) {stk : List Value} {v : Value} {G1 : Mem}
    (hn : As.length = n) (hs : stk = As.reverse ++ st) (hr : (st.map fun v => v.category).sum ≤ 8) (hM : Mx X.l y bytes maxL ret' fr' lo' X.V As G (.inl (some v)) G1) (hd : decode cc pc = .ok (.invokestatic index, 3))
    (kv : J X nL (pc + 3) L (v :: st) G1) : J X nL pc L stk G := by
  obtain ⟨w1, w2, w4, w5, hy⟩ := f
  intro H locs ls hR hcl hl
  have hR2 : X.R = rmOf fr lo X.V X.G0 := ok.2.2.2.2.2.2.2.1
  have hts := ok.2.2.2.2.1
  refine w_fit ok fun hS => ?_
  obtain ⟨f1, f2⟩ := ok_fit ok hR hS
  have run : va_Run X.p X.l X.e X.R X.s X.m X.args X.below X.meth X.c H locs (H.size - X.s.heap.size) (sums X.s.heap.size H) (X.V.cc - mz G) (X.V.cs - ml G) (F0 X.m pc ls stk) st (qcOf X.V (.inl (some v)) G1 As.toArray) (fun q => X.B ≤ q) :=
    va_runSN (ok_fix ok) (met_of hM) ⟨va_cnB (host := RX6) n hts (wt_all w5) rfl rfl rfl (ok.2.2.2.2.2.2.2.2.2.1.2.2.2.2.2.1 _ w1) (hts _ w4) hy (by rw [hR2]; exact hf), hts _ w2, trivial⟩ ⟨pc_blind, pc_at ok hR⟩ rfl hn hl.1 hs (lv_room hr) hd (by rw [hR2]; exact ⟨Nat.le_of_eq f1, Nat.le_of_eq f2⟩)
  exact j_fin ok hR hcl hl (fun T hT S => Or.inl (run T hT S)) (fun w e => by cases e; exact kv) (fun k e => by cases e)
end JMORE
