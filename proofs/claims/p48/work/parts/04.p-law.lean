/-! ===== methods with handlers; what the law calls ===== -/
/-- a throw that is among those expected -/
def thrC {α ρ : Type} (ks : List Nat) (x : α ⊕ Nat) (f : α → Option ((ρ ⊕ Nat) × Mem)) (G : Mem) : Option ((ρ ⊕ Nat) × Mem) := match x with
  | .inl v => f v
  | .inr k => if k ∈ ks then some (.inr k, G) else none
def bz (x : Int32) : Int32 := if x = 0 then 0 else 1
def bzl (x : Int32) : Int64 := if x = 0 then 0 else 1
def qcP {α : Type} (V : Wd) (inj : α → Value) (P : α → Mem → Prop) : Array Value → State → Outcome → State → Prop := fun _ _ o t => ∃ v G', P v G' ∧ o = .returned (some (inj v)) ∧ V.rel G' t.heap
/-- from G it answers some v with some memory, of which P holds; w: the word of its code -/
def ML {α : Type} (l : Launch) (y : MethodName) (w : Cond) (fr lo : Nat) (V : Wd) (as : List Value) (G : Mem) (inj : α → Value) (P : α → Mem → Prop) : Prop :=
  Met l y (w :: WT) (rmOf fr lo V G) (pcOf V as G) (qcP V inj P) (V.cc - mz G) (V.cs - ml G) (fun q => V.B ≤ q)
def EndP {α : Type} (X : Cx) (inj : α → Value) (P : α → Mem → Prop) : Prop := X.Q = vx_MQ X.below (qcP X.V inj P) (fun _ _ _ => False) X.args X.s (X.V.cc - mz X.G0) (X.V.cs - ml X.G0) (fun q => X.B ≤ q)
/-- where a throw is caught -/
def CT (X : Cx) (own : String) (pc k hpc : Nat) : Prop := k < 3 ∧ ∃ (pre : List ExceptionTableEntry) (x : ExceptionTableEntry) (suf : List ExceptionTableEntry), X.c.exceptionTable.toList = pre ++ x :: suf ∧ (∀ z ∈ pre, z.catchType ≠ 0 ∧ ∃ j, j < 3 ∧ k ≠ j ∧ Cond.classLink own z.catchType (exN j) ∈ WT) ∧ covers x pc = true ∧ x.catchType ≠ 0 ∧ Cond.classLink own x.catchType (exN k) ∈ WT ∧ x.handlerPc = hpc
/-- the end of a call of a throwing method, as its caller sees it -/
def wpL {α : Type} (z : Option ((α ⊕ Nat) × Mem)) (hs : Nat → α) (c1 c2 : Nat) (K : α → Mem → Prop) : Prop := ∃ q, z = some q ∧ match q.1 with
  | .inl a => K a q.2
  | .inr k => ∀ d w, d ≤ 1 → w ≤ 6 → K (hs k) (caps (bump q.2 d w) c1 c2)
/-- the script lies below all that is new -/
def SC (X : Cx) (b n : Nat) (xs : Nat → Int32) : Prop := va_X b n xs X.s X.V.H0 ∧ b < X.V.B
section JLAW
variable {X : Cx} {cc : ByteArray} {own : String} {ret : Option FieldType} {nL fr lo pc : Nat} {L L' : List (Nat × Value)} {st : List Value} {G G' : Mem}
theorem jl_iret (ok : OK X cc own (some .int) nL fr lo) {v : Int32} {P : Int32 → Mem → Prop} (hP : P v G) (hd : decode cc pc = .ok (.ireturn, 1)) (he : EndP X Value.int P) : J X nL pc L [Value.int v] G := by
  intro H locs ls hR hcl hl
  refine w_fit ok fun hS => ?_
  obtain ⟨f1, f2⟩ := ok_fit ok hR hS
  rw [he]
  exact vx_ret (W.widen (by omega) (by omega) (W.iret ok.1 ok.2.1 ok.2.2.2.2.2.1 (fun t ht hW => ⟨v, G, hP, rfl, by rw [ht]; exact hR⟩) hcl hd ok.2.2.2.2.2.2.1))
theorem jl_lret (ok : OK X cc own (some .long) nL fr lo) {v : Int64} {P : Int64 → Mem → Prop} (hP : P v G) (hd : decode cc pc = .ok (.lreturn, 1)) (he : EndP X Value.long P) : J X nL pc L [Value.long v] G := by
  intro H locs ls hR hcl hl
  refine w_fit ok fun hS => ?_
  obtain ⟨f1, f2⟩ := ok_fit ok hR hS
  rw [he]
  exact vx_ret (W.widen (by omega) (by omega) (W.lret ok.1 ok.2.1 ok.2.2.2.2.2.1 (fun t ht hW => ⟨v, G, hP, rfl, by rw [ht]; exact hR⟩) hcl hd ok.2.2.2.2.2.2.1))
theorem jl_zret (ok : OK X cc own (some .boolean) nL fr lo) {v : Int32} {P : Int32 → Mem → Prop} (hP : P v G) (h01 : v = 0 ∨ v = 1) (hd : decode cc pc = .ok (.ireturn, 1)) (he : EndP X Value.int P) : J X nL pc L [Value.int v] G := by
  intro H locs ls hR hcl hl
  refine w_fit ok fun hS => ?_
  obtain ⟨f1, f2⟩ := ok_fit ok hR hS
  rw [he]
  exact vx_ret (W.widen (by omega) (by omega) (W.zret ok.1 ok.2.1 ok.2.2.2.2.2.1 (nar01 h01).1 (fun t ht hW => ⟨v, G, hP, rfl, by rw [ht]; exact hR⟩) hcl hd ok.2.2.2.2.2.2.1))
theorem ml_of {α : Type} {inj : α → Value} {rt : FieldType} {l : Launch} {y : MethodName} {V : Wd} {as : List Value} {hh : List (Nat × Nat × Nat × Nat)} {P : α → Mem → Prop} (hfl : l.stackTraces = false) (hy : plainName y.cls = true) (hn : (lg_sl as).length ≤ nL) (hL : lv_args 0 as = L)
    (body : ∀ X : Cx, X.l = l → X.V = V → OK X cc y.cls (some rt) nL fr lo → X.c.exceptionTable.toList = tableOf hh → EndP X inj P → J X nL 0 L [] G) : ML l y (Cond.codeWith y cc nL (some rt) hh) fr lo V as G inj P := by
  refine MetFree.mono (vx_ofWH (l := l) (y := y) (ws := Cond.codeWith y cc nL (some rt) hh :: WT) (rm := rmOf fr lo V G) (Pc := pcOf V as G) (Qc := qcP V inj P) (cc := cc) (maxL := nL) (ret := some rt) (hh := hh) (XC := fun _ _ _ => False) (mc := V.cc - mz G) (ms := V.cs - ml G) (free := fun q => V.B ≤ q) hy rfl ?_) (fun _ _ h => h) (fun _ _ _ _ _ h => h) (fun a st o t _ h => by
    rcases h with h | ⟨q, -, E, ce, L, hF, -⟩
    · exact h
    · exact hF.elim)
  intro p e s m args below meth c s₁ B hml hv
  obtain ⟨rfl, hR, hK⟩ := hv
  have hts := atoms_spec (ws := Cond.codeWith y cc nL (some rt) hh :: WT) B.pre
  have htb : c.exceptionTable.toList = tableOf hh := vx_table (x := y) B (hts _ List.mem_cons_self)
  have h := body (p, l, e, rmOf fr lo V G, s, m, as.toArray, below, meth, c, vx_MQ below (qcP V inj P) (fun _ _ _ => False) as.toArray s (V.cc - mz G) (V.cs - ml G) (fun q => V.B ≤ q), V, G) rfl rfl
    ⟨B.exec, B.bytes, hml, findClass_of_methodNamed B.named, fun w hw => hts w (List.mem_cons_of_mem _ hw), B.returns, B.notSynchronized, rfl, hR, hK, trivial, hfl⟩ htb rfl s.heap [] ((lg_sl as ++ List.replicate (nL - (lg_sl as).length) Slot.unset).toArray) hR (fun q hq => by cases hq) (by rw [← hL]; exact lv_entry as hn)
  rw [lg_entry_eq]
  have e1 : s.heap.size - s.heap.size = 0 := Nat.sub_self _
  have e2 : sums s.heap.size s.heap = 0 := by
    unfold sums
    rw [List.drop_eq_nil_of_le (by simp)]
    rfl
  have h' : W p l e (rmOf fr lo V G) s m as.toArray below meth c s.heap [] (s.heap.size - s.heap.size) (sums s.heap.size s.heap) _ _ := h
  rw [e1, e2] at h'
  exact h'
theorem mp_of {α : Type} {inj : α → Value} {rt : FieldType} {l : Launch} {y : MethodName} {V : Wd} {as : List Value} {P : α → Mem → Prop} (hfl : l.stackTraces = false) (hy : plainName y.cls = true) (hn : (lg_sl as).length ≤ nL) (hL : lv_args 0 as = L)
    (body : ∀ X : Cx, X.l = l → X.V = V → OK X cc y.cls (some rt) nL fr lo → EndP X inj P → J X nL 0 L [] G) : ML l y (Cond.code y cc nL (some rt)) fr lo V as G inj P := by
  refine MetFree.mono (vx_ofW (l := l) (y := y) (ws := Cond.code y cc nL (some rt) :: WT) (rm := rmOf fr lo V G) (Pc := pcOf V as G) (Qc := qcP V inj P) (cc := cc) (maxL := nL) (ret := some rt) (XC := fun _ _ _ => False) (mc := V.cc - mz G) (ms := V.cs - ml G) (free := fun q => V.B ≤ q) hy rfl ?_) (fun _ _ h => h) (fun _ _ _ _ _ h => h) (fun a st o t _ h => by
    rcases h with h | ⟨q, -, E, ce, L, hF, -⟩
    · exact h
    · exact hF.elim)
  intro p e s m args below meth c s₁ B hml htab hv
  obtain ⟨rfl, hR, hK⟩ := hv
  have hts := atoms_spec (ws := Cond.code y cc nL (some rt) :: WT) B.pre
  have h := body (p, l, e, rmOf fr lo V G, s, m, as.toArray, below, meth, c, vx_MQ below (qcP V inj P) (fun _ _ _ => False) as.toArray s (V.cc - mz G) (V.cs - ml G) (fun q => V.B ≤ q), V, G) rfl rfl
    ⟨B.exec, B.bytes, hml, findClass_of_methodNamed B.named, fun w hw => hts w (List.mem_cons_of_mem _ hw), B.returns, B.notSynchronized, rfl, hR, hK, trivial, hfl⟩ rfl s.heap [] ((lg_sl as ++ List.replicate (nL - (lg_sl as).length) Slot.unset).toArray) hR (fun q hq => by cases hq) (by rw [← hL]; exact lv_entry as hn)
  rw [lg_entry_eq]
  have e1 : s.heap.size - s.heap.size = 0 := Nat.sub_self _
  have e2 : sums s.heap.size s.heap = 0 := by
    unfold sums
    rw [List.drop_eq_nil_of_le (by simp)]
    rfl
  have h' : W p l e (rmOf fr lo V G) s m as.toArray below meth c s.heap [] (s.heap.size - s.heap.size) (sums s.heap.size s.heap) _ _ := h
  rw [e1, e2] at h'
  exact h'
/-- a call of a method that may throw, where the throw is caught -/
theorem k_VC (ok : OK X cc own ret nL fr lo) {C : String} {ci : Nat} {y : MethodName} {bytes : ByteArray} {maxL index n fr' lo' : Nat} {ret' : Option FieldType} (f : CLV own C ci index y bytes maxL ret' n) (hf : fr' + 1 ≤ fr ∧ 8 + (maxL + 11) + lo' ≤ lo) {o : Nat} (As : List Value) {stk : List Value} {r : Option Value ⊕ Nat} {G1 : Mem} (ht : mt G o = ci + 10)
    (hn : As.length = n) (hs : stk = As.reverse ++ .ref (X.B + o) :: st) (hr : (st.map fun v => v.category).sum ≤ 8) (hM : Mx X.l y bytes maxL ret' fr' lo' X.V (.ref (X.B + o) :: As) G r G1) (hd : decode cc pc = .ok (.invokevirtual index, 3))
    (kv : ∀ v, r = .inl v → J X nL (pc + 3) L (v.toList ++ st) G1) (kx : ∀ k, r = .inr k → ∃ hpc, CT X own pc k hpc ∧ ∀ d w q, d ≤ 1 → w ≤ 6 → J X nL hpc L [.ref q] (caps (bump G1 d w) X.V.cc X.V.cs)) : J X nL pc L stk G := by
  obtain ⟨⟨T0, N0, hc⟩, w1, w2, w3, w4, w5, hy⟩ := f
  intro H locs ls hR hcl hl
  have hgi : GoodIn WT (wsV own index C y (Cond.code y bytes maxL ret' :: WT)) := fun w hw => by
    rcases List.mem_append.mp hw with h | h
    · simp only [List.mem_cons, List.not_mem_nil, or_false] at h
      rcases h with rfl | rfl | rfl | rfl
      · exact wt_good w1
      · exact wt_good w2
      · exact wt_good w3
      · exact wt_good w4
    · exact wt_all w5 w h
  have hR2 : X.R = rmOf fr lo X.V X.G0 := ok.2.2.2.2.2.2.2.1
  have hts := ok.2.2.2.2.1
  refine w_fit ok fun hS => ?_
  obtain ⟨f1, f2⟩ := ok_fit ok hR hS
  have run : vx_Run X.p X.l X.e X.R X.s X.m X.args X.below X.meth X.c H locs (H.size - X.s.heap.size) (sums X.s.heap.size H) (X.V.cc - mz G) (X.V.cs - ml G) (F0 X.m pc ls stk) st (qcOf X.V r G1 (Value.ref (X.B + o) :: As).toArray) (xcOf X.V r G1) (fun q => X.B ≤ q) :=
    vx_runV (ok_fix ok) hM (cwV n ok.2.2.2.2.1 hgi rfl rfl rfl hy (by rw [hR2]; exact hf)) ⟨pc_blind, j_recv ok hR hc ht, pc_at ok hR⟩ rfl hn hl.1 hs (lv_room hr) hd (by rw [hR2]; exact ⟨Nat.le_of_eq f1, Nat.le_of_eq f2⟩)
  intro T hT S
  rcases run T hT S with ⟨v, st₀, t, T', L1, h0, S', hL1, e1, e2, ⟨v2, hv2, hv3, hrel⟩, go⟩ | ⟨q, st₀, t, T', L1, E, ce, h0, S', hL1, e1, e2, ⟨k, hk, hE, hrel, hz, hw⟩, hce, hcv, hcl9, go⟩
  · cases hv3
    have hl1 : ∀ q ∈ locs ++ L1, X.B ≤ q.base := fun q hq => (List.mem_append.mp hq).elim (hcl q) (hL1 q)
    have hf2 := stand_fit ok (H := t.heap) e1 S'
    have k1 := kv v hv2 t.heap (locs ++ L1) ls hrel hl1 hl
    have hfit : H.size - X.s.heap.size + (X.V.cc - mz G) = X.V.cc - mz X.G0 ∧ sums X.s.heap.size H + (X.V.cs - ml G) = X.V.cs - ml X.G0 := ⟨f1, f2⟩
    have hrz : X.V.rel G1 t.heap := hrel
    have b1 := hrz.2.1
    have b2 := hrz.2.2.1
    have b3 := hrz.2.2.2.1.1
    have b4 := hrz.2.2.2.2.1.1
    have a0 := ok.2.2.2.2.2.2.2.2.1
    have a1 : X.s.heap.size = X.B + mz X.G0 := a0.2.1
    have a2 : sums X.B X.s.heap = ml X.G0 := a0.2.2.1
    have b5 : X.V.B = X.B := rfl
    obtain ⟨c1, c2⟩ := hf2
    rw [b5] at b1 b2
    obtain ⟨t2, a1, b1⟩ := w_tight (by omega) (Nat.le_refl _) k1 T' e1 S'
    exact ⟨t2, go t2 a1, b1⟩
  · subst hE
    have hl1 : ∀ q ∈ locs ++ L1, X.B ≤ q.base := fun q hq => (List.mem_append.mp hq).elim (hcl q) (hL1 q)
    have hf2 := stand_fit ok (H := t.heap) e1 S'
    have a0 := ok.2.2.2.2.2.2.2.2.1
    have a1 : X.s.heap.size = X.B + mz X.G0 := a0.2.1
    have a2 : sums X.B X.s.heap = ml X.G0 := a0.2.2.1
    have a3 : mz X.G0 ≤ X.V.cc := a0.2.2.2.1.1
    have a4 : ml X.G0 ≤ X.V.cs := a0.2.2.2.2.1.1
    have s1 : T'.heap.size ≤ X.s.heap.size + (H.size - X.s.heap.size + (X.V.cc - mz G)) := S'.same.2.2.1
    have s2 : sums X.s.heap.size T'.heap ≤ sums X.s.heap.size H + (X.V.cs - ml G) := S'.same.2.2.2.2.1
    rw [e1] at s1 s2
    obtain ⟨c1, c2⟩ := hf2
    have hrel2 := rel_of_x (cc := X.V.cc) (cs := X.V.cs) hrel (by show t.heap.size ≤ X.B + X.V.cc; omega) (by show sums X.B t.heap ≤ X.V.cs; omega)
    have hz2 : t.heap.size ≤ X.B + mz G1 + 1 := hz
    have hw2 : sums X.B t.heap ≤ ml G1 + 6 := hw
    obtain ⟨hpc, ⟨hk3, pre, x, suf, hsplit, hpass, hcov, h0c, hlink, hhp⟩, kJ⟩ := kx k hk
    have k1 := kJ (t.heap.size - (X.B + mz G1)) (sums X.B t.heap - ml G1) q (by omega) (by omega) t.heap (locs ++ L1) ls hrel2 hl1 hl
    have KWs : svD X.s := ok.2.2.2.2.2.2.2.2.2.1.2.2.2.2.2.2
    have k2 : vx_W X.p X.l X.e X.R X.s X.m X.args X.below X.meth X.c t.heap (locs ++ L1) (H.size - X.s.heap.size + (X.V.cc - mz G)) (sums X.s.heap.size H + (X.V.cs - ml G)) X.Q (F0 X.m pc ls st) q := by
      refine vx_catch (E := exN k) (name := exN k) ok.2.2.2.1 pre x suf hsplit (fun z hz => Or.inr ⟨(hpass z hz).1, ?_⟩) hcov h0c (hts _ hlink) (va_Nw.use rfl (KWs.2.1 k hk3)) hce hcv hcl9 ?_
      · obtain ⟨j, hj, hkj, hjl⟩ := (hpass z hz).2
        exact ⟨exN j, hts _ hjl, KWs.2.2.2.2.2 k hk3 j hj hkj⟩
      · rw [hhp]
        exact w_tight (by omega) (by omega) k1
    obtain ⟨t2, a1, b1⟩ := k2 T' e1 S'
    exact ⟨t2, go.trans a1, b1⟩
/-- a call of a method with handlers -/
def CLL (own : String) (index : Nat) (y : MethodName) (bytes : ByteArray) (maxL : Nat) (rt : FieldType) (hh : List (Nat × Nat × Nat × Nat)) (n : Nat) : Prop := Cond.methodLink own index y ∈ WT ∧ Cond.static y ∈ WT ∧ Cond.initialized y.cls ∈ WT ∧ Cond.codeWith y bytes maxL (some rt) hh ∈ WT ∧ (y.cls ≠ "java/lang/invoke/MethodHandle" ∧ y.cls ≠ "java/lang/invoke/VarHandle" ∧ (parseMethodDescriptor y.desc).map (fun d => d.parameters.length) = some n)
theorem k_L {α : Type} {inj : α → Value} {rt : FieldType} (ok : OK X cc own ret nL fr lo) {y : MethodName} {bytes : ByteArray} {maxL index n fr' lo' : Nat} {hh : List (Nat × Nat × Nat × Nat)} (f : CLL own index y bytes maxL rt hh n) (hf : fr' + 1 ≤ fr ∧ 8 + (maxL + 11) + lo' ≤ lo) (As : List Value) {stk : List Value} {P : α → Mem → Prop}
    (hn : As.length = n) (hs : stk = As.reverse ++ st) (hr : (st.map fun v => v.category).sum ≤ 8) (hM : ML X.l y (Cond.codeWith y bytes maxL (some rt) hh) fr' lo' X.V As G inj P) (hd : decode cc pc = .ok (.invokestatic index, 3))
    (kv : ∀ v G', P v G' → J X nL (pc + 3) L (inj v :: st) G') : J X nL pc L stk G := by
  obtain ⟨w1, w2, w4, w5, hy⟩ := f
  intro H locs ls hR hcl hl
  have hR2 : X.R = rmOf fr lo X.V X.G0 := ok.2.2.2.2.2.2.2.1
  have hts := ok.2.2.2.2.1
  refine w_fit ok fun hS => ?_
  obtain ⟨f1, f2⟩ := ok_fit ok hR hS
  have hgi : GoodIn WT (va_wsS own index y (Cond.codeWith y bytes maxL (some rt) hh :: WT)) := fun w hw => by
    rcases List.mem_append.mp hw with h | h
    · simp only [List.mem_cons, List.not_mem_nil, or_false] at h
      rcases h with rfl | rfl | rfl
      · exact wt_good w1
      · exact wt_good w2
      · exact wt_good w4
    · rcases List.mem_cons.mp h with rfl | h
      · exact wt_good w5
      · exact wt_good h
  have run : va_Run X.p X.l X.e X.R X.s X.m X.args X.below X.meth X.c H locs (H.size - X.s.heap.size) (sums X.s.heap.size H) (X.V.cc - mz G) (X.V.cs - ml G) (F0 X.m pc ls stk) st (qcP X.V inj P As.toArray) (fun q => X.B ≤ q) :=
    vx_runSW (hh := hh) (ok_fix ok) hM (vx_cwSW n hts hgi rfl rfl rfl hy (by rw [hR2]; exact hf)) ⟨pc_blind, pc_at ok hR⟩ rfl hn hl.1 hs (lv_room hr) hd (by rw [hR2]; exact ⟨Nat.le_of_eq f1, Nat.le_of_eq f2⟩)
  intro T hT S
  obtain ⟨v, st₀, t, T', L1, h0, S', hL1, e1, e2, ⟨v2, G', hP, hv3, hrel⟩, go⟩ := run T hT S
  cases hv3
  have hl1 : ∀ q ∈ locs ++ L1, X.B ≤ q.base := fun q hq => (List.mem_append.mp hq).elim (hcl q) (hL1 q)
  have hf2 := stand_fit ok (H := t.heap) e1 S'
  have k1 := kv v2 G' hP t.heap (locs ++ L1) ls hrel hl1 hl
  have hrz : X.V.rel G' t.heap := hrel
  have b1 := hrz.2.1
  have b2 := hrz.2.2.1
  have b3 := hrz.2.2.2.1.1
  have b4 := hrz.2.2.2.2.1.1
  have a0 := ok.2.2.2.2.2.2.2.2.1
  have a1 : X.s.heap.size = X.B + mz X.G0 := a0.2.1
  have a2 : sums X.B X.s.heap = ml X.G0 := a0.2.2.1
  have b5 : X.V.B = X.B := rfl
  obtain ⟨c1, c2⟩ := hf2
  rw [b5] at b1 b2
  obtain ⟨t2, a1, b1⟩ := w_tight (by omega) (Nat.le_refl _) k1 T' e1 S'
  exact ⟨t2, go t2 a1, b1⟩
/-- a call of a method of the law without handlers -/
theorem k_Q {α : Type} {inj : α → Value} {rt : FieldType} (ok : OK X cc own ret nL fr lo) {y : MethodName} {bytes : ByteArray} {maxL index n fr' lo' : Nat} (f : CLS own index y bytes maxL (some rt) n) (hf : fr' + 1 ≤ fr ∧ 8 + (maxL + 11) + lo' ≤ lo) (As : List Value) {stk : List Value} {P : α → Mem → Prop}
    (hn : As.length = n) (hs : stk = As.reverse ++ st) (hr : (st.map fun v => v.category).sum ≤ 8) (hM : ML X.l y (Cond.code y bytes maxL (some rt)) fr' lo' X.V As G inj P) (hd : decode cc pc = .ok (.invokestatic index, 3))
    (kv : ∀ v G', P v G' → J X nL (pc + 3) L (inj v :: st) G') : J X nL pc L stk G := by
  obtain ⟨w1, w2, w4, w5, hy⟩ := f
  intro H locs ls hR hcl hl
  have hR2 : X.R = rmOf fr lo X.V X.G0 := ok.2.2.2.2.2.2.2.1
  have hts := ok.2.2.2.2.1
  refine w_fit ok fun hS => ?_
  obtain ⟨f1, f2⟩ := ok_fit ok hR hS
  have run : va_Run X.p X.l X.e X.R X.s X.m X.args X.below X.meth X.c H locs (H.size - X.s.heap.size) (sums X.s.heap.size H) (X.V.cc - mz G) (X.V.cs - ml G) (F0 X.m pc ls stk) st (qcP X.V inj P As.toArray) (fun q => X.B ≤ q) :=
    va_runS (ok_fix ok) hM ⟨callB_of n hts (wt_all w5) rfl rfl rfl (hts _ w4) (hts _ w1) hy (by rw [hR2]; exact hf), hts _ w2⟩ ⟨pc_blind, pc_at ok hR⟩ rfl hn hl.1 hs (lv_room hr) hd (by rw [hR2]; exact ⟨Nat.le_of_eq f1, Nat.le_of_eq f2⟩)
  intro T hT S
  obtain ⟨v, st₀, t, T', L1, h0, S', hL1, e1, e2, ⟨v2, G', hP, hv3, hrel⟩, go⟩ := run T hT S
  cases hv3
  have hl1 : ∀ q ∈ locs ++ L1, X.B ≤ q.base := fun q hq => (List.mem_append.mp hq).elim (hcl q) (hL1 q)
  have hf2 := stand_fit ok (H := t.heap) e1 S'
  have k1 := kv v2 G' hP t.heap (locs ++ L1) ls hrel hl1 hl
  have hrz : X.V.rel G' t.heap := hrel
  have b1 := hrz.2.1
  have b2 := hrz.2.2.1
  have b3 := hrz.2.2.2.1.1
  have b4 := hrz.2.2.2.2.1.1
  have a0 := ok.2.2.2.2.2.2.2.2.1
  have a1 : X.s.heap.size = X.B + mz X.G0 := a0.2.1
  have a2 : sums X.B X.s.heap = ml X.G0 := a0.2.2.1
  have b5 : X.V.B = X.B := rfl
  obtain ⟨c1, c2⟩ := hf2
  rw [b5] at b1 b2
  obtain ⟨t2, a1, b1⟩ := w_tight (by omega) (Nat.le_refl _) k1 T' e1 S'
  exact ⟨t2, go t2 a1, b1⟩
theorem j_nz (ok : OK X cc own ret nL fr lo) {x : Int32} (d0 : decode cc pc = .ok (.ifCond .eq 7, 3)) (d3 : decode cc (pc + 3) = .ok (.iconst 1, 1)) (d4 : decode cc (pc + 4) = .ok (.goto 4, 3)) (d7 : decode cc (pc + 7) = .ok (.iconst 0, 1)) (k : J X nL (pc + 8) L (.int (bz x) :: st) G) : J X nL pc L (.int x :: st) G := by
  unfold bz at k
  by_cases hx : x = 0
  · rw [if_pos hx] at k
    refine j_if_eq (tgt := pc + 7) ok d0 (by omega) (fun _ => ?_) (fun z => absurd hx z)
    exact j_iconst (v := 0) ok d7 (by decide) k
  · rw [if_neg hx] at k
    refine j_if_eq (tgt := pc + 7) ok d0 (by omega) (fun z => absurd z hx) (fun _ => ?_)
    refine j_iconst (v := 1) ok d3 (by decide) ?_
    exact j_goto (tgt := pc + 8) ok d4 (by omega) k
theorem j_nzl (ok : OK X cc own ret nL fr lo) {x : Int32} (d0 : decode cc pc = .ok (.ifCond .eq 7, 3)) (d3 : decode cc (pc + 3) = .ok (.lconst 1, 1)) (d4 : decode cc (pc + 4) = .ok (.goto 4, 3)) (d7 : decode cc (pc + 7) = .ok (.lconst 0, 1)) (k : J X nL (pc + 8) L (.long (bzl x) :: st) G) : J X nL pc L (.int x :: st) G := by
  unfold bzl at k
  by_cases hx : x = 0
  · rw [if_pos hx] at k
    refine j_if_eq (tgt := pc + 7) ok d0 (by omega) (fun _ => ?_) (fun z => absurd hx z)
    exact j_lconst (v := 0) ok d7 (by decide) k
  · rw [if_neg hx] at k
    refine j_if_eq (tgt := pc + 7) ok d0 (by omega) (fun z => absurd z hx) (fun _ => ?_)
    refine j_lconst (v := 1) ok d3 (by decide) ?_
    exact j_goto (tgt := pc + 8) ok d4 (by omega) k
theorem j_scr (ok : OK X cc own ret nL fr lo) {b n : Nat} {xs : Nat → Int32} (hs : SC X b n xs) {i : Int32} (hin : inb i n) (hd : decode cc pc = .ok (.iaload, 1)) (k : J X nL (pc + 1) L (.int (xs i.toNatClampNeg) :: st) G) : J X nL pc L (.int i :: .ref b :: st) G := by
  obtain ⟨⟨scr, h1, h2, h3, h4, h5⟩, hb⟩ := hs
  intro H locs ls hR hcl hl
  exact W.iald (v := .int (xs i.toNatClampNeg)) ok.1 ok.2.1 (by rw [hR.2.2.2.2.2.1 b hb]; exact h1) h2 h3 (by rw [h4]; exact vpin_of hin) (h5 _ (inb_lt hin)) rfl rfl hd (k H locs ls hR hcl hl)
theorem j_sclen (ok : OK X cc own ret nL fr lo) {b n : Nat} {xs : Nat → Int32} (hs : SC X b n xs) (hd : decode cc pc = .ok (.arraylength, 1)) (k : J X nL (pc + 1) L (.int (Int32.ofNat n) :: st) G) : J X nL pc L (.ref b :: st) G := by
  obtain ⟨⟨scr, h1, h2, h3, h4, h5⟩, hb⟩ := hs
  intro H locs ls hR hcl hl
  exact W.alen (n := Int32.ofNat n) ok.1 ok.2.1 (by rw [hR.2.2.2.2.2.1 b hb]; exact h1) h2 (by rw [h4] <;> rfl) rfl rfl hd (k H locs ls hR hcl hl)
end JLAW
/-- the end of a throwing call, as a relation -/
def PL {α : Type} (z : Option ((α ⊕ Nat) × Mem)) (hs : Nat → α) (c1 c2 : Nat) : α → Mem → Prop := fun v G' => ∃ q, z = some q ∧ match q.1 with
  | .inl a => v = a ∧ G' = q.2
  | .inr k => v = hs k ∧ ∃ d w, d ≤ 1 ∧ w ≤ 6 ∧ G' = caps (bump q.2 d w) c1 c2
theorem pl_wp {α : Type} {z : Option ((α ⊕ Nat) × Mem)} {hs : Nat → α} {c1 c2 : Nat} {K : α → Mem → Prop} (h : wpL z hs c1 c2 K) {v : α} {G' : Mem} (hP : PL z hs c1 c2 v G') : K v G' := by
  obtain ⟨q, rfl, h1⟩ := h
  obtain ⟨q2, e, h2⟩ := hP
  cases e
  cases hq : q.1 with
  | inl a =>
    rw [hq] at h1 h2
    obtain ⟨rfl, rfl⟩ := h2
    exact h1
  | inr k =>
    rw [hq] at h1 h2
    obtain ⟨rfl, d, w, hd, hw, rfl⟩ := h2
    exact h1 d w hd hw

/-! loops of the law's own methods -/
def loopW {σ ρ : Type} (f : σ → Mem → ((σ ⊕ ρ) → Mem → Prop) → Prop) : Nat → σ → Mem → (ρ → Mem → Prop) → Prop
  | 0, _, _, _ => False
  | n + 1, s, G, K => f s G (fun q G' => match q with
    | .inl s' => loopW f n s' G' K
    | .inr r => K r G')
theorem jw_loop {X : Cx} {nL pc : Nat} {σ ρ : Type} {f : σ → Mem → ((σ ⊕ ρ) → Mem → Prop) → Prop} {loc : σ → List (Nat × Value)} {F : ρ → Mem → Prop}
    (body : ∀ (s : σ) (G : Mem) (K : (σ ⊕ ρ) → Mem → Prop), f s G K → (∀ r G', K r G' → finL X nL pc loc F r G') → J X nL pc (loc s) [] G) :
    ∀ (n : Nat) (s : σ) (G : Mem) (K : ρ → Mem → Prop), loopW f n s G K → (∀ r G', K r G' → F r G') → J X nL pc (loc s) [] G := by
  intro n
  induction n with
  | zero => intro s G K h; exact h.elim
  | succ n ih =>
    intro s G K h hF
    refine body s G _ h (fun r G' hr => ?_)
    cases r with
    | inl s' => exact ih s' G' K hr hF
    | inr r => exact hF r G' hr
/-- a loop by an invariant that falls -/
theorem loopW_by {σ ρ : Type} {f : σ → Mem → ((σ ⊕ ρ) → Mem → Prop) → Prop} (inv : Nat → σ → Mem → Prop) (K : ρ → Mem → Prop)
    (step : ∀ k s G, inv k s G → ∀ Q : (σ ⊕ ρ) → Mem → Prop, (∀ k' s' G', k' < k → inv k' s' G' → Q (.inl s') G') → (∀ r G', K r G' → Q (.inr r) G') → f s G Q) :
    ∀ (fu k : Nat) (s : σ) (G : Mem), k < fu → inv k s G → loopW f fu s G K := by
  intro fu
  induction fu with
  | zero => intro k s G h; omega
  | succ n ih =>
    intro k s G h hi
    exact step k s G hi _ (fun k' s' G' hk hi' => ih k' s' G' (by omega) hi') (fun r G' hr => hr)
