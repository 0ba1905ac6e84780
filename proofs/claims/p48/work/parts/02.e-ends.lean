/-! ===== ends, calls, loops, bodies ===== -/
section JEND
variable {X : Cx} {cc : ByteArray} {own : String} {ret : Option FieldType} {nL fr lo pc : Nat} {L L' : List (Nat × Value)} {st : List Value} {G G' : Mem}
theorem sameNew_sizes {s t : State} {locs : List Loc} {k n : Nat} (h : s.sameButNew t locs k n) {H : Heap} (hH : t.heap = H) : s.heap.size ≤ H.size ∧ (∀ q : Nat, q < s.heap.size → (H[q]?).map (fun c : Cell => c.slots.size) = (s.heap[q]?).map (fun c : Cell => c.slots.size)) := by
  obtain ⟨-, h2, -, -, -, h6⟩ := h
  rw [hH] at h2 h6
  refine ⟨h2, fun q hq => ?_⟩
  obtain ⟨c', e1, -, e3, -⟩ := h6 q _ (Array.getElem?_eq_getElem hq)
  rw [e1, Array.getElem?_eq_getElem hq]
  simp [e3]
theorem stand_fit (ok : OK X cc own ret nL fr lo) {H : Heap} {locs : List Loc} {k n : Nat} {T : State} (hT : T.heap = H) (S : Stand X.p X.l X.e X.R X.s X.m X.args X.below X.meth X.c T locs k n) : X.s.heap.size ≤ H.size ∧ sums X.B H = sums X.B X.s.heap + sums X.s.heap.size H := by
  obtain ⟨h1, h2⟩ := sameNew_sizes S.same (H := H) hT
  have h3 : X.s.heap.size = X.B + mz X.G0 := ok.2.2.2.2.2.2.2.2.1.2.1
  exact ⟨h1, sums_split (by omega) rfl h1 h2⟩
theorem w_tight {p : Program} {l : Launch} {e : Env} {R : Room} {s : State} {m : MethodId} {args : Array Value} {below : List Frame} {meth : Method} {c : Code} {H : Heap} {locs : List Loc} {k n k' n' : Nat} {Q : State → Prop} {g : JFrame}
    (h1 : H.size ≤ s.heap.size + k') (h2 : sums s.heap.size H ≤ n') (kk : W p l e R s m args below meth c H locs k' n' Q g) : W p l e R s m args below meth c H locs k n Q g := fun T hT S =>
  kk T hT { S with same := ⟨S.same.1, S.same.2.1, by show T.heap.size ≤ _; rw [hT]; exact h1, S.same.2.2.2.1, by show sums s.heap.size T.heap ≤ n'; rw [hT]; exact h2, S.same.2.2.2.2.2⟩ }
/-- the walk at hand fits the room -/
theorem ok_fit (ok : OK X cc own ret nL fr lo) {H : Heap} {G : Mem} (hR : X.rel G H) (hS : X.s.heap.size ≤ H.size ∧ sums X.B H = sums X.B X.s.heap + sums X.s.heap.size H) : H.size - X.s.heap.size + (X.V.cc - mz G) = X.V.cc - mz X.G0 ∧ sums X.s.heap.size H + (X.V.cs - ml G) = X.V.cs - ml X.G0 := by
  have h1 := ok.2.2.2.2.2.2.2.2.1
  have a1 : X.s.heap.size = X.B + mz X.G0 := h1.2.1
  have a2 : sums X.B X.s.heap = ml X.G0 := h1.2.2.1
  have b1 : H.size = X.B + mz G := hR.2.1
  have b2 : sums X.B H = ml G := hR.2.2.1
  have b3 := hR.2.2.2.1.1
  have b4 := hR.2.2.2.2.1.1
  obtain ⟨s1, s2⟩ := hS
  omega
theorem w_fit (ok : OK X cc own ret nL fr lo) {H : Heap} {locs : List Loc} {k n : Nat} {g : JFrame} (kk : X.s.heap.size ≤ H.size ∧ sums X.B H = sums X.B X.s.heap + sums X.s.heap.size H → W X.p X.l X.e X.R X.s X.m X.args X.below X.meth X.c H locs k n X.Q g) : W X.p X.l X.e X.R X.s X.m X.args X.below X.meth X.c H locs k n X.Q g := fun T hT S => kk (stand_fit ok hT S) T hT S
theorem j_iret (ok : OK X cc own ret nL fr lo) {v : Int32} (hr : ret = some .int) (hd : decode cc pc = .ok (.ireturn, 1)) (he : Ends X (.inl (some (.int v))) G) : J X nL pc L [.int v] G := by
  subst hr
  intro H locs ls hR hcl hl
  refine w_fit ok fun hS => ?_
  obtain ⟨f1, f2⟩ := ok_fit ok hR hS
  rw [he.2]
  exact vx_ret (W.widen (by omega) (by omega) (W.iret ok.1 ok.2.1 ok.2.2.2.2.2.1 (fun t ht hW => ⟨_, rfl, rfl, by rw [ht]; exact hR⟩) hcl hd ok.2.2.2.2.2.2.1))
theorem j_zret (ok : OK X cc own ret nL fr lo) {v : Int32} (hr : ret = some .boolean) (h01 : v = 0 ∨ v = 1) (hd : decode cc pc = .ok (.ireturn, 1)) (he : Ends X (.inl (some (.int v))) G) : J X nL pc L [.int v] G := by
  subst hr
  intro H locs ls hR hcl hl
  refine w_fit ok fun hS => ?_
  obtain ⟨f1, f2⟩ := ok_fit ok hR hS
  rw [he.2]
  exact vx_ret (W.widen (by omega) (by omega) (W.zret ok.1 ok.2.1 ok.2.2.2.2.2.1 (nar01 h01).1 (fun t ht hW => ⟨_, rfl, rfl, by rw [ht]; exact hR⟩) hcl hd ok.2.2.2.2.2.2.1))
theorem j_lret (ok : OK X cc own ret nL fr lo) {v : Int64} (hr : ret = some .long) (hd : decode cc pc = .ok (.lreturn, 1)) (he : Ends X (.inl (some (.long v))) G) : J X nL pc L [.long v] G := by
  subst hr
  intro H locs ls hR hcl hl
  refine w_fit ok fun hS => ?_
  obtain ⟨f1, f2⟩ := ok_fit ok hR hS
  rw [he.2]
  exact vx_ret (W.widen (by omega) (by omega) (W.lret ok.1 ok.2.1 ok.2.2.2.2.2.1 (fun t ht hW => ⟨_, rfl, rfl, by rw [ht]; exact hR⟩) hcl hd ok.2.2.2.2.2.2.1))
theorem j_vret (ok : OK X cc own ret nL fr lo) (hr : ret = none) (hd : decode cc pc = .ok (.return_, 1)) (he : Ends X (.inl none) G) : J X nL pc L [] G := by
  subst hr
  intro H locs ls hR hcl hl
  refine w_fit ok fun hS => ?_
  obtain ⟨f1, f2⟩ := ok_fit ok hR hS
  rw [he.2]
  exact vx_ret (W.widen (by omega) (by omega) (W.vret ok.1 ok.2.1 ok.2.2.2.2.2.1 (fun t ht hW => ⟨_, rfl, rfl, by rw [ht]; exact hR⟩) hcl hd ok.2.2.2.2.2.2.1))
theorem j_aret (ok : OK X cc own ret nL fr lo) {v : Nat} {rt : FieldType} (hr : ret = some rt) (hrt : (∃ n, rt = .object n) ∨ ∃ t, rt = .array t) (hd : decode cc pc = .ok (.areturn, 1)) (he : Ends X (.inl (some (.ref (X.B + v)))) G) : J X nL pc L [.ref (X.B + v)] G := by
  subst hr
  intro H locs ls hR hcl hl
  refine w_fit ok fun hS => ?_
  obtain ⟨f1, f2⟩ := ok_fit ok hR hS
  rw [he.2]
  exact vx_ret (W.widen (by omega) (by omega) (W.aret ok.1 ok.2.1 ok.2.2.2.2.2.1 hrt (Or.inr ⟨_, rfl⟩) (fun t ht hW => ⟨_, rfl, rfl, by rw [ht]; exact hR⟩) hcl hd ok.2.2.2.2.2.2.1))
/-- behind a call -/
theorem j_fin (ok : OK X cc own ret nL fr lo) {H : Heap} {locs : List Loc} {ls : Array Slot} {stk : List Value} {as : Array Value} {r : Option Value ⊕ Nat} {G1 : Mem} (hR : X.rel G H) (hcl : ∀ q ∈ locs, X.B ≤ q.base) (hl : lv_has ls nL L)
    (run : vx_Run X.p X.l X.e X.R X.s X.m X.args X.below X.meth X.c H locs (H.size - X.s.heap.size) (sums X.s.heap.size H) (X.V.cc - mz G) (X.V.cs - ml G) (F0 X.m pc ls stk) st (qcOf X.V r G1 as) (xcOf X.V r G1) (fun q => X.B ≤ q))
    (kv : ∀ v, r = .inl v → J X nL (pc + 3) L (v.toList ++ st) G1) (kx : ∀ k, r = .inr k → Ends X (.inr k) G1) : W X.p X.l X.e X.R X.s X.m X.args X.below X.meth X.c H locs (H.size - X.s.heap.size) (sums X.s.heap.size H) X.Q (F0 X.m pc ls stk) := by
  intro T hT S
  have hfit := ok_fit ok hR (stand_fit ok hT S)
  rcases run T hT S with ⟨v, st₀, t, T', L1, h0, S', hL1, e1, e2, ⟨v2, hv2, hv3, hrel⟩, go⟩ | ⟨q, st₀, t, T', L1, E, ce, h0, S', hL1, e1, e2, ⟨k, hk, hE, hrel⟩, hce, hcv, hcl9, go⟩
  · cases hv3
    have hl1 : ∀ q ∈ locs ++ L1, X.B ≤ q.base := fun q hq => (List.mem_append.mp hq).elim (hcl q) (hL1 q)
    have hf2 := stand_fit ok (H := t.heap) e1 S'
    have k1 := kv v hv2 t.heap (locs ++ L1) ls hrel hl1 hl
    obtain ⟨t2, a1, b1⟩ := w_tight (by omega) (Nat.le_refl _) k1 T' e1 S'
    exact ⟨t2, go t2 a1, b1⟩
  · subst hE
    have hl1 : ∀ q ∈ locs ++ L1, X.B ≤ q.base := fun q hq => (List.mem_append.mp hq).elim (hcl q) (hL1 q)
    have he := kx k hk
    have k1 : vx_W X.p X.l X.e X.R X.s X.m X.args X.below X.meth X.c t.heap (locs ++ L1) (H.size - X.s.heap.size + (X.V.cc - mz G)) (sums X.s.heap.size H + (X.V.cs - ml G)) X.Q (F0 X.m pc ls st) q := by
      rw [he.2]
      exact vx_out (E := exN k) (fun x hx => (he.1 x hx).elim) ok.2.2.2.2.2.2.1 hce hcv hcl9 (fun t2 ht2 _ => ⟨k, rfl, rfl, by rw [ht2]; exact hrel⟩) hl1 (by omega) (by omega)
    obtain ⟨t2, a1, b1⟩ := k1 T' e1 S'
    exact ⟨t2, go.trans a1, b1⟩
theorem pc_blind {V : Wd} {as : List Value} {G : Mem} : FrameBlind (pcOf V as G) := fun a U g mk h => ⟨h.1, h.2.1, KW.warm (u := U) (U := U.calling g mk a) (State.WarmedH.refl U) h.2.2⟩
theorem pc_at (ok : OK X cc own ret nL fr lo) {H : Heap} {as : List Value} (hR : X.rel G H) : ∀ U : State, U.heap = H → X.s.WarmedH U.vm → pcOf X.V as G as.toArray U := fun U hU hW => ⟨rfl, by rw [hU]; exact hR, KW.warm hW ok.2.2.2.2.2.2.2.2.2.1⟩
theorem ok_fix (ok : OK X cc own ret nL fr lo) : CallFix X.p X.m X.c cc nL X.s X.args WT own := ⟨ok.1, ok.2.1, ok.2.2.1, ok.2.2.2.1, ok.2.2.2.2.1⟩
theorem wt_good {w : Cond} (h : w ∈ WT) : w ∈ WT ∧ ((w.onTables && w.keeps) = true ∨ ∃ ty, w = .arrayClass ty) := ⟨h, good_of_word (List.mem_filter.mp h).2⟩
theorem wt_all {y : MethodName} {bytes : ByteArray} {maxL : Nat} {ret : Option FieldType} (h : Cond.code y bytes maxL ret ∈ WT) : GoodIn WT (Cond.code y bytes maxL ret :: WT) := fun w hw => by
  rcases List.mem_cons.mp hw with rfl | hw
  · exact wt_good h
  · exact wt_good hw
/-- receiver: an object of kind ci -/
theorem j_recv (ok : OK X cc own ret nL fr lo) {H : Heap} (hR : X.rel G H) {ci o : Nat} {C : String} {T : u_T} {N : Nat} (hc : cls[ci]? = some (C, T, N)) (ht : mt G o = ci + 10) : ∃ cell : Cell, H[X.B + o]? = some cell ∧ cell.vm.isStatics = false ∧ X.s.vm.findClass C = some cell.cls := by
  have hcell := hR.2.2.2.2.2.2.1 o (by omega)
  rw [cellE_obj ht] at hcell
  exact va_recv (q := (C, T, N)) ok.k (va_P1 hcell) (ci := ci) (q0 := 0) hc rfl
/-- a call of an object's own method -/
theorem j_callV (ok : OK X cc own ret nL fr lo) {ci : Nat} {C : String} {T : u_T} {N : Nat} (hc : cls[ci]? = some (C, T, N)) {y : MethodName} {bytes : ByteArray} {maxL index n fr' lo' : Nat} {ret' : Option FieldType} (w1 : Cond.methodLink own index y ∈ WT) (w2 : Cond.instanceMethod y ∈ WT) (w3 : Cond.selects C y y ∈ WT) (w4 : Cond.initialized C ∈ WT) (w5 : Cond.code y bytes maxL ret' ∈ WT)
    (hy : y.cls = C ∧ y.cls ≠ "java/lang/invoke/MethodHandle" ∧ y.cls ≠ "java/lang/invoke/VarHandle" ∧ (parseMethodDescriptor y.desc).map (fun d => d.parameters.length) = some n) (hf : fr' + 1 ≤ fr ∧ 8 + (maxL + 11) + lo' ≤ lo) {o : Nat} {As stk : List Value} {r : Option Value ⊕ Nat} {G1 : Mem} (ht : mt G o = ci + 10)
    (hn : As.length = n) (hs : stk = As.reverse ++ .ref (X.B + o) :: st) (hr : (st.map fun v => v.category).sum ≤ 8) (hM : Mx X.l y bytes maxL ret' fr' lo' X.V (.ref (X.B + o) :: As) G r G1) (hd : decode cc pc = .ok (.invokevirtual index, 3))
    (kv : ∀ v, r = .inl v → J X nL (pc + 3) L (v.toList ++ st) G1) (kx : ∀ k, r = .inr k → Ends X (.inr k) G1) : J X nL pc L stk G := by
  intro H locs ls hR hcl hl
  have hgi : GoodIn WT (wsV own index C y (Cond.code y bytes maxL ret' :: WT)) := fun w hw => by
    rcases List.mem_append.mp hw with h | h
    · simp only [List.mem_cons, List.not_mem_nil, or_false] at h
      rcases h with rfl | rfl | rfl | rfl
      · exact wt_good w1
      · exact wt_good w2
      · exact wt_good w3
      · exact wt_good w4
    · exact wt_all w5 w h
  have hR2 : X.R = rmOf fr lo X.V X.G0 := ok.2.2.2.2.2.2.2.1
  refine w_fit ok fun hS => ?_
  obtain ⟨f1, f2⟩ := ok_fit ok hR hS
  refine j_fin ok hR hcl hl (vx_runV (ok_fix ok) hM (cwV n ok.2.2.2.2.1 hgi rfl rfl rfl hy (by rw [hR2]; exact hf)) ⟨pc_blind, j_recv ok hR hc ht, pc_at ok hR⟩ rfl hn hl.1 hs (lv_room hr) hd (by rw [hR2]; exact ⟨Nat.le_of_eq f1, Nat.le_of_eq f2⟩)) kv kx
/-- a call of a static method of one's own class -/
theorem j_callS (ok : OK X cc own ret nL fr lo) {y : MethodName} {bytes : ByteArray} {maxL index n fr' lo' : Nat} {ret' : Option FieldType} (w1 : Cond.methodLink own index y ∈ WT) (w2 : Cond.static y ∈ WT) (w4 : Cond.initialized y.cls ∈ WT) (w5 : Cond.code y bytes maxL ret' ∈ WT)
    (hy : y.cls ≠ "java/lang/invoke/MethodHandle" ∧ y.cls ≠ "java/lang/invoke/VarHandle" ∧ (parseMethodDescriptor y.desc).map (fun d => d.parameters.length) = some n) (hf : fr' + 1 ≤ fr ∧ 8 + (maxL + 11) + lo' ≤ lo) {As stk : List Value} {r : Option Value ⊕ Nat} {G1 : Mem}
    (hn : As.length = n) (hs : stk = As.reverse ++ st) (hr : (st.map fun v => v.category).sum ≤ 8) (hM : Mx X.l y bytes maxL ret' fr' lo' X.V As G r G1) (hd : decode cc pc = .ok (.invokestatic index, 3))
    (kv : ∀ v, r = .inl v → J X nL (pc + 3) L (v.toList ++ st) G1) (kx : ∀ k, r = .inr k → Ends X (.inr k) G1) : J X nL pc L stk G := by
  intro H locs ls hR hcl hl
  have hR2 : X.R = rmOf fr lo X.V X.G0 := ok.2.2.2.2.2.2.2.1
  have hts := ok.2.2.2.2.1
  refine w_fit ok fun hS => ?_
  obtain ⟨f1, f2⟩ := ok_fit ok hR hS
  refine j_fin ok hR hcl hl (vx_runS (ok_fix ok) hM ⟨callB_of n hts (wt_all w5) rfl rfl rfl (hts _ w4) (hts _ w1) hy (by rw [hR2]; exact hf), hts _ w2⟩ ⟨pc_blind, pc_at ok hR⟩ rfl hn hl.1 hs (lv_room hr) hd (by rw [hR2]; exact ⟨Nat.le_of_eq f1, Nat.le_of_eq f2⟩)) kv kx
/-- from a body's walk to its contract -/
theorem mx_of {l : Launch} {y : MethodName} {V : Wd} {as : List Value} {r : Option Value ⊕ Nat} (hfl : l.stackTraces = false) (hy : plainName y.cls = true) (hn : (lg_sl as).length ≤ nL) (hL : lv_args 0 as = L)
    (body : ∀ X : Cx, X.l = l → X.V = V → (y.name = "<init>" → X.meth.name = "<init>") → OK X cc y.cls ret nL fr lo → Ends X r G' → J X nL 0 L [] G) : Mx l y cc nL ret fr lo V as G r G' := by
  refine vx_ofW (cc := cc) (maxL := nL) (ret := ret) hy rfl ?_
  intro p e s m args below meth c s₁ B hml htab hv
  obtain ⟨rfl, hR, hK⟩ := hv
  have hts := atoms_spec (ws := Cond.code y cc nL ret :: WT) B.pre
  have h := body (p, l, e, rmOf fr lo V G, s, m, as.toArray, below, meth, c, vx_MQ below (qcOf V r G') (xcOf V r G') as.toArray s (V.cc - mz G) (V.cs - ml G) (fun q => V.B ≤ q), V, G) rfl rfl (fun hi => by rw [← hi]; exact (name_of_methodNamed B.named B.method).1)
    ⟨B.exec, B.bytes, hml, findClass_of_methodNamed B.named, fun w hw => hts w (List.mem_cons_of_mem _ hw), B.returns, B.notSynchronized, rfl, hR, hK, trivial, hfl⟩ ⟨htab, rfl⟩ s.heap [] ((lg_sl as ++ List.replicate (nL - (lg_sl as).length) Slot.unset).toArray) hR (fun q hq => by cases hq) (by rw [← hL]; exact lv_entry as hn)
  rw [lg_entry_eq]
  have e1 : s.heap.size - s.heap.size = 0 := Nat.sub_self _
  have e2 : sums s.heap.size s.heap = 0 := by
    unfold sums
    rw [List.drop_eq_nil_of_le (by simp)]
    rfl
  have h' : W p l e (rmOf fr lo V G) s m as.toArray below meth c s.heap [] (s.heap.size - s.heap.size) (sums s.heap.size s.heap) _ _ := h
  rw [e1, e2] at h'
  exact h'
end JEND
/-! loops -/
def loopM {σ ρ : Type} (f : σ → Mem → Option ((σ ⊕ ρ) × Mem)) : Nat → σ → Mem → Option (ρ × Mem)
  | 0, _, _ => none
  | n + 1, s, G => (f s G).bind fun q => match q.1 with
    | .inl s' => loopM f n s' q.2
    | .inr r => some (r, q.2)
def FU : Nat := 100000
def liftE {σ ρ : Type} (x : Option (ρ × Mem)) : Option ((σ ⊕ ρ) × Mem) := x.bind fun q => some (.inr q.1, q.2)
theorem lift_some {σ ρ : Type} {x : Option (ρ × Mem)} {r : σ ⊕ ρ} {G : Mem} (h : liftE x = some (r, G)) : ∃ r1, r = .inr r1 ∧ x = some (r1, G) := by
  obtain ⟨⟨a, b⟩, h1, h2⟩ := obind h
  cases h2
  exact ⟨a, rfl, h1⟩
/-- a method that may throw has thrown, or goes on -/
def thr {α ρ : Type} (x : α ⊕ Nat) (f : α → Option ((ρ ⊕ Nat) × Mem)) (G : Mem) : Option ((ρ ⊕ Nat) × Mem) := match x with
  | .inl v => f v
  | .inr k => some (.inr k, G)
def finI (X : Cx) (v : Int32) (G : Mem) : Prop := Ends X (.inl (some (.int v))) G
def finJ (X : Cx) (v : Int64) (G : Mem) : Prop := Ends X (.inl (some (.long v))) G
def finV (X : Cx) (_ : Unit) (G : Mem) : Prop := Ends X (.inl none) G
def finR (X : Cx) (v : Nat) (G : Mem) : Prop := Ends X (.inl (some (.ref (X.B + v)))) G
def finT {ρ : Type} (X : Cx) (F : ρ → Mem → Prop) (r : ρ ⊕ Nat) (G : Mem) : Prop := match r with
  | .inl v => F v G
  | .inr k => Ends X (.inr k) G
def finL {σ ρ : Type} (X : Cx) (nL pc : Nat) (loc : σ → List (Nat × Value)) (F : ρ → Mem → Prop) (r : σ ⊕ ρ) (G : Mem) : Prop := match r with
  | .inl s => J X nL pc (loc s) [] G
  | .inr q => F q G
theorem j_loop {X : Cx} {nL pc : Nat} {σ ρ : Type} {f : σ → Mem → Option ((σ ⊕ ρ) × Mem)} {loc : σ → List (Nat × Value)} {F : ρ → Mem → Prop}
    (body : ∀ (s : σ) (G : Mem) (r : σ ⊕ ρ) (G' : Mem), f s G = some (r, G') → finL X nL pc loc F r G' → J X nL pc (loc s) [] G) :
    ∀ (n : Nat) (s : σ) (G : Mem) (r : ρ) (G' : Mem), loopM f n s G = some (r, G') → F r G' → J X nL pc (loc s) [] G := by
  intro n
  induction n with
  | zero => intro s G r G' h; cases h
  | succ n ih =>
    intro s G r G' h hF
    obtain ⟨⟨q, G1⟩, h1, h2⟩ := obind h
    cases q with
    | inl s' => exact body s G _ G1 h1 (ih s' G1 r G' h2 hF)
    | inr r1 =>
      cases h2
      exact body s G _ _ h1 hF
