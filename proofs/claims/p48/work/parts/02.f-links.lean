/-! ===== what a link of a class says; rows by it ===== -/
def FL (own C : String) (T : u_T) (N ci k index : Nat) (x : Bool) : Prop := (∀ w ∈ u_ws C T N, w ∈ WT) ∧ cls[ci]? = some (C, T, N) ∧ k < N ∧ Cond.fieldLink own index (T k).1 (T k).2.1 (T k).2.2.1 ∈ WT ∧ (fk (ci + 10))[k]? = some x
def FP (C : String) (T : u_T) (N : Nat) (ty0 : Nat → FieldType) : Prop := (∀ k, k < N → parseFieldDescriptor (T k).2.2.1 = some (ty0 k)) ∧ (∀ a, a < N → ∀ b, b < N → a ≠ b → (T a).2.1 ≠ (T b).2.1)
def CLV (own C : String) (ci index : Nat) (y : MethodName) (bytes : ByteArray) (maxL : Nat) (ret' : Option FieldType) (n : Nat) : Prop := (∃ T N, cls[ci]? = some (C, T, N)) ∧ Cond.methodLink own index y ∈ WT ∧ Cond.instanceMethod y ∈ WT ∧ Cond.selects C y y ∈ WT ∧ Cond.initialized C ∈ WT ∧ Cond.code y bytes maxL ret' ∈ WT ∧ (y.cls = C ∧ y.cls ≠ "java/lang/invoke/MethodHandle" ∧ y.cls ≠ "java/lang/invoke/VarHandle" ∧ (parseMethodDescriptor y.desc).map (fun d => d.parameters.length) = some n)
def CLS (own : String) (index : Nat) (y : MethodName) (bytes : ByteArray) (maxL : Nat) (ret' : Option FieldType) (n : Nat) : Prop := Cond.methodLink own index y ∈ WT ∧ Cond.static y ∈ WT ∧ Cond.initialized y.cls ∈ WT ∧ Cond.code y bytes maxL ret' ∈ WT ∧ (y.cls ≠ "java/lang/invoke/MethodHandle" ∧ y.cls ≠ "java/lang/invoke/VarHandle" ∧ (parseMethodDescriptor y.desc).map (fun d => d.parameters.length) = some n)
def ck {α : Type} (G : Mem) (t o : Nat) (x : Option α) : Option α := if mt G o = t then x else none
theorem ck_some {α : Type} {G : Mem} {t o : Nat} {x : Option α} {v : α} (h : ck G t o x = some v) : mt G o = t ∧ x = some v := ite_get2 h
/-- a boolean that is given back -/
def rz {α : Type} (v : Int32) (x : Option α) : Option α := if v = 0 ∨ v = 1 then x else none
theorem rz_some {α : Type} {v : Int32} {x : Option α} {r : α} (h : rz v x = some r) : (v = 0 ∨ v = 1) ∧ x = some r := ite_get2 h
def dz {α : Type} (v : Int32) (x : Option α) : Option α := if v = 0 then none else x
theorem dz_some {α : Type} {v : Int32} {x : Option α} {r : α} (h : dz v x = some r) : ¬ v = 0 ∧ x = some r := by
  unfold dz at h
  by_cases hv : v = 0
  · rw [if_pos hv] at h; cases h
  · rw [if_neg hv] at h; exact ⟨hv, h⟩
def rzI (r : Int32 ⊕ Nat) : Option Value ⊕ Nat := match r with
  | .inl v => .inl (some (.int v))
  | .inr k => .inr k
def rzJ (r : Int64 ⊕ Nat) : Option Value ⊕ Nat := match r with
  | .inl v => .inl (some (.long v))
  | .inr k => .inr k
def rzV (r : Unit ⊕ Nat) : Option Value ⊕ Nat := match r with
  | .inl _ => .inl none
  | .inr k => .inr k
section JLINK
variable {X : Cx} {cc : ByteArray} {own : String} {ret : Option FieldType} {nL fr lo pc : Nat} {L L' : List (Nat × Value)} {st : List Value} {G G' : Mem}
theorem OK.fl (ok : OK X cc own ret nL fr lo) : X.l.stackTraces = false := ok.2.2.2.2.2.2.2.2.2.2.2
theorem k_getI (ok : OK X cc own ret nL fr lo) {C : String} {T : u_T} {N ci k index : Nat} (f : FL own C T N ci k index false) {a : Nat} {v : Int32} (hv : gF G (ci + 10) a k = some v) (hd : decode cc pc = .ok (.getfield index, 3)) (kk : J X nL (pc + 3) L (.int v :: st) G) : J X nL pc L (.ref (X.B + a) :: st) G := j_getI ok f.1 f.2.1 k f.2.2.1 f.2.2.2.1 f.2.2.2.2 hv hd kk
theorem k_getR (ok : OK X cc own ret nL fr lo) {C : String} {T : u_T} {N ci k index : Nat} (f : FL own C T N ci k index true) {a v : Nat} (hv : gR G (ci + 10) a k = some v) (hd : decode cc pc = .ok (.getfield index, 3)) (kk : J X nL (pc + 3) L (.ref (X.B + v) :: st) G) : J X nL pc L (.ref (X.B + a) :: st) G := j_getR ok f.1 f.2.1 k f.2.2.1 f.2.2.2.1 f.2.2.2.2 hv hd kk
theorem k_putI (ok : OK X cc own ret nL fr lo) {C : String} {T : u_T} {N ci k index : Nat} (f : FL own C T N ci k index false) {ty0 : Nat → FieldType} (g : FP C T N ty0) (hi : ty0 k = .int) (hfin : (T k).2.2.2 = false ∨ ((T k).2.2.2 = true ∧ X.meth.name = "<init>" ∧ (T k).1 = own)) {a : Nat} {v : Int32} (hv : pI G (ci + 10) a k v = some G') (hd : decode cc pc = .ok (.putfield index, 3)) (kk : J X nL (pc + 3) L st G') : J X nL pc L (.int v :: .ref (X.B + a) :: st) G := by
  obtain ⟨ht, rfl⟩ := ite_get hv
  exact j_put ok f.1 ty0 g.1 g.2 f.2.1 k f.2.2.1 f.2.2.2.1 hfin f.2.2.2.2 ht (by rw [hi]; rfl) (by rw [hi]; rfl) (sI_ok rfl) hd kk
theorem k_putZ (ok : OK X cc own ret nL fr lo) {C : String} {T : u_T} {N ci k index : Nat} (f : FL own C T N ci k index false) {ty0 : Nat → FieldType} (g : FP C T N ty0) (hi : ty0 k = .boolean) (hfin : (T k).2.2.2 = false ∨ ((T k).2.2.2 = true ∧ X.meth.name = "<init>" ∧ (T k).1 = own)) {a : Nat} {v : Int32} (hv : pZ G (ci + 10) a k v = some G') (hd : decode cc pc = .ok (.putfield index, 3)) (kk : J X nL (pc + 3) L st G') : J X nL pc L (.int v :: .ref (X.B + a) :: st) G := by
  obtain ⟨⟨ht, h01⟩, rfl⟩ := ite_get hv
  exact j_put ok f.1 ty0 g.1 g.2 f.2.1 k f.2.2.1 f.2.2.2.1 hfin f.2.2.2.2 ht (by rw [hi]; exact (nar01 h01).1) (by rw [hi]; exact (nar01 h01).2) (sI_ok rfl) hd kk
theorem k_putR (ok : OK X cc own ret nL fr lo) {C : String} {T : u_T} {N ci k index : Nat} (f : FL own C T N ci k index true) {ty0 : Nat → FieldType} (g : FP C T N ty0) {t : FieldType} (hi : ty0 k = t) (ht2 : (∃ n, t = .object n) ∨ ∃ u, t = .array u) (hfin : (T k).2.2.2 = false ∨ ((T k).2.2.2 = true ∧ X.meth.name = "<init>" ∧ (T k).1 = own)) {a v : Nat} (hv : pR G (ci + 10) a k v = some G') (hd : decode cc pc = .ok (.putfield index, 3)) (kk : J X nL (pc + 3) L st G') : J X nL pc L (.ref (X.B + v) :: .ref (X.B + a) :: st) G := by
  obtain ⟨ht, rfl⟩ := ite_get hv
  exact j_put ok f.1 ty0 g.1 g.2 f.2.1 k f.2.2.1 f.2.2.2.1 hfin f.2.2.2.2 ht (by rw [hi]; rcases ht2 with ⟨n, rfl⟩ | ⟨n, rfl⟩ <;> rfl) (by rw [hi]; rcases ht2 with ⟨n, rfl⟩ | ⟨n, rfl⟩ <;> rfl) (sP_ok rfl) hd kk
theorem k_V (ok : OK X cc own ret nL fr lo) {C : String} {ci : Nat} {y : MethodName} {bytes : ByteArray} {maxL index n fr' lo' : Nat} {ret' : Option FieldType} (f : CLV own C ci index y bytes maxL ret' n) (hf : fr' + 1 ≤ fr ∧ 8 + (maxL + 11) + lo' ≤ lo) {o : Nat} (As : List Value) {stk : List Value} {r : Option Value ⊕ Nat} {G1 : Mem} (ht : mt G o = ci + 10)
    (hn : As.length = n) (hs : stk = As.reverse ++ .ref (X.B + o) :: st) (hr : (st.map fun v => v.category).sum ≤ 8) (hM : Mx X.l y bytes maxL ret' fr' lo' X.V (.ref (X.B + o) :: As) G r G1) (hd : decode cc pc = .ok (.invokevirtual index, 3))
    (kv : ∀ v, r = .inl v → J X nL (pc + 3) L (v.toList ++ st) G1) (kx : ∀ k, r = .inr k → Ends X (.inr k) G1) : J X nL pc L stk G := by
  obtain ⟨⟨T, N, hc⟩, w1, w2, w3, w4, w5, hy⟩ := f
  exact j_callV ok hc w1 w2 w3 w4 w5 hy hf ht hn hs hr hM hd kv kx
theorem k_V1 (ok : OK X cc own ret nL fr lo) {C : String} {ci : Nat} {y : MethodName} {bytes : ByteArray} {maxL index n fr' lo' : Nat} {ret' : Option FieldType} (f : CLV own C ci index y bytes maxL ret' n) (hf : fr' + 1 ≤ fr ∧ 8 + (maxL + 11) + lo' ≤ lo) {o : Nat} (As : List Value) {stk : List Value} {v : Value} {G1 : Mem} (ht : mt G o = ci + 10)
    (hn : As.length = n) (hs : stk = As.reverse ++ .ref (X.B + o) :: st) (hr : (st.map fun v => v.category).sum ≤ 8) (hM : Mx X.l y bytes maxL ret' fr' lo' X.V (.ref (X.B + o) :: As) G (.inl (some v)) G1) (hd : decode cc pc = .ok (.invokevirtual index, 3))
    (kv : J X nL (pc + 3) L (v :: st) G1) : J X nL pc L stk G := k_V ok f hf As ht hn hs hr hM hd (fun w e => by cases e; exact kv) (fun k e => by cases e)
theorem k_V0 (ok : OK X cc own ret nL fr lo) {C : String} {ci : Nat} {y : MethodName} {bytes : ByteArray} {maxL index n fr' lo' : Nat} {ret' : Option FieldType} (f : CLV own C ci index y bytes maxL ret' n) (hf : fr' + 1 ≤ fr ∧ 8 + (maxL + 11) + lo' ≤ lo) {o : Nat} (As : List Value) {stk : List Value} {G1 : Mem} (ht : mt G o = ci + 10)
    (hn : As.length = n) (hs : stk = As.reverse ++ .ref (X.B + o) :: st) (hr : (st.map fun v => v.category).sum ≤ 8) (hM : Mx X.l y bytes maxL ret' fr' lo' X.V (.ref (X.B + o) :: As) G (.inl none) G1) (hd : decode cc pc = .ok (.invokevirtual index, 3))
    (kv : J X nL (pc + 3) L st G1) : J X nL pc L stk G := k_V ok f hf As ht hn hs hr hM hd (fun w e => by cases e; exact kv) (fun k e => by cases e)
theorem k_VX (ok : OK X cc own ret nL fr lo) {C : String} {ci : Nat} {y : MethodName} {bytes : ByteArray} {maxL index n fr' lo' : Nat} {ret' : Option FieldType} (f : CLV own C ci index y bytes maxL ret' n) (hf : fr' + 1 ≤ fr ∧ 8 + (maxL + 11) + lo' ≤ lo) {o : Nat} (As : List Value) {stk : List Value} {k : Nat} {G1 : Mem} (ht : mt G o = ci + 10)
    (hn : As.length = n) (hs : stk = As.reverse ++ .ref (X.B + o) :: st) (hr : (st.map fun v => v.category).sum ≤ 8) (hM : Mx X.l y bytes maxL ret' fr' lo' X.V (.ref (X.B + o) :: As) G (.inr k) G1) (hd : decode cc pc = .ok (.invokevirtual index, 3))
    (kx : Ends X (.inr k) G1) : J X nL pc L stk G := k_V ok f hf As ht hn hs hr hM hd (fun w e => by cases e) (fun k e => by cases e; exact kx)
theorem k_S (ok : OK X cc own ret nL fr lo) {y : MethodName} {bytes : ByteArray} {maxL index n fr' lo' : Nat} {ret' : Option FieldType} (f : CLS own index y bytes maxL ret' n) (hf : fr' + 1 ≤ fr ∧ 8 + (maxL + 11) + lo' ≤ lo) (As : List Value) {stk : List Value} {r : Option Value ⊕ Nat} {G1 : Mem}
    (hn : As.length = n) (hs : stk = As.reverse ++ st) (hr : (st.map fun v => v.category).sum ≤ 8) (hM : Mx X.l y bytes maxL ret' fr' lo' X.V As G r G1) (hd : decode cc pc = .ok (.invokestatic index, 3))
    (kv : ∀ v, r = .inl v → J X nL (pc + 3) L (v.toList ++ st) G1) (kx : ∀ k, r = .inr k → Ends X (.inr k) G1) : J X nL pc L stk G := by
  obtain ⟨w1, w2, w4, w5, hy⟩ := f
  exact j_callS ok w1 w2 w4 w5 hy hf hn hs hr hM hd kv kx
theorem k_S1 (ok : OK X cc own ret nL fr lo) {y : MethodName} {bytes : ByteArray} {maxL index n fr' lo' : Nat} {ret' : Option FieldType} (f : CLS own index y bytes maxL ret' n) (hf : fr' + 1 ≤ fr ∧ 8 + (maxL + 11) + lo' ≤ lo) (As : List Value) {stk : List Value} {v : Value} {G1 : Mem}
    (hn : As.length = n) (hs : stk = As.reverse ++ st) (hr : (st.map fun v => v.category).sum ≤ 8) (hM : Mx X.l y bytes maxL ret' fr' lo' X.V As G (.inl (some v)) G1) (hd : decode cc pc = .ok (.invokestatic index, 3))
    (kv : J X nL (pc + 3) L (v :: st) G1) : J X nL pc L stk G := k_S ok f hf As hn hs hr hM hd (fun w e => by cases e; exact kv) (fun k e => by cases e)
theorem k_S0 (ok : OK X cc own ret nL fr lo) {y : MethodName} {bytes : ByteArray} {maxL index n fr' lo' : Nat} {ret' : Option FieldType} (f : CLS own index y bytes maxL ret' n) (hf : fr' + 1 ≤ fr ∧ 8 + (maxL + 11) + lo' ≤ lo) (As : List Value) {stk : List Value} {G1 : Mem}
    (hn : As.length = n) (hs : stk = As.reverse ++ st) (hr : (st.map fun v => v.category).sum ≤ 8) (hM : Mx X.l y bytes maxL ret' fr' lo' X.V As G (.inl none) G1) (hd : decode cc pc = .ok (.invokestatic index, 3))
    (kv : J X nL (pc + 3) L st G1) : J X nL pc L stk G := k_S ok f hf As hn hs hr hM hd (fun w e => by cases e; exact kv) (fun k e => by cases e)
theorem k_SX (ok : OK X cc own ret nL fr lo) {y : MethodName} {bytes : ByteArray} {maxL index n fr' lo' : Nat} {ret' : Option FieldType} (f : CLS own index y bytes maxL ret' n) (hf : fr' + 1 ≤ fr ∧ 8 + (maxL + 11) + lo' ≤ lo) (As : List Value) {stk : List Value} {k : Nat} {G1 : Mem}
    (hn : As.length = n) (hs : stk = As.reverse ++ st) (hr : (st.map fun v => v.category).sum ≤ 8) (hM : Mx X.l y bytes maxL ret' fr' lo' X.V As G (.inr k) G1) (hd : decode cc pc = .ok (.invokestatic index, 3))
    (kx : Ends X (.inr k) G1) : J X nL pc L stk G := k_S ok f hf As hn hs hr hM hd (fun w e => by cases e) (fun k e => by cases e; exact kx)
end JLINK
