/-! ===== calls of inherited methods, of the superclass's own; rows of Strings made ===== -/
theorem sel_priv {C : String} {y z : MethodName} {s : State} {args : Array Value} (hzy : z.cls = y.cls) (hy : y.cls ≠ "java/lang/invoke/MethodHandle" ∧ y.cls ≠ "java/lang/invoke/VarHandle") (h0 : (Cond.selects C z z).before args s = true) (hpriv : (Cond.privateMethod y).before args s = true) (hinst : (Cond.instanceMethod y).before args s = true) : (Cond.selects C y y).before args s = true := by
  obtain ⟨mk, methM, hnamed, hmethM, -, -⟩ := Cond.instanceMethod_spec hinst
  have hfound := State.methodFound?_of_named hnamed hy
  have hpv := Cond.privateMethod_at hpriv mk methM hnamed hmethM
  have hcy := findClass_of_methodNamed hnamed
  simp only [Cond.before, Cond.holds, Cond.value] at h0 ⊢
  cases hc : s.vm.findClass C with
  | none => simp [hc] at h0
  | some c =>
    have hsel : selectMethod {} s.vm c mk = .method mk := selectMethod_private hmethM hpv
    cases hf : s.methodFound? z.cls z.name z.desc with
    | none => simp [hc, hf] at h0
    | some r =>
      cases hm : s.methodNamed? z with
      | none => simp [hc, hf, hm] at h0
      | some m =>
        have hcz := findClass_of_methodNamed hm
        have e : mk.cls = m.cls := by rw [hzy, hcy] at hcz; exact Option.some.inj hcz
        simp only [hc, hf, hm] at h0
        simp only [hfound, hnamed, hsel, e]
        cases hs : selectMethod {} s.vm c r <;> simp [hs] at h0 ⊢
        exact h0.2
/-- an inherited method, or one that overrides what the link names -/
def CLU (own C : String) (ci index : Nat) (x y : MethodName) (bytes : ByteArray) (maxL : Nat) (ret' : Option FieldType) (n : Nat) : Prop := (∃ T N, cls[ci]? = some (C, T, N)) ∧ Cond.methodLink own index x ∈ WT ∧ Cond.sameMethod x.cls x.cls x.name x.desc ∈ WT ∧ Cond.selects C x y ∈ WT ∧ Cond.instanceMethod x ∈ WT ∧ (∃ b0 m0 r0, Cond.code x b0 m0 r0 ∈ WT) ∧ Cond.instanceMethod y ∈ WT ∧ Cond.initialized y.cls ∈ WT ∧ Cond.code y bytes maxL ret' ∈ WT ∧ (x.cls ≠ "java/lang/invoke/MethodHandle" ∧ x.cls ≠ "java/lang/invoke/VarHandle" ∧ (parseMethodDescriptor x.desc).map (fun d => d.parameters.length) = some n)
/-- super.m(..) -/
def CLP (own C : String) (ci index : Nat) (y : MethodName) (bytes : ByteArray) (maxL : Nat) (ret' : Option FieldType) (n : Nat) : Prop := (∃ T N, cls[ci]? = some (C, T, N)) ∧ Cond.methodLink own index y ∈ WT ∧ Cond.sameMethod y.cls y.cls y.name y.desc ∈ WT ∧ Cond.superclass own y.cls ∈ WT ∧ Cond.instanceMethod y ∈ WT ∧ Cond.initialized y.cls ∈ WT ∧ Cond.code y bytes maxL ret' ∈ WT ∧ (y.name ≠ "<init>" ∧ (parseMethodDescriptor y.desc).map (fun d => d.parameters.length) = some n)
section JUP
variable {X : Cx} {cc : ByteArray} {own : String} {ret : Option FieldType} {nL fr lo pc : Nat} {L L' : List (Nat × Value)} {st : List Value} {G G' : Mem}
theorem k_U (ok : OK X cc own ret nL fr lo) {C : String} {ci : Nat} {x y : MethodName} {bytes : ByteArray} {maxL index n fr' lo' : Nat} {ret' : Option FieldType} (f : CLU own C ci index x y bytes maxL ret' n) (hf : fr' + 1 ≤ fr ∧ 8 + (maxL + 11) + lo' ≤ lo) {o : Nat} (As : List Value) {stk : List Value} {v : Option Value} {G1 : Mem} (ht : mt G o = ci + 10)
    (hn : As.length = n) (hs : stk = As.reverse ++ .ref (X.B + o) :: st) (hr : (st.map fun v => v.category).sum ≤ 8) (hM : Mx X.l y bytes maxL ret' fr' lo' X.V (.ref (X.B + o) :: As) G (.inl v) G1) (hd : decode cc pc = .ok (.invokevirtual index, 3))
    (kv : J X nL (pc + 3) L (v.toList ++ st) G1) : J X nL pc L stk G := by
  obtain ⟨⟨T0, N0, hc⟩, w1, w2, w3, w4, ⟨b0, m0, r0, w5⟩, w6, w7, w8, hd1, hd2, hd3⟩ := f
  intro H locs ls hR hcl hl
  have hts := ok.2.2.2.2.1
  have hR2 : X.R = rmOf fr lo X.V X.G0 := ok.2.2.2.2.2.2.2.1
  refine w_fit ok fun hS => ?_
  obtain ⟨f1, f2⟩ := ok_fit ok hR hS
  have hsel : (Cond.selects C x y).before X.args X.s = true := hts _ w3
  have cw : va_CU X.R X.s X.args own C x.cls index x y bytes maxL ret' (Cond.code y bytes maxL ret' :: WT) (rmOf fr' lo' X.V G) (X.V.cc - mz G) (X.V.cs - ml G) n :=
    ⟨⟨rfl, rfl, by rw [hR2]; exact hf.1, by rw [hR2]; exact hf.2, pay_in hts (wt_all w8), List.mem_cons_self⟩, hts _ w8, hts _ w7, ⟨hd1, hd2⟩, fun sig h => by rw [h] at hd3; exact (Option.some.inj hd3).symm, hts _ w1, hts _ w2, va_Decl.of (hts _ w4) (hts _ w5), hsel, hts _ w6⟩
  have run : va_Run X.p X.l X.e X.R X.s X.m X.args X.below X.meth X.c H locs (H.size - X.s.heap.size) (sums X.s.heap.size H) (X.V.cc - mz G) (X.V.cs - ml G) (F0 X.m pc ls stk) st (qcOf X.V (.inl v) G1 (Value.ref (X.B + o) :: As).toArray) (fun q => X.B ≤ q) :=
    va_runU (ok_fix ok) (met_of hM) cw ⟨pc_blind, j_recv ok hR hc ht, pc_at ok hR⟩ rfl hn hl.1 hs (lv_room hr) hd (by rw [hR2]; exact ⟨Nat.le_of_eq f1, Nat.le_of_eq f2⟩)
  exact j_fin ok hR hcl hl (fun T hT S => Or.inl (run T hT S)) (fun w e => by cases e; exact kv) (fun k e => by cases e)
theorem k_P (ok : OK X cc own ret nL fr lo) {C : String} {ci : Nat} {y : MethodName} {bytes : ByteArray} {maxL index n fr' lo' : Nat} {ret' : Option FieldType} (f : CLP own C ci index y bytes maxL ret' n) (hf : fr' + 1 ≤ fr ∧ 8 + (maxL + 11) + lo' ≤ lo) {o : Nat} (As : List Value) {stk : List Value} {v : Option Value} {G1 : Mem} (ht : mt G o = ci + 10)
    (hn : As.length = n) (hs : stk = As.reverse ++ .ref (X.B + o) :: st) (hr : (st.map fun v => v.category).sum ≤ 8) (hM : Mx X.l y bytes maxL ret' fr' lo' X.V (.ref (X.B + o) :: As) G (.inl v) G1) (hd : decode cc pc = .ok (.invokespecial index, 3))
    (kv : J X nL (pc + 3) L (v.toList ++ st) G1) : J X nL pc L stk G := by
  obtain ⟨⟨T0, N0, hc⟩, w1, w2, w3, w4, w7, w8, hd1, hd3⟩ := f
  intro H locs ls hR hcl hl
  have hts := ok.2.2.2.2.1
  have hR2 : X.R = rmOf fr lo X.V X.G0 := ok.2.2.2.2.2.2.2.1
  refine w_fit ok fun hS => ?_
  obtain ⟨f1, f2⟩ := ok_fit ok hR hS
  have cw : va_CS X.R X.s X.args own index y bytes maxL ret' (Cond.code y bytes maxL ret' :: WT) (rmOf fr' lo' X.V G) (X.V.cc - mz G) (X.V.cs - ml G) n :=
    ⟨⟨rfl, rfl, by rw [hR2]; exact hf.1, by rw [hR2]; exact hf.2, pay_in hts (wt_all w8), List.mem_cons_self⟩, hts _ w1, hts _ w2, hts _ w3, hts _ w4, hts _ w7, hts _ w8, hd1, fun sig h => by rw [h] at hd3; exact (Option.some.inj hd3).symm⟩
  have run : va_Run X.p X.l X.e X.R X.s X.m X.args X.below X.meth X.c H locs (H.size - X.s.heap.size) (sums X.s.heap.size H) (X.V.cc - mz G) (X.V.cs - ml G) (F0 X.m pc ls stk) st (qcOf X.V (.inl v) G1 (Value.ref (X.B + o) :: As).toArray) (fun q => X.B ≤ q) :=
    va_runSU (C := C) (ok.k.1 ci _ hc).2 (ok_fix ok) (met_of hM) cw ⟨pc_blind, j_recv ok hR hc ht, pc_at ok hR⟩ rfl hn hl.1 hs (lv_room hr) hd (by rw [hR2]; exact ⟨Nat.le_of_eq f1, Nat.le_of_eq f2⟩)
  exact j_fin ok hR hcl hl (fun T hT S => Or.inl (run T hT S)) (fun w e => by cases e; exact kv) (fun k e => by cases e)
theorem k_anewS (ok : OK X cc own ret nL fr lo) {index : Nat} (w1 : Cond.classLink own index RJ0 ∈ WT) {n : Int32} {q : Nat × Mem} (hv : nA G 8 n = some q) (hd : decode cc pc = .ok (.anewarray index, 3)) (kk : J X nL (pc + 3) L (.ref (X.B + q.1) :: st) q.2) : J X nL pc L (.int n :: st) G := by
  obtain ⟨⟨⟨h0, h60⟩, hcap⟩, rfl⟩ := ite_get hv
  intro H locs ls hR hcl hl
  have hR2 : X.R = rmOf fr lo X.V X.G0 := ok.2.2.2.2.2.2.2.1
  refine w_fit ok fun hS => ?_
  obtain ⟨g1, g2, g3, g4⟩ := new_room ok hR hcap hS
  have hsz : H.size = X.B + mz G := hR.2.1
  have hAO : va_AO RJ0 X.s := ok.2.2.2.2.2.2.2.2.2.1.2.2.2.2.2.2.2.2.2.2.1
  have key : ∀ cA : ClassId, X.s.vm.findClass ("[" ++ (FieldType.object RJ0).toString) = some cA → cA = X.V.cy 8 := by
    intro cA h
    obtain ⟨kA, comp, k1, k2, k3, k4⟩ := (ok.k.2 6 _ rfl).2
    exact Option.some.inj (h.symm.trans k4)
  refine W.anew ok.1 ok.2.1 ok.2.2.2.1 (ok.2.2.2.2.1 _ w1) (va_AO.use hAO) rfl hd rfl (i_nn h0) ?_ (by rw [hR2]; exact g1) (by rw [hR2]; exact g2) fun cA kA comp h1 h2 h3 h4 => ?_
  · have hn : n.toNatClampNeg ≤ 60000000 := by
      show n.toInt.toNat ≤ 60000000
      omega
    omega
  · rw [key cA h1]
    have hw : ({ cls := X.V.cy 8, slots := Array.replicate n.toNatClampNeg .null, vm := .none } : Cell).slots.size = n.toNatClampNeg := by simp
    show W _ _ _ _ _ _ _ _ _ _ _ _ _ _ _ (F0 X.m (pc + 3) ls (.ref H.size :: st))
    refine J.born ok (L := L) (G' := mk G 8 n.toNatClampNeg n.toNatClampNeg) (by rw [hsz]; exact kk) (rel_push hR hw g3 g4 ?_) hw hS.1 hcl hl
    have ht : mt (mk G 8 n.toNatClampNeg n.toNatClampNeg) (mz G) = 8 := u1_eq
    have hn : mn (mk G 8 n.toNatClampNeg n.toNatClampNeg) (mz G) = n.toNatClampNeg := u1_eq
    have hp : mP (mk G 8 n.toNatClampNeg n.toNatClampNeg) (mz G) = fun _ => none := ur_eq
    rw [cellE_sref ht, hn, hp]
    show _ = some (vp_cell _ _)
    rw [vp_cell_q, ← hsz]
    rw [Array.getElem?_push_size, arrV_new]
    rfl
end JUP
