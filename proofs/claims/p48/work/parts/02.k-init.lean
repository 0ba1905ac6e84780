/-! ===== rows of references, objects, constructors ===== -/
theorem woi_i : Cond.instanceMethod Lib.objectInit ∈ WT := wt_in 68 (by decide +kernel) (by decide +kernel)
theorem woi_c : Cond.code Lib.objectInit ⟨#[0xb1]⟩ 1 none ∈ WT := wt_in 69 (by decide +kernel) (by decide +kernel)
section JINIT
variable {X : Cx} {cc : ByteArray} {own : String} {ret : Option FieldType} {nL fr lo pc : Nat} {L L' : List (Nat × Value)} {st : List Value} {G G' : Mem}
theorem k_anew (ok : OK X cc own ret nL fr lo) {t index : Nat} {C : String} (hty : (t = 6 ∧ C = RX1) ∨ (t = 7 ∧ C = RX3)) (w1 : Cond.classLink own index C ∈ WT) {n : Int32} {q : Nat × Mem} (hv : nA G t n = some q) (hd : decode cc pc = .ok (.anewarray index, 3)) (kk : J X nL (pc + 3) L (.ref (X.B + q.1) :: st) q.2) : J X nL pc L (.int n :: st) G := by
  obtain ⟨⟨⟨h0, h60⟩, hcap⟩, rfl⟩ := ite_get hv
  intro H locs ls hR hcl hl
  have hR2 : X.R = rmOf fr lo X.V X.G0 := ok.2.2.2.2.2.2.2.1
  refine w_fit ok fun hS => ?_
  obtain ⟨g1, g2, g3, g4⟩ := new_room ok hR hcap hS
  have hsz : H.size = X.B + mz G := hR.2.1
  have hAO : va_AO C X.s := by
    have h9 := ok.2.2.2.2.2.2.2.2.2.1.2.2.2.2.2.2.2.2
    rcases hty with ⟨-, rfl⟩ | ⟨-, rfl⟩
    · exact h9.1
    · exact h9.2.1
  have key : ∀ cA : ClassId, X.s.vm.findClass ("[" ++ (FieldType.object C).toString) = some cA → cA = X.V.cy t := by
    intro cA h
    rcases hty with ⟨rfl, rfl⟩ | ⟨rfl, rfl⟩
    · obtain ⟨kA, comp, k1, k2, k3, k4⟩ := (ok.k.2 4 _ rfl).2
      exact Option.some.inj (h.symm.trans k4)
    · obtain ⟨kA, comp, k1, k2, k3, k4⟩ := (ok.k.2 5 _ rfl).2
      exact Option.some.inj (h.symm.trans k4)
  refine W.anew ok.1 ok.2.1 ok.2.2.2.1 (ok.2.2.2.2.1 _ w1) (va_AO.use hAO) rfl hd rfl (i_nn h0) ?_ (by rw [hR2]; exact g1) (by rw [hR2]; exact g2) fun cA kA comp h1 h2 h3 h4 => ?_
  · have hn : n.toNatClampNeg ≤ 60000000 := by
      show n.toInt.toNat ≤ 60000000
      omega
    omega
  · rw [key cA h1]
    have hw : ({ cls := X.V.cy t, slots := Array.replicate n.toNatClampNeg .null, vm := .none } : Cell).slots.size = n.toNatClampNeg := by simp
    show W _ _ _ _ _ _ _ _ _ _ _ _ _ _ _ (F0 X.m (pc + 3) ls (.ref H.size :: st))
    refine J.born ok (L := L) (G' := mk G t n.toNatClampNeg n.toNatClampNeg) (by rw [hsz]; exact kk) (rel_push hR hw g3 g4 ?_) hw hS.1 hcl hl
    have ht : mt (mk G t n.toNatClampNeg n.toNatClampNeg) (mz G) = t := u1_eq
    have hn : mn (mk G t n.toNatClampNeg n.toNatClampNeg) (mz G) = n.toNatClampNeg := u1_eq
    have hp : mP (mk G t n.toNatClampNeg n.toNatClampNeg) (mz G) = fun _ => none := ur_eq
    rw [cellE_ref (t := t) (by rcases hty with ⟨h, -⟩ | ⟨h, -⟩ <;> omega) ht, hn, hp]
    show _ = some (vp_cell _ _)
    rw [vp_cell_q, ← hsz]
    rw [Array.getElem?_push_size, arrV_new]
    rfl
theorem k_new (ok : OK X cc own ret nL fr lo) {C : String} {T : u_T} {N ci index : Nat} (hin : ∀ w ∈ u_ws C T N, w ∈ WT) {ty0 : Nat → FieldType} (g : FP C T N ty0) (hc : cls[ci]? = some (C, T, N)) (hN : (fk (ci + 10)).length = N) (hdf : ∀ j, j < N → defaultValue (ty0 j) = if (fk (ci + 10)).getD j false = true then .null else .int 0)
    (w1 : Cond.classLink own index C ∈ WT) (w2 : Cond.instantiable C N ∈ WT) (w3 : Cond.initialized C ∈ WT) {q : Nat × Mem} (hv : nO G (ci + 10) N = some q) (hd : decode cc pc = .ok (.new index, 3)) (kk : J X nL (pc + 3) L (.ref (X.B + q.1) :: st) q.2) : J X nL pc L st G := by
  obtain ⟨hcap, rfl⟩ := ite_get hv
  intro H locs ls hR hcl hl
  have hts := ok.2.2.2.2.1
  have hR2 : X.R = rmOf fr lo X.V X.G0 := ok.2.2.2.2.2.2.2.1
  refine w_fit ok fun hS => ?_
  obtain ⟨g1, g2, g3, g4⟩ := new_room ok hR hcap hS
  have hsz : H.size = X.B + mz G := hR.2.1
  have hKn := ok.k.1 ci _ hc
  refine W.newc ok.1 ok.2.1 ok.2.2.2.1 (hts _ w1) (hts _ w2) (hts _ w3) rfl hd (by rw [hR2]; exact g1) (by rw [hR2]; exact g2) fun cC kC h1 h2 h3 h4 => ?_
  have hcC : cC = X.V.D.1 ci := Option.some.inj (h1.symm.trans hKn.2.1)
  subst hcC
  have hw : ({ cls := X.V.D.1 ci, slots := kC.instanceTypes.map defaultValue, vm := .none } : Cell).slots.size = N := by simp [h4]
  show W _ _ _ _ _ _ _ _ _ _ _ _ _ _ _ (F0 X.m (pc + 3) ls (.ref H.size :: st))
  refine J.born ok (L := L) (G' := mk G (ci + 10) 0 N) (by rw [hsz]; exact kk) (rel_push hR hw g3 g4 ?_) hw hS.1 hcl hl
  have ht : mt (mk G (ci + 10) 0 N) (mz G) = ci + 10 := u1_eq
  rw [cellE_obj ht]
  refine ⟨_, hc, t_OB.to (u_born ty0 hts hin hKn h2 (by rw [← hsz]; exact Array.getElem?_push_size) g.1) (fun j hj => ?_)⟩
  rw [hdf j hj]
  have hj' : j < (fk (ci + 10)).length := by rw [hN]; exact hj
  have hx : (fk (ci + 10))[j]? = some ((fk (ci + 10)).getD j false) := by
    rw [List.getD_eq_getElem?_getD, List.getElem?_eq_getElem hj']; rfl
  have hi : mI (mk G (ci + 10) 0 N) (mz G) = fun _ => 0 := ur_eq
  have hp : mP (mk G (ci + 10) 0 N) (mz G) = fun _ => none := ur_eq
  generalize hz : (fk (ci + 10)).getD j false = z at hx ⊢
  show _ = ((fk (ci + 10)).zipIdx.map (fv X.V.B (mk G (ci + 10) 0 N) (mz G))).getD j .null
  rw [List.getD_eq_getElem?_getD, flds_get hx]
  show _ = fv _ _ _ _
  unfold fv
  rw [hi, hp]
  cases z <;> rfl
theorem k_objI (ok : OK X cc own ret nL fr lo) {index : Nat} (w1 : Cond.methodLink own index Lib.objectInit ∈ WT) (hf : 1 ≤ fr) (hlo : 20 ≤ lo) (hr : (st.map fun v => v.category).sum ≤ 8) {a : Nat} (hd : decode cc pc = .ok (.invokespecial index, 3)) (kk : J X nL (pc + 3) L st G) : J X nL pc L (.ref a :: st) G := by
  intro H locs ls hR hcl hl
  have hts := ok.2.2.2.2.1
  have hR2 : X.R = rmOf fr lo X.V X.G0 := ok.2.2.2.2.2.2.2.1
  exact W.objInit ok.1 ok.2.1 ok.2.2.2.1 (hts _ w1) (hts _ woi_i) (hts _ woi_c) rfl (hl.1.trans ok.2.2.1.symm) rfl hd (by rw [hR2]; exact hf) (by rw [hR2]; show 2 * 0 + _ + 12 ≤ lo; omega) (kk H locs ls hR hcl hl)
/-- a constructor is called -/
def CLI (own : String) (index : Nat) (y : MethodName) (bytes : ByteArray) (maxL n : Nat) : Prop := (Cond.methodLink own index y ∈ WT ∨ (own, index, y, RX6) ∈ nestTab) ∧ Cond.instanceMethod y ∈ WT ∧ Cond.initialized y.cls ∈ WT ∧ Cond.code y bytes maxL none ∈ WT ∧ y.name = "<init>" ∧ (y.cls ≠ "java/lang/invoke/MethodHandle" ∧ y.cls ≠ "java/lang/invoke/VarHandle" ∧ (parseMethodDescriptor y.desc).map (fun d => d.parameters.length) = some n)
theorem k_I (ok : OK X cc own ret nL fr lo) {y : MethodName} {bytes : ByteArray} {maxL index n fr' lo' : Nat} (f : CLI own index y bytes maxL n) (hf : fr' + 1 ≤ fr ∧ 8 + (maxL + 11) + lo' ≤ lo) {o : Nat} (As : List Value) {stk : List Value} {G1 : Mem}
    (hn : As.length = n) (hs : stk = As.reverse ++ .ref (X.B + o) :: st) (hr : (st.map fun v => v.category).sum ≤ 8) (hM : Mx X.l y bytes maxL none fr' lo' X.V (.ref (X.B + o) :: As) G (.inl none) G1) (hd : decode cc pc = .ok (.invokespecial index, 3))
    (kv : J X nL (pc + 3) L st G1) : J X nL pc L stk G := by
  obtain ⟨w1, w2, w4, w5, hy1, hy⟩ := f
  intro H locs ls hR hcl hl
  have hts := ok.2.2.2.2.1
  have hR2 : X.R = rmOf fr lo X.V X.G0 := ok.2.2.2.2.2.2.2.1
  refine w_fit ok fun hS => ?_
  obtain ⟨f1, f2⟩ := ok_fit ok hR hS
  have run : va_Run X.p X.l X.e X.R X.s X.m X.args X.below X.meth X.c H locs (H.size - X.s.heap.size) (sums X.s.heap.size H) (X.V.cc - mz G) (X.V.cs - ml G) (F0 X.m pc ls stk) st (qcOf X.V (.inl none) G1 (Value.ref (X.B + o) :: As).toArray) (fun q => X.B ≤ q) := by
    rcases w1 with w1 | w1
    · exact va_runI (ok_fix ok) (met_of hM) (cwI n hts (wt_all w5) rfl rfl rfl (hts _ w4) (hts _ w1) (hts _ w2) hy1 hy (by rw [hR2]; exact hf)) ⟨pc_blind, pc_at ok hR⟩ rfl hn hl.1 hs (lv_room hr) hd (by rw [hR2]; exact ⟨Nat.le_of_eq f1, Nat.le_of_eq f2⟩)
    · exact va_runIN (ok_fix ok) (met_of hM) ⟨va_cnB (host := RX6) n hts (wt_all w5) rfl rfl rfl (ok.2.2.2.2.2.2.2.2.2.1.2.2.2.2.2.1 _ w1) (hts _ w4) hy (by rw [hR2]; exact hf), hy1, hts _ w2⟩ ⟨pc_blind, pc_at ok hR⟩ rfl hn hl.1 hs (lv_room hr) hd (by rw [hR2]; exact ⟨Nat.le_of_eq f1, Nat.le_of_eq f2⟩)
  exact j_fin ok hR hcl hl (fun T hT S => Or.inl (run T hT S)) (fun w e => by cases e; exact kv) (fun k e => by cases e)
end JINIT
theorem inj2 {α β : Type} {a r : α} {g g' : β} (h : some (a, g) = some (r, g')) : a = r ∧ g = g' := by
  have e := Option.some.inj h
  exact ⟨congrArg Prod.fst e, congrArg Prod.snd e⟩
