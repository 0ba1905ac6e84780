/-! ===== further rows: a table of bytes, a switch of two, calls with and without an answer ===== -/
section JMOR2
variable {X : Cx} {cc : ByteArray} {own : String} {ret : Option FieldType} {nL fr lo pc : Nat} {L L' : List (Nat × Value)} {st : List Value} {G G' : Mem}
theorem k_tbaload (ok : OK X cc own ret nL fr lo) {k : Nat} {i v : Int32} (hk : k < 3 ∧ (tabN k).2.2.2.1 = .byte) (hv : tb k i = some v) (hd : decode cc pc = .ok (.baload, 1)) (kk : J X nL (pc + 1) L (.int v :: st) G) : J X nL pc L (.int i :: .ref (X.V.ta k) :: st) G := by
  obtain ⟨hb, hv⟩ := ite_get hv
  intro H locs ls hR hc hl
  obtain ⟨cell, h1, h2, h3, h4, h5, h6, h7⟩ := (ok.2.2.2.2.2.2.2.2.2.1.2.1 k hk.1).2
  rw [hk.2] at h2
  refine W.bald (v := .int v) ok.1 ok.2.1 (by rw [kept0 hR _ (Array.getElem?_eq_some_iff.mp h1).1]; exact h1) h2 h3 ?_ (by rw [h6 _ (inb_lt hb)]; show some (Value.int _) = _; rw [hv]) rfl rfl hd (kk H locs ls hR hc hl)
  have := inb_lt hb
  intro q
  rcases q with q | q
  · exact vpin_of hb (Or.inl q)
  · omega
theorem j_lkp2 (ok : OK X cc own ret nL fr lo) {dflt o0 o1 : Int} {t0 t1 t2 len : Nat} {x : Int32} (hd : decode cc pc = .ok (.lookupswitch dflt #[(0, o0), (1, o1)], len)) (h0 : (pc : Int) + o0 = (t0 : Int)) (h1 : (pc : Int) + o1 = (t1 : Int)) (h2 : (pc : Int) + dflt = (t2 : Int))
    (k0 : x = 0 → J X nL t0 L st G) (k1 : x = 1 → J X nL t1 L st G) (k2 : ¬ x = 0 → ¬ x = 1 → J X nL t2 L st G) : J X nL pc L (.int x :: st) G := by
  intro H locs ls hR hc hl
  by_cases e0 : x = 0
  · subst e0
    exact lv_lookup (off := o0) ok.1 ok.2.1 hd rfl rfl h0 (k0 rfl H locs ls hR hc hl)
  · by_cases e1 : x = 1
    · subst e1
      exact lv_lookup (off := o1) ok.1 ok.2.1 hd rfl rfl h1 (k1 rfl H locs ls hR hc hl)
    · have f0 : ¬ (0 : Int) = x.toInt := fun h => e0 (Int32.toInt_inj.mp h.symm)
      have f1 : ¬ (1 : Int) = x.toInt := fun h => e1 (Int32.toInt_inj.mp h.symm)
      refine lv_lookup (off := dflt) ok.1 ok.2.1 hd rfl ?_ h2 (k2 e0 e1 H locs ls hR hc hl)
      show (if (0 : Int) = x.toInt then o0 else if (1 : Int) = x.toInt then o1 else dflt) = dflt
      rw [if_neg f0, if_neg f1]
theorem k_U1 (ok : OK X cc own ret nL fr lo) {C : String} {ci : Nat} {x y : MethodName} {bytes : ByteArray} {maxL index n fr' lo' : Nat} {ret' : Option FieldType} (f : CLU own C ci index x y bytes maxL ret' n) (hf : fr' + 1 ≤ fr ∧ 8 + (maxL + 11) + lo' ≤ lo) {o : Nat} (As : List Value) {stk : List Value} {v : Value} {G1 : Mem} (ht : mt G o = ci + 10)
    (hn : As.length = n) (hs : stk = As.reverse ++ .ref (X.B + o) :: st) (hr : (st.map fun v => v.category).sum ≤ 8) (hM : Mx X.l y bytes maxL ret' fr' lo' X.V (.ref (X.B + o) :: As) G (.inl (some v)) G1) (hd : decode cc pc = .ok (.invokevirtual index, 3))
    (kv : J X nL (pc + 3) L (v :: st) G1) : J X nL pc L stk G := k_U ok f hf As ht hn hs hr hM hd kv
theorem k_U0 (ok : OK X cc own ret nL fr lo) {C : String} {ci : Nat} {x y : MethodName} {bytes : ByteArray} {maxL index n fr' lo' : Nat} {ret' : Option FieldType} (f : CLU own C ci index x y bytes maxL ret' n) (hf : fr' + 1 ≤ fr ∧ 8 + (maxL + 11) + lo' ≤ lo) {o : Nat} (As : List Value) {stk : List Value} {G1 : Mem} (ht : mt G o = ci + 10)
    (hn : As.length = n) (hs : stk = As.reverse ++ .ref (X.B + o) :: st) (hr : (st.map fun v => v.category).sum ≤ 8) (hM : Mx X.l y bytes maxL ret' fr' lo' X.V (.ref (X.B + o) :: As) G (.inl none) G1) (hd : decode cc pc = .ok (.invokevirtual index, 3))
    (kv : J X nL (pc + 3) L st G1) : J X nL pc L stk G := k_U ok f hf As ht hn hs hr hM hd kv
theorem k_P1 (ok : OK X cc own ret nL fr lo) {C : String} {ci : Nat} {y : MethodName} {bytes : ByteArray} {maxL index n fr' lo' : Nat} {ret' : Option FieldType} (f : CLP own C ci index y bytes maxL ret' n) (hf : fr' + 1 ≤ fr ∧ 8 + (maxL + 11) + lo' ≤ lo) {o : Nat} (As : List Value) {stk : List Value} {v : Value} {G1 : Mem} (ht : mt G o = ci + 10)
    (hn : As.length = n) (hs : stk = As.reverse ++ .ref (X.B + o) :: st) (hr : (st.map fun v => v.category).sum ≤ 8) (hM : Mx X.l y bytes maxL ret' fr' lo' X.V (.ref (X.B + o) :: As) G (.inl (some v)) G1) (hd : decode cc pc = .ok (.invokespecial index, 3))
    (kv : J X nL (pc + 3) L (v :: st) G1) : J X nL pc L stk G := k_P ok f hf As ht hn hs hr hM hd kv
theorem k_T0 (ok : OK X cc own ret nL fr lo) {y : MethodName} {bytes : ByteArray} {maxL index n fr' lo' : Nat} {ret' : Option FieldType} (f : CLT own index y bytes maxL ret' n) (hf : fr' + 1 ≤ fr ∧ 8 + (maxL + 11) + lo' ≤ lo) {i : Nat} (As : List Value) {stk : List Value} {G1 : Mem} (hi : i < strN)
    (hn : As.length = n) (hs : stk = As.reverse ++ .ref (X.V.sa i) :: st) (hr : (st.map fun v => v.category).sum ≤ 8) (hM : Mx X.l y bytes maxL ret' fr' lo' X.V (.ref (X.V.sa i) :: As) G (.inl none) G1) (hd : decode cc pc = .ok (.invokevirtual index, 3))
    (kv : J X nL (pc + 3) L st G1) : J X nL pc L stk G := by
  obtain ⟨w1, w2, w3, w4, w5, hy⟩ := f
  intro H locs ls hR hcl hl
  have hgi : GoodIn WT (wsV own index RJ0 y (Cond.code y bytes maxL ret' :: WT)) := fun w hw => by
    rcases List.mem_append.mp hw with h | h
    · simp only [List.mem_cons, List.not_mem_nil, or_false] at h
      rcases h with rfl | rfl | rfl | rfl
      · exact wt_good w1
      · exact wt_good w2
      · exact wt_good w3
      · exact wt_good w4
    · exact wt_all w5 w h
  have hR2 : X.R = rmOf fr lo X.V X.G0 := ok.2.2.2.2.2.2.2.1
  have hrecv : ∃ cell : Cell, H[X.V.sa i]? = some cell ∧ cell.vm.isStatics = false ∧ X.s.vm.findClass RJ0 = some cell.cls := by
    obtain ⟨cell, h1, h2, h3, -⟩ := ((sv_S ok).2.2.1 i hi).1
    exact ⟨cell, old_get hR h1, h2, h3⟩
  refine w_fit ok fun hS => ?_
  obtain ⟨f1, f2⟩ := ok_fit ok hR hS
  exact j_fin ok hR hcl hl (vx_runV (ok_fix ok) hM (cwV n ok.2.2.2.2.1 hgi rfl rfl rfl hy (by rw [hR2]; exact hf)) ⟨pc_blind, hrecv, pc_at ok hR⟩ rfl hn hl.1 hs (lv_room hr) hd (by rw [hR2]; exact ⟨Nat.le_of_eq f1, Nat.le_of_eq f2⟩)) (fun w e => by cases e; exact kv) (fun k e => by cases e)
end JMOR2
