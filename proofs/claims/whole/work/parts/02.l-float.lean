/-! ===== rows of floats and doubles ===== -/
def nk64 {α : Type} (r : UInt64) (x : Option α) : Option α := if r &&& 0x7fffffffffffffff ≤ 0x7ff0000000000000 then x else none
def nk32 {α : Type} (r : UInt32) (x : Option α) : Option α := if r &&& 0x7fffffff ≤ 0x7f800000 then x else none
theorem nk64_some {α : Type} {r : UInt64} {x : Option α} {v : α} (h : nk64 r x = some v) : vf_n64 r ∧ x = some v := by
  unfold nk64 at h
  have h2 := ite_get2 h
  exact ⟨h2.1, h2.2⟩
theorem nk32_some {α : Type} {r : UInt32} {x : Option α} {v : α} (h : nk32 r x = some v) : vf_n32 r ∧ x = some v := by
  unfold nk32 at h
  have h2 := ite_get2 h
  exact ⟨h2.1, h2.2⟩
def finD (X : Cx) (v : UInt64) (G : Mem) : Prop := Ends X (.inl (some (.double v))) G
def finF (X : Cx) (v : UInt32) (G : Mem) : Prop := Ends X (.inl (some (.float v))) G
section JFLOAT
variable {X : Cx} {cc : ByteArray} {own : String} {ret : Option FieldType} {nL fr lo pc : Nat} {L L' : List (Nat × Value)} {st : List Value} {G G' : Mem}
theorem j_l2d (ok : OK X cc own ret nL fr lo) {x : Int64} (hd : decode cc pc = .ok (.l2d, 1)) (k : J X nL (pc + 1) L (.double (FP.l2d x) :: st) G) : J X nL pc L (.long x :: st) G := fun H locs ls hR hc hl => lv_l2d ok.1 ok.2.1 hd (k H locs ls hR hc hl)
theorem j_i2d (ok : OK X cc own ret nL fr lo) {x : Int32} (hd : decode cc pc = .ok (.i2d, 1)) (k : J X nL (pc + 1) L (.double (FP.i2d x) :: st) G) : J X nL pc L (.int x :: st) G := fun H locs ls hR hc hl => lv_i2d ok.1 ok.2.1 hd (k H locs ls hR hc hl)
theorem j_i2f (ok : OK X cc own ret nL fr lo) {x : Int32} (hd : decode cc pc = .ok (.i2f, 1)) (k : J X nL (pc + 1) L (.float (FP.i2f x) :: st) G) : J X nL pc L (.int x :: st) G := fun H locs ls hR hc hl => lv_i2f ok.1 ok.2.1 hd (k H locs ls hR hc hl)
theorem j_ddiv (ok : OK X cc own ret nL fr lo) {x y : UInt64} (hn : vf_n64 (FP.ddiv x y)) (hd : decode cc pc = .ok (.ddiv, 1)) (k : J X nL (pc + 1) L (.double (FP.ddiv x y) :: st) G) : J X nL pc L (.double y :: .double x :: st) G := fun H locs ls hR hc hl => lv_ddiv ok.1 ok.2.1 hd hn (k H locs ls hR hc hl)
theorem j_fdiv (ok : OK X cc own ret nL fr lo) {x y : UInt32} (hn : vf_n32 (FP.fdiv x y)) (hd : decode cc pc = .ok (.fdiv, 1)) (k : J X nL (pc + 1) L (.float (FP.fdiv x y) :: st) G) : J X nL pc L (.float y :: .float x :: st) G := fun H locs ls hR hc hl => lv_fdiv ok.1 ok.2.1 hd hn (k H locs ls hR hc hl)
theorem j_f2d (ok : OK X cc own ret nL fr lo) {x : UInt32} (hn : vf_n64 (FP.f2d x)) (hd : decode cc pc = .ok (.f2d, 1)) (k : J X nL (pc + 1) L (.double (FP.f2d x) :: st) G) : J X nL pc L (.float x :: st) G := fun H locs ls hR hc hl => lv_f2d ok.1 ok.2.1 hd hn (k H locs ls hR hc hl)
theorem j_dcmp (ok : OK X cc own ret nL fr lo) {x y : UInt64} {op : CmpOp} (hd : decode cc pc = .ok (.dcmp op, 1)) (k : J X nL (pc + 1) L (.int (Op.cmpValue (FP.dcmp x y) op) :: st) G) : J X nL pc L (.double y :: .double x :: st) G := fun H locs ls hR hc hl => lv_dcmp ok.1 ok.2.1 hd (k H locs ls hR hc hl)
theorem j_dconst0 (ok : OK X cc own ret nL fr lo) (hd : decode cc pc = .ok (.dconst 0, 1)) (k : J X nL (pc + 1) L (.double FP.dconst0 :: st) G) : J X nL pc L st G := fun H locs ls hR hc hl => lv_dconst0 ok.1 ok.2.1 hd (k H locs ls hR hc hl)
theorem j_fconst0 (ok : OK X cc own ret nL fr lo) (hd : decode cc pc = .ok (.fconst 0, 1)) (k : J X nL (pc + 1) L (.float FP.fconst0 :: st) G) : J X nL pc L st G := fun H locs ls hR hc hl => lv_fconst0 ok.1 ok.2.1 hd (k H locs ls hR hc hl)
theorem j_dload (ok : OK X cc own ret nL fr lo) {i : Nat} {x : UInt64} (hd : decode cc pc = .ok (.dload i, 2)) (q : Nat) (hq : L[q]? = some (i, .double x)) (kk : J X nL (pc + 2) L (.double x :: st) G) : J X nL pc L st G := fun H locs ls hR hc hl => lv_dload ok.1 ok.2.1 hd (lv_at hl q hq) (kk H locs ls hR hc hl)
theorem j_dstore (ok : OK X cc own ret nL fr lo) {i : Nat} {x : UInt64} (hd : decode cc pc = .ok (.dstore i, 2)) (hn : i + 1 < nL) (hl' : (i, Value.double x) :: L.filter (fun q => !(q.1 == i) && (!(q.1 == i + 1) && !(q.1 + 1 == i && q.2.category == 2))) = L') (kk : J X nL (pc + 2) L' st G) : J X nL pc L (.double x :: st) G := fun H locs ls hR hc hl => lv_dstore ok.1 ok.2.1 hd hl hn hl' (fun ls' h' => kk H locs ls' hR hc h')
theorem j_dret (ok : OK X cc own ret nL fr lo) {v : UInt64} (hr : ret = some .double) (hd : decode cc pc = .ok (.dreturn, 1)) (he : Ends X (.inl (some (.double v))) G) : J X nL pc L [.double v] G := by
  subst hr
  intro H locs ls hR hcl hl
  refine w_fit ok fun hS => ?_
  obtain ⟨f1, f2⟩ := ok_fit ok hR hS
  rw [he.2]
  exact vx_ret (W.widen (by omega) (by omega) (W.dret ok.1 ok.2.1 ok.2.2.2.2.2.1 (fun t ht hW => ⟨_, rfl, rfl, by rw [ht]; exact hR⟩) hcl hd ok.2.2.2.2.2.2.1))
theorem j_fret (ok : OK X cc own ret nL fr lo) {v : UInt32} (hr : ret = some .float) (hd : decode cc pc = .ok (.freturn, 1)) (he : Ends X (.inl (some (.float v))) G) : J X nL pc L [.float v] G := by
  subst hr
  intro H locs ls hR hcl hl
  refine w_fit ok fun hS => ?_
  obtain ⟨f1, f2⟩ := ok_fit ok hR hS
  rw [he.2]
  exact vx_ret (W.widen (by omega) (by omega) (W.fret ok.1 ok.2.1 ok.2.2.2.2.2.1 (fun t ht hW => ⟨_, rfl, rfl, by rw [ht]; exact hR⟩) hcl hd ok.2.2.2.2.2.2.1))
end JFLOAT
