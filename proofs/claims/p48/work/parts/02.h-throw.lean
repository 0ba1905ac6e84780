/-! ===== throws; copies ===== -/
def exSup : List String := ["java/lang/RuntimeException", "java/lang/Exception"]
def TH (own : String) (ik ic k : Nat) : Prop := k < 3 ∧ Cond.classLink own ik (exN k) ∈ WT ∧ Cond.initialized (exN k) ∈ WT ∧ (∀ w ∈ (vx_atS own ic (exN k) exSup).filter goodWord, w ∈ lw_tbl) ∧ (∀ w ∈ (vx_atS own ic (exN k) exSup).filter (fun w => !goodWord w), w ∈ declTab.map Cond.declares ++ [Cond.castable (exN k) (exN k)]) ∧ (∀ w ∈ Cond.classLink own ik (exN k) :: Cond.initialized (exN k) :: vx_atS own ic (exN k) exSup, vx_ot w = true) ∧ Bundle.fit (exN k) = true ∧ (∀ n ∈ exSup, Bundle.fit n = true)
def thw {ρ : Type} (k : Nat) (G : Mem) : Option ((ρ ⊕ Nat) × Mem) := if mz G + 1 ≤ cC G ∧ ml G + 6 ≤ cS G then some (.inr k, G) else none
theorem thw_some {ρ : Type} {k : Nat} {G : Mem} {r : (ρ ⊕ Nat) × Mem} (h : thw k G = some r) : (mz G + 1 ≤ cC G ∧ ml G + 6 ≤ cS G) ∧ some (.inr k, G) = some r := ite_get2 h
section JTHROW
variable {X : Cx} {cc : ByteArray} {own : String} {ret : Option FieldType} {nL fr lo pc : Nat} {L L' : List (Nat × Value)} {st : List Value} {G G' : Mem}
theorem th_words (ok : OK X cc own ret nL fr lo) {ik ic k : Nat} (t : TH own ik ic k) : ∀ w ∈ vx_atS own ic (exN k) exSup, w.before X.args X.s = true := by
  obtain ⟨t0, t1, t2, t3, t4, -⟩ := t
  have hD := ok.2.2.2.2.2.2.2.2.2.1.2.2.2.2.2.2
  refine vx_hat (fun w hw => ok.2.2.2.2.1 _ (List.mem_filter.mpr ⟨List.mem_append_left _ (t3 w hw), (List.mem_filter.mp hw).2⟩)) t4 (fun w hw => ?_)
  rcases List.mem_append.mp hw with h | h
  · obtain ⟨x, hx, rfl⟩ := List.mem_map.mp h
    exact va_Nw.use rfl (hD.1 x hx)
  · rw [List.mem_singleton.mp h]
    exact va_Nw.use rfl (hD.2.1 k t0)
theorem sv_str (ok : OK X cc own ret nL fr lo) {ix : Nat} {tx : String} {i : Nat} (h : (own, ix, tx, i) ∈ strTab) : vk_R own ix tx (X.V.sa i) X.s := ok.2.2.2.2.2.2.2.2.2.1.2.2.2.1 (own, ix, tx, i) h
theorem mq_tight {below : List Frame} {Qc : Array Value → State → Outcome → State → Prop} {XC XC' : String → State → State → Prop} {a : Array Value} {s : State} {mc ms mc' ms' : Nat} {free : Addr → Prop} (h1 : mc' ≤ mc) (h2 : ms' ≤ ms) (hx : ∀ (E : String) (t : State) (L : List Loc), XC' E s t → s.sameButNew ({ t with vm := s.vm } : State) L mc' ms' → XC E s t) {t : State} (h : vx_MQ below Qc XC' a s mc' ms' free t) : vx_MQ below Qc XC a s mc ms free t := by
  obtain ⟨o, b1, b2, b3⟩ := h
  refine ⟨o, b1, b2, ?_⟩
  rcases b3 with ⟨q1, L, ⟨f1, f2, f3⟩, hL⟩ | ⟨q, e, E, ce, L, x1, x2, x3, x4, x5, x6, x7⟩
  · exact Or.inl ⟨q1, L, ⟨f1, f2, f3.mono h1 h2⟩, hL⟩
  · exact Or.inr ⟨q, e, E, ce, L, hx E t L x1 x6, x2, x3, x4, x5, x6.mono h1 h2, x7⟩
theorem k_thr (ok : OK X cc own ret nL fr lo) {k : Nat} (hr : (st.map fun v => v.category).sum ≤ 8) (hcap : mz G + 1 ≤ cC G ∧ ml G + 6 ≤ cS G) (hK : Ends X (.inr k) G) {ls : Array Slot}
    (row : ∀ (H : Heap) (locs : List Loc), X.rel G H → (∀ q ∈ locs, X.B ≤ q.base) → (X.s.heap.size ≤ H.size ∧ sums X.B H = sums X.B X.s.heap + sums X.s.heap.size H) → vx_Zq Bundle.tN "UNASSIGNED_STACK" Bundle.steD (fun q => X.B ≤ q) X.s X.s.heap → vx_Zq Bundle.tN "SUPPRESSED_SENTINEL" Bundle.listD (fun q => X.B ≤ q) X.s X.s.heap → va_S (fun q => X.B ≤ q) X.s.heap H locs →
      H.size - X.s.heap.size + 1 ≤ X.V.cc - mz X.G0 → sums X.s.heap.size H + 6 ≤ X.V.cs - ml X.G0 →
      (∀ t : State, X.s.vm.Alike t.vm → H.size ≤ t.heap.size → (∀ q : Nat, q < H.size → t.heap[q]? = H[q]?) → xcR X.V (.inr k) G (exN k) X.s t) →
      W X.p X.l X.e X.R X.s X.m X.args X.below X.meth X.c H locs (H.size - X.s.heap.size) (sums X.s.heap.size H) (vx_MQ X.below (qcOf X.V (.inr k) G) (xcR X.V (.inr k) G) X.args X.s (H.size - X.s.heap.size + 1) (sums X.s.heap.size H + 6) (fun q => X.B ≤ q)) (F0 X.m pc ls st)) :
    ∀ (H : Heap) (locs : List Loc), X.rel G H → (∀ q ∈ locs, X.B ≤ q.base) → W X.p X.l X.e X.R X.s X.m X.args X.below X.meth X.c H locs (H.size - X.s.heap.size) (sums X.s.heap.size H) X.Q (F0 X.m pc ls st) := by
  intro H locs hR hcl
  refine w_fit ok fun hS => ?_
  obtain ⟨f1, f2⟩ := ok_fit ok hR hS
  have hs0 := ok.2.2.2.2.2.2.2.2.1
  have e0 : X.s.heap.size = X.B + mz X.G0 := hs0.2.1
  have hz : X.V.H0.size = X.B := hs0.1
  have kq : ∀ a : Nat, a < X.V.H0.size → ¬ X.B ≤ a → X.s.heap[a]? = X.V.H0[a]? := fun a h1 h2 => hs0.2.2.2.2.2.1 a (by have : X.V.B = X.B := rfl; omega)
  obtain ⟨u1, u2⟩ := ok.2.2.2.2.2.2.2.2.2.1.2.2.1
  have c1 : cC G = X.V.cc := hR.2.2.2.1.2
  have c2 : cS G = X.V.cs := hR.2.2.2.2.1.2
  have b1 : mz X.G0 ≤ X.V.cc := hs0.2.2.2.1.1
  rw [hK.2]
  have b2 : H.size = X.B + mz G := hR.2.1
  have b3 : sums X.B H = ml G := hR.2.2.1
  have hSS : va_S (fun q => X.B ≤ q) X.s.heap H locs := ⟨hS.1, fun q h1 h2 => by
    have h3 : q < X.V.B := Nat.lt_of_not_le h2
    rw [hR.2.2.2.2.2.1 q h3, hs0.2.2.2.2.2.1 q h3], hcl⟩
  have r := row H locs hR hcl hS (u1.kept kq) (u2.kept kq) hSS (by omega) (by omega) (fun t _ h1 h2 => ⟨k, rfl, rfl, rel_x hR h1 h2⟩)
  intro T hT S
  obtain ⟨t, a1, a2⟩ := r T hT S
  refine ⟨t, a1, mq_tight (by omega) (by omega) (fun E t L hx hs => ?_) a2⟩
  obtain ⟨k1, q1, q2, q3⟩ := hx
  obtain ⟨z1, z2⟩ := sameNew_sizes hs (H := t.heap) rfl
  have z3 := sums_split (lo := X.V.B) (by show X.V.B ≤ X.s.heap.size; have : X.V.B = X.B := rfl; omega) rfl z1 z2
  have z4 : t.heap.size ≤ X.s.heap.size + (H.size - X.s.heap.size + 1) := hs.2.2.1
  have z5 : sums X.s.heap.size t.heap ≤ sums X.s.heap.size H + 6 := hs.2.2.2.2.1
  have z6 : X.V.B = X.B := rfl
  rw [z6] at z3
  refine ⟨k1, q1, q2, q3, ?_, ?_⟩
  · show t.heap.size ≤ X.B + mz G + 1; omega
  · show sums X.B t.heap ≤ ml G + 6; omega
theorem k_throw (ok : OK X cc own ret nL fr lo) {ik ic k ix i : Nat} {tx : String} (t : TH own ik ic k) (hs : (own, ix, tx, i) ∈ strTab) (d0 : decode cc pc = .ok (.new ik, 3)) (d3 : decode cc (pc + 3) = .ok (.dup, 1)) (d4 : decode cc (pc + 4) = .ok (.ldc ix, 2)) (d6 : decode cc (pc + 6) = .ok (.invokespecial ic, 3)) (d9 : decode cc (pc + 9) = .ok (.athrow, 1))
    (hcap : mz G + 1 ≤ cC G ∧ ml G + 6 ≤ cS G) (hf : 5 < fr) (hlo : 90 ≤ lo) (hr : (st.map fun v => v.category).sum ≤ 8) (hK : Ends X (.inr k) G) : J X nL pc L st G := by
  intro H locs ls hR hcl hl
  have hR2 : X.R = rmOf fr lo X.V X.G0 := ok.2.2.2.2.2.2.2.1
  have tw := th_words ok t
  obtain ⟨t0, t1, t2, t3, t4, t5, t6, t7⟩ := t
  have hts := ok.2.2.2.2.1
  exact k_thr ok hr hcap hK (fun H locs hR hcl hS u1 u2 hSS g1 g2 hx => vx_throwS (sa := X.V.sa i) ok.1 ok.2.1 ok.2.2.2.2.2.2.2.2.2.2.2 ok.2.2.2.1 t6 t7 (hts _ t1) (hts _ t2) (sv_str ok hs) tw t5 u1 u2 hSS (by rw [hl.1]; exact ok.2.2.1.symm) d0 d3 d4 d6 d9 (fun x hx => (hK.1 x hx).elim) (by rw [hR2]; exact hf) (by rw [hR2]; show _ + 82 ≤ lo; omega) (by rw [hR2]; exact g1) (by rw [hR2]; exact g2) ok.2.2.2.2.2.2.1 hx hcl (Nat.le_refl _) (Nat.le_refl _)) H locs hR hcl
theorem k_throwW (ok : OK X cc own ret nL fr lo) {ik ic k ix i : Nat} {tx : String} (t : TH own ik ic k) (hs : (own, ix, tx, i) ∈ strTab) (d0 : decode cc pc = .ok (.new ik, 3)) (d3 : decode cc (pc + 3) = .ok (.dup, 1)) (d4 : decode cc (pc + 4) = .ok (.ldc_w ix, 3)) (d7 : decode cc (pc + 7) = .ok (.invokespecial ic, 3)) (d10 : decode cc (pc + 10) = .ok (.athrow, 1))
    (hcap : mz G + 1 ≤ cC G ∧ ml G + 6 ≤ cS G) (hf : 5 < fr) (hlo : 90 ≤ lo) (hr : (st.map fun v => v.category).sum ≤ 8) (hK : Ends X (.inr k) G) : J X nL pc L st G := by
  intro H locs ls hR hcl hl
  have hR2 : X.R = rmOf fr lo X.V X.G0 := ok.2.2.2.2.2.2.2.1
  have tw := th_words ok t
  obtain ⟨t0, t1, t2, t3, t4, t5, t6, t7⟩ := t
  have hts := ok.2.2.2.2.1
  exact k_thr ok hr hcap hK (fun H locs hR hcl hS u1 u2 hSS g1 g2 hx => vx_throwSW (sa := X.V.sa i) ok.1 ok.2.1 ok.2.2.2.2.2.2.2.2.2.2.2 ok.2.2.2.1 t6 t7 (hts _ t1) (hts _ t2) (sv_str ok hs) tw t5 u1 u2 hSS (by rw [hl.1]; exact ok.2.2.1.symm) d0 d3 d4 d7 d10 (fun x hx => (hK.1 x hx).elim) (by rw [hR2]; exact hf) (by rw [hR2]; show _ + 82 ≤ lo; omega) (by rw [hR2]; exact g1) (by rw [hR2]; exact g2) ok.2.2.2.2.2.2.1 hx hcl (Nat.le_refl _) (Nat.le_refl _)) H locs hR hcl
end JTHROW
