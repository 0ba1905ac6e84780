/-! ===== rows over the memory: fields, arrays, new things, returns ===== -/
def gF (G : Mem) (t a k : Nat) : Option Int32 := if mt G a = t then some (mI G a k) else none
def gR (G : Mem) (t a k : Nat) : Option Nat := if mt G a = t then mP G a k else none
def pI (G : Mem) (t a k : Nat) (v : Int32) : Option Mem := if mt G a = t then some (sI G a k v) else none
def pZ (G : Mem) (t a k : Nat) (v : Int32) : Option Mem := if mt G a = t ∧ (v = 0 ∨ v = 1) then some (sI G a k v) else none
def pR (G : Mem) (t a k : Nat) (v : Nat) : Option Mem := if mt G a = t then some (sP G a k (some v)) else none
abbrev inb (i : Int32) (n : Nat) : Prop := 0 ≤ i.toInt ∧ i.toInt < n
def gA (G : Mem) (t a : Nat) (i : Int32) : Option Int32 := if mt G a = t ∧ inb i (mn G a) then some (mI G a i.toNatClampNeg) else none
def gJ (G : Mem) (a : Nat) (i : Int32) : Option Int64 := if mt G a = 5 ∧ inb i (mn G a) then some (mJ G a i.toNatClampNeg) else none
def gQS (G : Mem) (a : Nat) (i : Int32) : Option Nat := if mt G a = 8 ∧ inb i (mn G a) then mP G a i.toNatClampNeg else none
def pQS (G : Mem) (a : Nat) (i : Int32) (v : Nat) : Option Mem := if mt G a = 8 ∧ v < strN ∧ inb i (mn G a) then some (sP G a i.toNatClampNeg (some v)) else none
def gQ (G : Mem) (t a : Nat) (i : Int32) : Option Nat := if mt G a = t ∧ inb i (mn G a) then mP G a i.toNatClampNeg else none
def pA (G : Mem) (a : Nat) (i : Int32) (v : Int32) : Option Mem := if mt G a = 1 ∧ inb i (mn G a) then some (sI G a i.toNatClampNeg v) else none
def pB (G : Mem) (a : Nat) (i : Int32) (v : Int32) : Option Mem := if mt G a = 2 ∧ inb i (mn G a) then some (sI G a i.toNatClampNeg v.toInt8.toInt32) else none
def pT (G : Mem) (a : Nat) (i : Int32) (v : Int32) : Option Mem := if mt G a = 3 ∧ inb i (mn G a) ∧ (v = 0 ∨ v = 1) then some (sI G a i.toNatClampNeg v) else none
def pJ (G : Mem) (a : Nat) (i : Int32) (v : Int64) : Option Mem := if mt G a = 5 ∧ inb i (mn G a) then some (sJ G a i.toNatClampNeg v) else none
def pQ (G : Mem) (t to a : Nat) (i : Int32) (v : Nat) : Option Mem := if mt G a = t ∧ mt G v = to ∧ inb i (mn G a) then some (sP G a i.toNatClampNeg (some v)) else none
def gL (G : Mem) (a : Nat) : Option Int32 := if mt G a = 1 ∨ mt G a = 2 ∨ mt G a = 3 ∨ mt G a = 5 ∨ mt G a = 6 ∨ mt G a = 7 then some (Int32.ofNat (mn G a)) else none
def nA (G : Mem) (t : Nat) (n : Int32) : Option (Nat × Mem) := if (0 ≤ n.toInt ∧ n.toInt ≤ 60000000) ∧ mz G + 1 ≤ cC G ∧ ml G + n.toNatClampNeg ≤ cS G then some (mz G, mk G t n.toNatClampNeg n.toNatClampNeg) else none
def nO (G : Mem) (t w : Nat) : Option (Nat × Mem) := if mz G + 1 ≤ cC G ∧ ml G + w ≤ cS G then some (mz G, mk G t 0 w) else none
theorem ite_some {α : Type} {c : Prop} [Decidable c] {a b : Option α} {x : α} (h : (if c then a else b) = some x) : (c ∧ a = some x) ∨ (¬ c ∧ b = some x) := by
  by_cases hc : c
  · rw [if_pos hc] at h; exact Or.inl ⟨hc, h⟩
  · rw [if_neg hc] at h; exact Or.inr ⟨hc, h⟩
theorem ite_get {α : Type} {c : Prop} [Decidable c] {a x : α} (h : (if c then some a else none) = some x) : c ∧ a = x := by
  by_cases hc : c
  · rw [if_pos hc] at h; exact ⟨hc, Option.some.inj h⟩
  · rw [if_neg hc] at h; cases h
theorem ite_get2 {α : Type} {c : Prop} [Decidable c] {a : Option α} {x : α} (h : (if c then a else none) = some x) : c ∧ a = some x := by
  by_cases hc : c
  · rw [if_pos hc] at h; exact ⟨hc, h⟩
  · rw [if_neg hc] at h; cases h
theorem obind {α β : Type} {x : Option α} {f : α → Option β} {r : β} (h : x.bind f = some r) : ∃ v, x = some v ∧ f v = some r := Option.bind_eq_some_iff.mp h
theorem vpin_of {i : Int32} {n : Nat} (h : inb i n) : vp_in i n := vp_in_iff.mpr h
theorem inb_lt {i : Int32} {n : Nat} (h : inb i n) : i.toNatClampNeg < n := by
  have h1 := h.1
  have h2 := h.2
  show i.toInt.toNat < n
  omega
section CELLS
variable {cy : Nat → ClassId} {B : Nat} {G G' : Mem} {a b : Nat}
theorem cellE_obj {ci : Nat} (h : mt G a = ci + 10) : cellE cy B G a = .inr (ci, (fk (ci + 10)).zipIdx.map (fv B G a)) := by
  unfold cellE
  rw [if_neg (by omega), if_neg (by omega), if_neg (by omega), if_neg (by omega), h, Nat.add_sub_cancel]
theorem cellE_int {t : Nat} (ht : t = 1 ∨ t = 2 ∨ t = 3) (h : mt G a = t) : cellE cy B G a = .inl (cy t, mn G a, .inl (mI G a)) := by
  unfold cellE
  rw [h, if_pos ht]
theorem cellE_long (h : mt G a = 5) : cellE cy B G a = .inl (cy 5, mn G a, .inr (.inl (mJ G a))) := by
  unfold cellE
  rw [h, if_neg (by omega), if_pos rfl]
theorem cellE_ref {t : Nat} (ht : t = 6 ∨ t = 7) (h : mt G a = t) : cellE cy B G a = .inl (cy t, mn G a, .inr (.inr (.inr (.inr (fun j => (mP G a j).map (fun x => B + x)))))) := by
  unfold cellE
  rw [h, if_neg (by omega), if_neg (by omega), if_pos ht]
theorem cellE_sref (h : mt G a = 8) : cellE cy B G a = .inl (cy 8, mn G a, .inr (.inr (.inr (.inr (fun j => (mP G a j).map (fun i => cy (100 + i))))))) := by
  unfold cellE
  rw [h, if_neg (by omega), if_neg (by omega), if_neg (by omega), if_pos rfl]
theorem cellE_congr (ht : mt G' b = mt G b) (hn : mn G' b = mn G b) (hI : mI G' b = mI G b) (hJ : mJ G' b = mJ G b) (hP : mP G' b = mP G b) : cellE cy B G' b = cellE cy B G b := by
  have hf : fv B G' b = fv B G b := by funext q; unfold fv; rw [hI, hP]
  unfold cellE
  rw [ht, hn, hI, hJ, hP, hf]
theorem u2_ne {α : Type} {f : Nat → Nat → α} {a b k : Nat} {v : α} (h : b ≠ a) : u2 f a k v b = f b := by funext j; unfold u2; rw [if_neg (fun q => h q.1)]
theorem u2_eq {α : Type} {f : Nat → Nat → α} {a k : Nat} {v : α} : u2 f a k v a = fun j => if j = k then v else f a j := by funext j; unfold u2; simp
theorem flds_get {l : List Bool} {k : Nat} {x : Bool} (h : l[k]? = some x) : (l.zipIdx.map (fv B G a))[k]? = some (fv B G a (x, k)) := by
  rw [List.getElem?_map, List.getElem?_zipIdx, h]
  simp
theorem flds_set {l : List Bool} {k : Nat} {x : Bool} (h : l[k]? = some x) (hne : ∀ q : Bool × Nat, q.2 ≠ k → fv B G' a q = fv B G a q) : l.zipIdx.map (fv B G' a) = (l.zipIdx.map (fv B G a)).set k (fv B G' a (x, k)) := by
  apply List.ext_getElem?
  intro i
  rw [List.getElem?_set, List.getElem?_map, List.getElem?_map, List.getElem?_zipIdx]
  by_cases hi : k = i
  · subst hi
    have hk : k < l.length := (List.getElem?_eq_some_iff.mp h).1
    rw [if_pos rfl, h]
    simp [hk]
  · rw [if_neg hi]
    cases hl : l[i]? with
    | none => simp
    | some y =>
      simp
      exact hne (y, i) (by simp; omega)
end CELLS
section JHEAP
variable {X : Cx} {cc : ByteArray} {own : String} {ret : Option FieldType} {nL fr lo pc : Nat} {L L' : List (Nat × Value)} {st : List Value} {G G' : Mem}
theorem OK.k (ok : OK X cc own ret nL fr lo) : va_K X.V.D cls (tysOf X.V.cy) X.s := ok.2.2.2.2.2.2.2.2.2.1.1
theorem j_get (ok : OK X cc own ret nL fr lo) {C : String} {T : u_T} {N ci index : Nat} (hin : ∀ w ∈ u_ws C T N, w ∈ WT) (hc : cls[ci]? = some (C, T, N)) (k : Nat) (hk : k < N) (hlink : Cond.fieldLink own index (T k).1 (T k).2.1 (T k).2.2.1 ∈ WT) {x : Bool} (hx : (fk (ci + 10))[k]? = some x)
    {a : Nat} (ht : mt G a = ci + 10) {v : Value} (hv : fv X.B G a (x, k) = v) (hd : decode cc pc = .ok (.getfield index, 3)) (kk : J X nL (pc + 3) L (v :: st) G) : J X nL pc L (.ref (X.B + a) :: st) G := by
  intro H locs ls hR hcl hl
  have hcell := hR.2.2.2.2.2.2.1 a (by omega)
  rw [cellE_obj ht] at hcell
  have hP : va_P X.V.D cls [(X.B + a, .inr (ci, (fk (ci + 10)).zipIdx.map (fv X.B G a)))] H := fun j q hq => by
    have hj : j < 1 := (List.getElem?_eq_some_iff.mp hq).1
    rw [show j = 0 by omega] at hq
    cases hq
    exact hcell
  exact va_get ok.1 ok.2.1 ok.2.2.2.2.1 hin ok.2.2.2.1 ok.k hP 0 rfl hc k hk (ok.2.2.2.2.1 _ hlink) (fun _ h => h) (by rw [flds_get hx, hv]) hd (kk H locs ls hR hcl hl)
theorem j_getI (ok : OK X cc own ret nL fr lo) {C : String} {T : u_T} {N ci index : Nat} (hin : ∀ w ∈ u_ws C T N, w ∈ WT) (hc : cls[ci]? = some (C, T, N)) (k : Nat) (hk : k < N) (hlink : Cond.fieldLink own index (T k).1 (T k).2.1 (T k).2.2.1 ∈ WT) (hx : (fk (ci + 10))[k]? = some false)
    {a : Nat} {v : Int32} (hv : gF G (ci + 10) a k = some v) (hd : decode cc pc = .ok (.getfield index, 3)) (kk : J X nL (pc + 3) L (.int v :: st) G) : J X nL pc L (.ref (X.B + a) :: st) G := by
  obtain ⟨ht, hv⟩ := ite_get hv
  exact j_get ok hin hc k hk hlink hx ht (by rw [← hv]; rfl) hd kk
theorem j_getR (ok : OK X cc own ret nL fr lo) {C : String} {T : u_T} {N ci index : Nat} (hin : ∀ w ∈ u_ws C T N, w ∈ WT) (hc : cls[ci]? = some (C, T, N)) (k : Nat) (hk : k < N) (hlink : Cond.fieldLink own index (T k).1 (T k).2.1 (T k).2.2.1 ∈ WT) (hx : (fk (ci + 10))[k]? = some true)
    {a v : Nat} (hv : gR G (ci + 10) a k = some v) (hd : decode cc pc = .ok (.getfield index, 3)) (kk : J X nL (pc + 3) L (.ref (X.B + v) :: st) G) : J X nL pc L (.ref (X.B + a) :: st) G := by
  obtain ⟨ht, hv⟩ := ite_get2 hv
  exact j_get ok hin hc k hk hlink hx ht (by show rv X.B (mP G a k) = _; rw [hv]; rfl) hd kk
/-- a field is written -/
theorem j_put (ok : OK X cc own ret nL fr lo) {C : String} {T : u_T} {N ci index : Nat} (hin : ∀ w ∈ u_ws C T N, w ∈ WT) (ty0 : Nat → FieldType) (hty : ∀ k, k < N → parseFieldDescriptor (T k).2.2.1 = some (ty0 k)) (hnm : ∀ a, a < N → ∀ b, b < N → a ≠ b → (T a).2.1 ≠ (T b).2.1) (hc : cls[ci]? = some (C, T, N)) (k : Nat) (hk : k < N) (hlink : Cond.fieldLink own index (T k).1 (T k).2.1 (T k).2.2.1 ∈ WT)
    (hfin : (T k).2.2.2 = false ∨ ((T k).2.2.2 = true ∧ X.meth.name = "<init>" ∧ (T k).1 = own)) {x : Bool} (hx : (fk (ci + 10))[k]? = some x) {a : Nat} (ht : mt G a = ci + 10) {v : Value} (hn : narrow (ty0 k) v = v) (hfit : fits (ty0 k) v = true)
    (hG : mz G' = mz G ∧ ml G' = ml G ∧ mt G' = mt G ∧ mn G' = mn G ∧ (cC G' = cC G ∧ cS G' = cS G) ∧ (∀ b, b ≠ a → mI G' b = mI G b ∧ mJ G' b = mJ G b ∧ mP G' b = mP G b) ∧ fv X.B G' a (x, k) = v ∧ ∀ q : Bool × Nat, q.2 ≠ k → fv X.B G' a q = fv X.B G a q)
    (hd : decode cc pc = .ok (.putfield index, 3)) (kk : J X nL (pc + 3) L st G') : J X nL pc L (v :: .ref (X.B + a) :: st) G := by
  obtain ⟨g1, g2, g3, g4, ⟨gc, gs⟩, g5, g6, g7⟩ := hG
  intro H locs ls hR hcl hl
  have hcell := hR.2.2.2.2.2.2.1 a (by omega)
  rw [cellE_obj ht] at hcell
  have hts := ok.2.2.2.2.1
  have hown := ok.2.2.2.1
  have hap := va_apart (own := own) hts hin ty0 hty hnm ok.k hc
  obtain ⟨r, h1, cell, q1, q2, q3, q4⟩ := hcell
  have hr : r = (C, T, N) := Option.some.inj (h1.symm.trans hc)
  subst hr
  obtain ⟨hS, hfc, kC, hkC, hkind⟩ := ok.k.1 ci _ hc
  obtain ⟨cf, kf, fi, f, hi, hsl⟩ := hS k hk
  have hlay := hts _ (hin _ (u_in_lay hk))
  have hst := (u_facts hfc hkC (u_lays hts hin hk) hi).1
  have hkl : k < ((fk (ci + 10)).zipIdx.map (fv X.B G a)).length := by
    have := (List.getElem?_eq_some_iff.mp hx).1
    simpa using this
  have key : ∀ H' : Heap, H'[X.B + a]? = some (cell.setSlot f.slot v) → H'.size = H.size → (∀ q, q ≠ X.B + a → H'[q]? = H[q]?) → W X.p X.l X.e X.R X.s X.m X.args X.below X.meth X.c H' (locs ++ [⟨X.B + a, f.slot⟩]) (H.size - X.s.heap.size) (sums X.s.heap.size H) X.Q (F0 X.m (pc + 3) ls st) := by
    intro H' e1 e2 e3
    rw [hsl] at e1 ⊢
    have hss : (cell.setSlot ((X.V.D.2 ci) k) v).slots.size = cell.slots.size := by simp [Cell.setSlot]
    have hrel : X.rel G' H' := by
      refine Rel.write hR g1 g2 g3 gc gs (fun b hb => cellE_congr (by rw [g3]) (by rw [g4]) (g5 b hb).1 (g5 b hb).2.1 (g5 b hb).2.2) q1 e1 hss e2 e3 (fun _ => ?_) (fun b hb j => ?_)
      · rw [cellE_obj (by rw [g3]; exact ht), flds_set hx g7, g6]
        exact ⟨_, hc, t_OB.to (V := updV (vp_V _) k v) ⟨_, e1, q2, q3, t_set q4 hap hk v⟩ (fun j _ => vp_updV_set hkl v j)⟩
      · have hba : b ≠ a := by intro e; rw [e] at hb; omega
        rw [(g5 b hba).1]
        exact hR.2.2.2.2.2.2.2 b hb j
    have e4 : sums X.s.heap.size H' = sums X.s.heap.size H := sums_congr e2 (fun q => by
      by_cases hq : q = X.B + a
      · rw [hq, e1, q1]; simp [hss]
      · rw [e3 q hq])
    have := kk H' (locs ++ [⟨X.B + a, (X.V.D.2 ci) k⟩]) ls hrel (fun q hq => by
      rcases List.mem_append.mp hq with h | h
      · exact hcl q h
      · rw [List.mem_singleton.mp h]; exact Nat.le_add_right _ _) hl
    rw [e4, e2] at this
    exact this
  rcases hfin with hfin | ⟨hfin, hin2, hdecl⟩
  · unfold u_lay at hlay
    rw [if_neg (by rw [hfin]; decide)] at hlay
    have h6 := u_store hfc hkC hkind hlay hi (hty k hk) hn hfit
    exact W.putK ok.1 ok.2.1 (f := f) ⟨hown, hts _ hlink, ⟨_, _, _, hi⟩, hst⟩ (by rw [q2]; exact h6) q1 q3 (by rw [hsl]; exact k2_hasslot (q4 k hk)) rfl rfl hd key
  · unfold u_lay at hlay
    rw [if_pos hfin] at hlay
    have hcf : X.m.cls = cf := by
      obtain ⟨_, _, c', _, _, _, -, -, hf', -, -, -, hown2, -⟩ := Cond.laysFinal_spec hlay
      have e1 : c' = cf := by have := hi.symm.trans hf'; simp at this; exact this.1.symm
      rw [hdecl] at hown2
      rw [← e1]; exact Option.some.inj (hown.symm.trans hown2)
    have h6 := u_fits hfc hkC hkind (Or.inr hlay) hi (hty k hk) hn hfit
    exact W.putFinK ok.1 ok.2.1 hown (hts _ hlink) hi hst hcf hin2 (by rw [q2]; exact h6) q1 q3 (by rw [hsl]; exact k2_hasslot (q4 k hk)) rfl rfl hd key
theorem sI_ok {B a k : Nat} {v : Int32} {x : Bool} (hx : x = false) : mz (sI G a k v) = mz G ∧ ml (sI G a k v) = ml G ∧ mt (sI G a k v) = mt G ∧ mn (sI G a k v) = mn G ∧ (cC (sI G a k v) = cC G ∧ cS (sI G a k v) = cS G) ∧ (∀ b, b ≠ a → mI (sI G a k v) b = mI G b ∧ mJ (sI G a k v) b = mJ G b ∧ mP (sI G a k v) b = mP G b) ∧ fv B (sI G a k v) a (x, k) = .int v ∧ ∀ q : Bool × Nat, q.2 ≠ k → fv B (sI G a k v) a q = fv B G a q := by
  subst hx
  refine ⟨rfl, rfl, rfl, rfl, ⟨rfl, rfl⟩, fun b hb => ⟨u2_ne hb, rfl, rfl⟩, ?_, fun q hq => ?_⟩
  · show Value.int (u2 (mI G) a k v a k) = _
    simp [u2]
  · show (if q.1 then rv B (mP G a q.2) else .int (u2 (mI G) a k v a q.2)) = _
    simp [u2, hq, fv]
theorem sP_ok {B a k : Nat} {v : Nat} {x : Bool} (hx : x = true) : mz (sP G a k (some v)) = mz G ∧ ml (sP G a k (some v)) = ml G ∧ mt (sP G a k (some v)) = mt G ∧ mn (sP G a k (some v)) = mn G ∧ (cC (sP G a k (some v)) = cC G ∧ cS (sP G a k (some v)) = cS G) ∧ (∀ b, b ≠ a → mI (sP G a k (some v)) b = mI G b ∧ mJ (sP G a k (some v)) b = mJ G b ∧ mP (sP G a k (some v)) b = mP G b) ∧ fv B (sP G a k (some v)) a (x, k) = .ref (B + v) ∧ ∀ q : Bool × Nat, q.2 ≠ k → fv B (sP G a k (some v)) a q = fv B G a q := by
  subst hx
  refine ⟨rfl, rfl, rfl, rfl, ⟨rfl, rfl⟩, fun b hb => ⟨rfl, rfl, u2_ne hb⟩, ?_, fun q hq => ?_⟩
  · show rv B (u2 (mP G) a k (some v) a k) = _
    simp [u2, rv, va_rf]
  · show (if q.1 then rv B (u2 (mP G) a k (some v) a q.2) else .int (mI G a q.2)) = _
    simp [u2, hq, fv]
theorem nar01 {v : Int32} (h : v = 0 ∨ v = 1) : narrow .boolean (.int v) = .int v ∧ fits .boolean (.int v) = true := by
  rcases h with rfl | rfl <;> exact ⟨rfl, rfl⟩
end JHEAP
