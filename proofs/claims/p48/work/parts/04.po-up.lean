/-! ===== a memory with one more cell below it: the law's row of one int ===== -/
def pfx {α : Type} (z : α) (f : Nat → α) : Nat → α
  | 0 => z
  | a + 1 => f a
def stF (w : Int32) : Nat → Int32 := fun j => if j = 0 then w else 0
def up (w : Int32) (G : Mem) : Mem := (mz G + 1, ml G + 1, pfx 1 (mt G), pfx 1 (mn G), pfx (stF w) (mI G), pfx (fun _ => 0) (mJ G), pfx (fun _ => none) (fun a k => if mt G a = 8 then mP G a k else (mP G a k).map (· + 1)), cC G + 1, cS G + 1)
def upV (V : Wd) (w : Int32) : Wd := (V.B + 1, V.H0.push (vp_cell (V.cy 1) (1, .inl (stF w))), V.D, V.cy, V.2.2.2.2.1, V.ta, V.cc - 1, V.cs - 1, V.sb, V.fm)
theorem cell_up {cy : Nat → ClassId} {B a : Nat} {w : Int32} {G : Mem} : cellE cy B (up w G) (a + 1) = cellE cy (B + 1) G a := by
  have hmt : mt (up w G) (a + 1) = mt G a := rfl
  have hmn : mn (up w G) (a + 1) = mn G a := rfl
  have hmI : mI (up w G) (a + 1) = mI G a := rfl
  have hmJ : mJ (up w G) (a + 1) = mJ G a := rfl
  by_cases h8 : mt G a = 8
  · have hP : mP (up w G) (a + 1) = mP G a := by funext k; exact if_pos h8
    rw [cellE_sref (hmt.trans h8), cellE_sref h8, hmn, hP]
  · have hP : ∀ k, mP (up w G) (a + 1) k = (mP G a k).map (· + 1) := fun k => if_neg h8
    have hr : ∀ k, (mP (up w G) (a + 1) k).map (fun x => B + x) = (mP G a k).map (fun x => B + 1 + x) := fun k => by
      rw [hP]
      cases mP G a k with
      | none => rfl
      | some v => show some (B + (v + 1)) = some (B + 1 + v); congr 1; omega
    have hf : fv B (up w G) (a + 1) = fv (B + 1) G a := by
      funext q
      show (if q.1 then va_rf ((mP (up w G) (a + 1) q.2).map (fun x => B + x)) else .int (mI (up w G) (a + 1) q.2)) = if q.1 then va_rf ((mP G a q.2).map (fun x => B + 1 + x)) else .int (mI G a q.2)
      rw [hr]; rfl
    have hr' : (fun j => (mP (up w G) (a + 1) j).map (fun x => B + x)) = fun j => (mP G a j).map (fun x => B + 1 + x) := funext hr
    unfold cellE
    rw [hmt, hmn, hmI, hmJ, hf, hr', if_neg h8, if_neg h8]
theorem sums_cons {lo : Nat} {H : Heap} {c : Cell} (h : H[lo]? = some c) : sums lo H = c.slots.size + sums (lo + 1) H := by
  unfold sums
  have hl : lo < H.toList.length := by rw [Array.length_toList]; exact (Array.getElem?_eq_some_iff.mp h).1
  have e : H.toList[lo] = c := by
    have h1 := (Array.getElem?_eq_some_iff.mp h).2
    rw [← h1]; exact Array.getElem_toList _
  rw [List.drop_eq_getElem_cons hl, e]
  simp
theorem stc_size {cA : ClassId} {w : Int32} : (vp_cell cA (1, .inl (stF w))).slots.size = 1 := by rw [vp_cell_i, arrV_size]
section UP
variable {V : Wd} {w : Int32} {G G' : Mem} {H : Heap}
theorem push_at {H0 : Heap} {c : Cell} {B q : Nat} (hB : H0.size = B) (hq : q < B + 1) (h1 : ∀ q : Nat, q < B → H[q]? = H0[q]?) (h2 : H[B]? = some c) : H[q]? = (H0.push c)[q]? := by
  by_cases e : q = B
  · subst e
    rw [h2, ← hB, Array.getElem?_push_size]
  · rw [h1 q (by omega), Array.getElem?_push, if_neg (by omega)]
theorem at_push {H0 : Heap} {c : Cell} {B q : Nat} (hB : H0.size = B) (hq : q < B) (h1 : ∀ q : Nat, q < B + 1 → H[q]? = (H0.push c)[q]?) : H[q]? = H0[q]? := by
  rw [h1 q (by omega), Array.getElem?_push, if_neg (by omega)]
theorem relx_dn (h : RelX V.B V.H0 V.D V.cy (up w G) H) : RelX (upV V w).B (upV V w).H0 (upV V w).D (upV V w).cy G H := by
  obtain ⟨r1, r2, r3, r4, r5, r6⟩ := h
  have hB : H[V.B]? = some (vp_cell (V.cy 1) (1, .inl (stF w))) := by
    have := r5 0 (by show (1 : Nat) ≠ 0; decide)
    rw [cellE_int (t := 1) (Or.inl rfl) rfl] at this
    exact this
  have hs := sums_cons hB
  rw [stc_size] at hs
  refine ⟨?_, ?_, ?_, fun q hq => push_at r1 hq r4 hB, fun a ha => ?_, fun a ha j => r6 (a + 1) ha j⟩
  · show (V.H0.push _).size = V.B + 1; rw [Array.size_push, r1]
  · show V.B + 1 + mz G ≤ H.size; have r2 : V.B + (mz G + 1) ≤ H.size := r2; omega
  · show ml G ≤ sums (V.B + 1) H; have r3 : ml G + 1 ≤ sums V.B H := r3; omega
  · have := r5 (a + 1) ha
    rw [cell_up] at this
    show va_at V.D cls (V.B + 1 + a, cellE V.cy (V.B + 1) G a) H
    rw [show V.B + 1 + a = V.B + (a + 1) by omega]
    exact this
theorem relx_up (hB0 : V.H0.size = V.B) (h : RelX (upV V w).B (upV V w).H0 (upV V w).D (upV V w).cy G H) : RelX V.B V.H0 V.D V.cy (up w G) H := by
  obtain ⟨r1, r2, r3, r4, r5, r6⟩ := h
  have r4' : ∀ q : Nat, q < V.B + 1 → H[q]? = (V.H0.push (vp_cell (V.cy 1) (1, .inl (stF w))))[q]? := r4
  have hB : H[V.B]? = some (vp_cell (V.cy 1) (1, .inl (stF w))) := by
    rw [r4' V.B (Nat.lt_succ_self _), ← hB0, Array.getElem?_push_size]
  have hs := sums_cons hB
  rw [stc_size] at hs
  refine ⟨hB0, ?_, ?_, fun q hq => at_push hB0 hq r4', fun a ha => ?_, fun a ha j => ?_⟩
  · show V.B + (mz G + 1) ≤ H.size; have r2 : V.B + 1 + mz G ≤ H.size := r2; omega
  · show ml G + 1 ≤ sums V.B H; have r3 : ml G ≤ sums (V.B + 1) H := r3; omega
  · cases a with
    | zero =>
      rw [cellE_int (t := 1) (Or.inl rfl) rfl]
      exact hB
    | succ a =>
      have := r5 a ha
      have this : va_at V.D cls (V.B + 1 + a, cellE V.cy (V.B + 1) G a) H := this
      rw [cell_up, show V.B + (a + 1) = V.B + 1 + a by omega]
      exact this
  · cases a with
    | zero => exact absurd (show (1 : Nat) = 2 from ha) (by decide)
    | succ a => exact r6 a ha j
theorem rel_dn (h : V.rel (up w G) H) : (upV V w).rel G H := by
  obtain ⟨r1, r2, r3, ⟨r4, r4b⟩, ⟨r5, r5b⟩, r6, r7, r8⟩ := h
  obtain ⟨x1, x2, x3, x4, x5, x6⟩ := relx_dn (V := V) (w := w) (G := G) (H := H) ⟨r1, Nat.le_of_eq r2.symm, Nat.le_of_eq r3.symm, r6, r7, r8⟩
  have hB : H[V.B]? = some (vp_cell (V.cy 1) (1, .inl (stF w))) := by
    have := r7 0 (by show (1 : Nat) ≠ 0; decide)
    rw [cellE_int (t := 1) (Or.inl rfl) rfl] at this
    exact this
  have hs := sums_cons hB
  rw [stc_size] at hs
  have r2 : H.size = V.B + (mz G + 1) := r2
  have r3 : sums V.B H = ml G + 1 := r3
  have r4 : mz G + 1 ≤ V.cc := r4
  have r4b : cC G + 1 = V.cc := r4b
  have r5 : ml G + 1 ≤ V.cs := r5
  have r5b : cS G + 1 = V.cs := r5b
  refine ⟨x1, ?_, ?_, ⟨?_, ?_⟩, ⟨?_, ?_⟩, x4, x5, x6⟩
  · show H.size = V.B + 1 + mz G; omega
  · show sums (V.B + 1) H = ml G; omega
  · show mz G ≤ V.cc - 1; omega
  · show cC G = V.cc - 1; omega
  · show ml G ≤ V.cs - 1; omega
  · show cS G = V.cs - 1; omega
theorem rel_up (hB0 : V.H0.size = V.B) (hc : 1 ≤ V.cc) (hs : 1 ≤ V.cs) (h : (upV V w).rel G H) : V.rel (up w G) H := by
  obtain ⟨r1, r2, r3, ⟨r4, r4b⟩, ⟨r5, r5b⟩, r6, r7, r8⟩ := h
  obtain ⟨x1, x2, x3, x4, x5, x6⟩ := relx_up (V := V) (w := w) (G := G) (H := H) hB0 ⟨r1, Nat.le_of_eq r2.symm, Nat.le_of_eq r3.symm, r6, r7, r8⟩
  have r6' : ∀ q : Nat, q < V.B + 1 → H[q]? = (V.H0.push (vp_cell (V.cy 1) (1, .inl (stF w))))[q]? := r6
  have hB : H[V.B]? = some (vp_cell (V.cy 1) (1, .inl (stF w))) := by
    rw [r6' V.B (Nat.lt_succ_self _), ← hB0, Array.getElem?_push_size]
  have hz := sums_cons hB
  rw [stc_size] at hz
  have r2 : H.size = V.B + 1 + mz G := r2
  have r3 : sums (V.B + 1) H = ml G := r3
  have r4 : mz G ≤ V.cc - 1 := r4
  have r4b : cC G = V.cc - 1 := r4b
  have r5 : ml G ≤ V.cs - 1 := r5
  have r5b : cS G = V.cs - 1 := r5b
  refine ⟨x1, ?_, ?_, ⟨?_, ?_⟩, ⟨?_, ?_⟩, x4, x5, x6⟩
  · show H.size = V.B + (mz G + 1); omega
  · show sums V.B H = ml G + 1; omega
  · show mz G + 1 ≤ V.cc; omega
  · show cC G + 1 = V.cc; omega
  · show ml G + 1 ≤ V.cs; omega
  · show cS G + 1 = V.cs; omega
theorem kw_up {U : State} (hB0 : V.H0.size = V.B) (k : KW V U) : KW (upV V w) U := by
  obtain ⟨k1, k2, ⟨k3, k4⟩, k5, ⟨k6, k7, k7b⟩, k8⟩ := k
  have hq : ∀ c : Cell, ∀ a : Nat, a < V.H0.size → ¬ V.B ≤ a → (V.H0.push c)[a]? = V.H0[a]? := fun c a h1 _ => by rw [Array.getElem?_push, if_neg (by omega)]
  have hn : ∀ q : Nat, V.B + 1 ≤ q → V.B ≤ q := fun q h => by omega
  exact ⟨k1, fun i hi => ⟨((k2 i hi).1.kept (hq _)).narrow hn, ((k2 i hi).2.kept (hq _)).narrow hn⟩, ⟨(k3.kept (hq _)).narrow hn, (k4.kept (hq _)).narrow hn⟩, k5, ⟨(k6.kept (hq _)).narrow hn, (k7.kept (hq _)).narrow hn, (k7b.kept (hq _)).narrow hn⟩, k8⟩
theorem rm_up {fr lo : Nat} : rmOf fr lo V (up w G) = rmOf fr lo (upV V w) G := by
  have e1 : V.cc - (mz G + 1) = V.cc - 1 - mz G := by omega
  have e2 : V.cs - (ml G + 1) = V.cs - 1 - ml G := by omega
  show ({ frames := fr, cells := V.cc - (mz G + 1), slots := V.cs - (ml G + 1), locals := lo } : Room) = { frames := fr, cells := V.cc - 1 - mz G, slots := V.cs - 1 - ml G, locals := lo }
  rw [e1, e2]
theorem mx_up {l : Launch} {y : MethodName} {cc : ByteArray} {maxL : Nat} {ret : Option FieldType} {fr lo : Nat} {as : List Value} {r : Option Value ⊕ Nat} (hB0 : V.H0.size = V.B) (hc : 1 ≤ V.cc) (hs : 1 ≤ V.cs) (h : Mx l y cc maxL ret fr lo (upV V w) as G r G') : Mx l y cc maxL ret fr lo V as (up w G) r (up w G') := by
  have e1 : V.cc - (mz G + 1) = V.cc - 1 - mz G := by omega
  have e2 : V.cs - (ml G + 1) = V.cs - 1 - ml G := by omega
  unfold Mx vx_Met at h ⊢
  rw [rm_up]
  show MetFree l y _ (pcOf V as (up w G)) _ (vx_Q _ _ (V.cc - (mz G + 1)) (V.cs - (ml G + 1)) _)
  rw [e1, e2]
  refine MetFree.mono h (fun a s hp => ⟨hp.1, rel_dn hp.2.1, kw_up hB0 hp.2.2⟩) (fun _ _ _ _ _ h => h) (fun a st o t _ h => ?_)
  rcases h with ⟨⟨v, h1, h2, h3⟩, L, h4, h5⟩ | ⟨q, h1, E, ce, L, ⟨k, x1, x2, x3, x4, x5⟩, h3, h4, h5, h6, h7, h8⟩
  · exact Or.inl ⟨⟨v, h1, h2, rel_up hB0 hc hs h3⟩, L, h4, fun q hq => Nat.le_trans (Nat.le_succ _) (h5 q hq)⟩
  · refine Or.inr ⟨q, h1, E, ce, L, ⟨k, x1, x2, relx_up hB0 x3, ?_, ?_⟩, h3, h4, h5, h6, h7, fun z hz => Nat.le_trans (Nat.le_succ _) (h8 z hz)⟩
    · show t.heap.size ≤ V.B + (mz G' + 1) + 1
      have x4 : t.heap.size ≤ V.B + 1 + mz G' + 1 := x4
      omega
    · have hh := relx_up hB0 x3
      have hB : t.heap[V.B]? = some (vp_cell (V.cy 1) (1, .inl (stF w))) := by
        have := hh.2.2.2.2.1 0 (by show (1 : Nat) ≠ 0; decide)
        rw [cellE_int (t := 1) (Or.inl rfl) rfl] at this
        exact this
      have hz := sums_cons hB
      rw [stc_size] at hz
      show sums V.B t.heap ≤ ml G' + 1 + 6
      have x5 : sums (V.B + 1) t.heap ≤ ml G' + 6 := x5
      omega
theorem ml_up {α : Type} {inj : α → Value} {P : α → Mem → Prop} {l : Launch} {y : MethodName} {wd : Cond} {fr lo : Nat} {as : List Value} (hB0 : V.H0.size = V.B) (hc : 1 ≤ V.cc) (hs : 1 ≤ V.cs) (h : ML l y wd fr lo (upV V w) as G inj P) : ML l y wd fr lo V as (up w G) inj (fun v G1 => ∃ G2, G1 = up w G2 ∧ P v G2) := by
  have e1 : V.cc - (mz G + 1) = V.cc - 1 - mz G := by omega
  have e2 : V.cs - (ml G + 1) = V.cs - 1 - ml G := by omega
  unfold ML Met at h ⊢
  rw [rm_up]
  show MetFree l y _ (pcOf V as (up w G)) _ (fun a st o t => _ ∧ ∃ L, FrameEnd st o t L (V.cc - (mz G + 1)) (V.cs - (ml G + 1)) ∧ _)
  rw [e1, e2]
  refine MetFree.mono h (fun a s hp => ⟨hp.1, rel_dn hp.2.1, kw_up hB0 hp.2.2⟩) (fun _ _ _ _ _ h => h) (fun a st o t _ h => ?_)
  obtain ⟨⟨v, G2, h1, h2, h3⟩, L, h4, h5⟩ := h
  exact ⟨⟨v, up w G2, ⟨G2, rfl, h1⟩, h2, rel_up hB0 hc hs h3⟩, L, h4, fun q hq => Nat.le_trans (Nat.le_succ _) (h5 q hq)⟩
/-! what is done on such a memory -/
theorem u1_pfx {α : Type} {z v : α} {f : Nat → α} {a : Nat} : u1 (pfx z f) (a + 1) v = pfx z (u1 f a v) := by
  funext b
  cases b with
  | zero => exact if_neg (by omega)
  | succ b =>
    show (if b + 1 = a + 1 then v else f b) = if b = a then v else f b
    by_cases h : b = a
    · rw [if_pos h, if_pos (by omega)]
    · rw [if_neg h, if_neg (by omega)]
theorem ur_pfx {α : Type} {z : Nat → α} {f : Nat → Nat → α} {r : Nat → α} {a : Nat} : ur (pfx z f) (a + 1) r = pfx z (ur f a r) := by
  funext b j
  cases b with
  | zero => exact if_neg (by omega)
  | succ b =>
    show (if b + 1 = a + 1 then r j else f b j) = if b = a then r j else f b j
    by_cases h : b = a
    · rw [if_pos h, if_pos (by omega)]
    · rw [if_neg h, if_neg (by omega)]
theorem up_mk {t n w0 : Nat} : mk (up w G) t n w0 = up w (mk G t n w0) := by
  have e1 : u1 (pfx 1 (mt G)) (mz G + 1) t = pfx 1 (u1 (mt G) (mz G) t) := u1_pfx
  have e2 : u1 (pfx 1 (mn G)) (mz G + 1) n = pfx 1 (u1 (mn G) (mz G) n) := u1_pfx
  have e3 : ur (pfx (stF w) (mI G)) (mz G + 1) (fun _ => 0) = pfx (stF w) (ur (mI G) (mz G) (fun _ => 0)) := ur_pfx
  have e4 : ur (pfx (fun _ => (0 : Int64)) (mJ G)) (mz G + 1) (fun _ => 0) = pfx (fun _ => 0) (ur (mJ G) (mz G) (fun _ => 0)) := ur_pfx
  have e5 : ur (pfx (fun _ => none) (fun a k => if mt G a = 8 then mP G a k else (mP G a k).map (· + 1))) (mz G + 1) (fun _ => none) = pfx (fun _ => none) (fun a k => if u1 (mt G) (mz G) t a = 8 then ur (mP G) (mz G) (fun _ => none) a k else (ur (mP G) (mz G) (fun _ => none) a k).map (· + 1)) := by
    rw [ur_pfx]
    congr 1
    funext a k
    unfold ur u1
    by_cases h : a = mz G
    · simp [h]
    · simp [h]
  show (mz G + 1 + 1, ml G + 1 + w0, u1 (pfx 1 (mt G)) (mz G + 1) t, u1 (pfx 1 (mn G)) (mz G + 1) n, ur (pfx (stF w) (mI G)) (mz G + 1) (fun _ => 0), ur (pfx (fun _ => (0 : Int64)) (mJ G)) (mz G + 1) (fun _ => 0), ur (pfx (fun _ => none) (fun a k => if mt G a = 8 then mP G a k else (mP G a k).map (· + 1))) (mz G + 1) (fun _ => none), cC G + 1, cS G + 1) = _
  rw [e1, e2, e3, e4, e5, show ml G + 1 + w0 = ml G + w0 + 1 by omega]
  rfl
theorem up_nO {t w0 : Nat} {q : Nat × Mem} (h : nO G t w0 = some q) : nO (up w G) t w0 = some (q.1 + 1, up w q.2) := by
  obtain ⟨hc, rfl⟩ := ite_get h
  unfold nO
  rw [if_pos ⟨by show mz G + 1 + 1 ≤ cC G + 1; omega, by show ml G + 1 + w0 ≤ cS G + 1; omega⟩]
  exact congrArg some (Prod.ext rfl up_mk)
theorem up_nA {t : Nat} {n : Int32} {q : Nat × Mem} (h : nA G t n = some q) : nA (up w G) t n = some (q.1 + 1, up w q.2) := by
  obtain ⟨⟨h0, hc⟩, rfl⟩ := ite_get h
  unfold nA
  rw [if_pos ⟨h0, by show mz G + 1 + 1 ≤ cC G + 1; omega, by show ml G + 1 + n.toNatClampNeg ≤ cS G + 1; omega⟩]
  exact congrArg some (Prod.ext rfl up_mk)
theorem up_gQS {a v : Nat} {i : Int32} (h : gQS G a i = some v) : gQS (up w G) (a + 1) i = some v := by
  obtain ⟨⟨h8, hi⟩, hv⟩ := ite_get2 h
  unfold gQS
  rw [if_pos (show mt (up w G) (a + 1) = 8 ∧ inb i (mn (up w G) (a + 1)) from ⟨h8, hi⟩)]
  exact (if_pos h8).trans hv
theorem up_pQS {a v : Nat} {i : Int32} (h : pQS G a i v = some G') : pQS (up w G) (a + 1) i v = some (up w G') := by
  obtain ⟨⟨h8, hv, hi⟩, rfl⟩ := ite_get h
  unfold pQS
  rw [if_pos (show mt (up w G) (a + 1) = 8 ∧ v < strN ∧ inb i (mn (up w G) (a + 1)) from ⟨h8, hv, hi⟩)]
  have e : u2 (pfx (fun _ => none) (fun a k => if mt G a = 8 then mP G a k else (mP G a k).map (· + 1))) (a + 1) i.toNatClampNeg (some v) = pfx (fun _ => none) (fun b k => if mt G b = 8 then u2 (mP G) a i.toNatClampNeg (some v) b k else (u2 (mP G) a i.toNatClampNeg (some v) b k).map (· + 1)) := by
    funext b k
    cases b with
    | zero => exact if_neg (by omega)
    | succ b =>
      show (if b + 1 = a + 1 ∧ k = i.toNatClampNeg then some v else if mt G b = 8 then mP G b k else (mP G b k).map (· + 1)) = if mt G b = 8 then (if b = a ∧ k = i.toNatClampNeg then some v else mP G b k) else (if b = a ∧ k = i.toNatClampNeg then some v else mP G b k).map (· + 1)
      by_cases hb : b = a ∧ k = i.toNatClampNeg
      · rw [if_pos (by omega), if_pos (by rw [hb.1]; exact h8), if_pos hb]
      · rw [if_neg (by omega), if_neg hb]
  exact congrArg (fun z => some (mz G + 1, ml G + 1, pfx 1 (mt G), pfx 1 (mn G), pfx (stF w) (mI G), pfx (fun _ => (0 : Int64)) (mJ G), z, cC G + 1, cS G + 1)) e
theorem ref_up {o : Nat} : Value.ref ((upV V w).B + o) = Value.ref (V.B + (o + 1)) := by
  show Value.ref (V.B + 1 + o) = _
  rw [show V.B + 1 + o = V.B + (o + 1) by omega]
/-! draws -/
theorem up_gA : gA (up w G) 1 0 (0 : Int32) = some w := by
  unfold gA
  rw [if_pos ⟨rfl, by show (0 : Int) ≤ (0 : Int32).toInt ∧ (0 : Int32).toInt < ((1 : Nat) : Int); decide⟩]
  rfl
theorem up_pA {v : Int32} : pA (up w G) 0 (0 : Int32) v = some (up v G) := by
  unfold pA
  rw [if_pos ⟨rfl, by show (0 : Int) ≤ (0 : Int32).toInt ∧ (0 : Int32).toInt < ((1 : Nat) : Int); decide⟩]
  have e : u2 (pfx (stF w) (mI G)) 0 (0 : Int32).toNatClampNeg v = pfx (stF v) (mI G) := by
    funext b j
    cases b with
    | zero =>
      show (if 0 = 0 ∧ j = 0 then v else if j = 0 then w else 0) = if j = 0 then v else 0
      by_cases h : j = 0
      · rw [if_pos ⟨rfl, h⟩, if_pos h]
      · rw [if_neg (fun q => h q.2), if_neg h, if_neg h]
    | succ b => exact if_neg (by omega)
  exact congrArg (fun z => some (mz G + 1, ml G + 1, pfx 1 (mt G), pfx 1 (mn G), z, pfx (fun _ => (0 : Int64)) (mJ G), pfx (fun _ => none) (fun a k => if mt G a = 8 then mP G a k else (mP G a k).map (· + 1)), cC G + 1, cS G + 1)) e
end UP
/-! loops of the methods that draw -/
def finS {σ ρ : Type} (X : Cx) (nL pc : Nat) (loc : σ → List (Nat × Value)) (F : ρ → Int32 → Mem → Prop) (r : σ ⊕ ρ) (w : Int32) (G : Mem) : Prop := match r with
  | .inl s => J X nL pc (loc s) [] (up w G)
  | .inr q => F q w G
theorem ju_loop {X : Cx} {nL pc : Nat} {σ ρ : Type} {f : σ → Mem → ((σ ⊕ ρ) → Mem → Prop) → Prop} {loc : σ → List (Nat × Value)} {F : ρ → Int32 → Mem → Prop}
    (body : ∀ (s : σ) (w : Int32) (G : Mem) (K : (σ ⊕ ρ) → Mem → Prop), f s G K → (∀ r w' G', K r G' → finS X nL pc loc F r w' G') → J X nL pc (loc s) [] (up w G)) :
    ∀ (n : Nat) (s : σ) (w : Int32) (G : Mem) (K : ρ → Mem → Prop), loopW f n s G K → (∀ r w' G', K r G' → F r w' G') → J X nL pc (loc s) [] (up w G) := by
  intro n
  induction n with
  | zero => intro s w G K h; exact h.elim
  | succ n ih =>
    intro s w G K h hF
    refine body s w G _ h (fun r w' G' hr => ?_)
    cases r with
    | inl s' => exact ih s' w' G' K hr hF
    | inr r => exact hF r w' G' hr
