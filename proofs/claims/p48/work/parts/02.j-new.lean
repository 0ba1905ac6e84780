/-! ===== new things ===== -/
theorem u1_ne {α : Type} {f : Nat → α} {a b : Nat} {v : α} (h : b ≠ a) : u1 f a v b = f b := by unfold u1; rw [if_neg h]
theorem u1_eq {α : Type} {f : Nat → α} {a : Nat} {v : α} : u1 f a v a = v := by unfold u1; rw [if_pos rfl]
theorem mk_cell {cy : Nat → ClassId} {B : Nat} {G : Mem} {t n w b : Nat} (hb : b ≠ mz G) : cellE cy B (mk G t n w) b = cellE cy B G b := cellE_congr (u1_ne hb) (u1_ne hb) (ur_ne hb) (ur_ne hb) (ur_ne hb)
theorem rel_push {B : Nat} {H0 : Heap} {D : va_G} {cy : Nat → ClassId} {cc cs : Nat} {G : Mem} {H : Heap} (h : Rel B H0 D cy cc cs G H) {t n w : Nat} {c : Cell} (hw : c.slots.size = w) (hc : mz G + 1 ≤ cc) (hs : ml G + w ≤ cs)
    (hat : va_at D cls (B + mz G, cellE cy B (mk G t n w) (mz G)) (H.push c)) : Rel B H0 D cy cc cs (mk G t n w) (H.push c) := by
  have hlt := fun a (ha : mt G a ≠ 0) => h.lt ha
  obtain ⟨r1, r2, r3, r4, r5, r6, r7, r8⟩ := h
  have o1 : ∀ q : Nat, q < H.size → (H.push c)[q]? = H[q]? := fun q hq => by rw [Array.getElem?_push, if_neg (Nat.ne_of_lt hq)]
  refine ⟨r1, ?_, ?_, ⟨hc, r4.2⟩, ⟨hs, r5.2⟩, fun q hq => ?_, fun b hb => ?_, fun b hb j => ?_⟩
  · show (H.push c).size = B + (mz G + 1); rw [Array.size_push, r2]; omega
  · show sums B (H.push c) = ml G + w
    rw [sums_push (lo := B) (H := H) (c := c) (by omega) (Array.size_push _) (Array.getElem?_push_size) o1, r3, hw]
  · rw [o1 q (by omega)]; exact r6 q hq
  · by_cases e : b = mz G
    · subst e; exact hat
    · rw [mk_cell e]
      have hb' : mt G b ≠ 0 := by
        have : mt (mk G t n w) b = mt G b := u1_ne e
        rw [← this]; exact hb
      exact (r7 b hb').kept (o1 _ (hlt b hb'))
  · by_cases e : b = mz G
    · subst e
      show fits .byte (.int (ur (mI G) (mz G) (fun _ => 0) (mz G) j)) = true
      rw [ur_eq]; rfl
    · show fits .byte (.int (ur (mI G) (mz G) (fun _ => 0) b j)) = true
      rw [ur_ne e]
      exact r8 b (by have : mt (mk G t n w) b = mt G b := u1_ne e
                     rw [← this]; exact hb) j
section JNEW
variable {X : Cx} {cc : ByteArray} {own : String} {ret : Option FieldType} {nL fr lo pc : Nat} {L L' : List (Nat × Value)} {st : List Value} {G G' : Mem}
theorem mk_ref {B : Nat} {q : Nat} : (Value.ref (B + q)) = Value.ref (B + q) := rfl
/-- room for one more -/
theorem new_room (ok : OK X cc own ret nL fr lo) {H : Heap} {w : Nat} (hR : X.rel G H) (hc : mz G + 1 ≤ cC G ∧ ml G + w ≤ cS G) (hS : X.s.heap.size ≤ H.size ∧ sums X.B H = sums X.B X.s.heap + sums X.s.heap.size H) : H.size - X.s.heap.size + 1 ≤ X.V.cc - mz X.G0 ∧ sums X.s.heap.size H + w ≤ X.V.cs - ml X.G0 ∧ mz G + 1 ≤ X.V.cc ∧ ml G + w ≤ X.V.cs := by
  obtain ⟨f1, f2⟩ := ok_fit ok hR hS
  have c1 : cC G = X.V.cc := hR.2.2.2.1.2
  have c2 : cS G = X.V.cs := hR.2.2.2.2.1.2
  omega
/-- behind a making -/
theorem J.born (ok : OK X cc own ret nL fr lo) {H : Heap} {locs : List Loc} {ls : Array Slot} {c : Cell} {w : Nat} (kk : J X nL pc L st G') (hR' : X.rel G' (H.push c)) (hw : c.slots.size = w) (hS : X.s.heap.size ≤ H.size) (hcl : ∀ q ∈ locs, X.B ≤ q.base) (hl : lv_has ls nL L) :
    W X.p X.l X.e X.R X.s X.m X.args X.below X.meth X.c (H.push c) locs (H.size - X.s.heap.size + 1) (sums X.s.heap.size H + w) X.Q (F0 X.m pc ls st) := by
  have := kk (H.push c) locs ls hR' hcl hl
  rw [Array.size_push, sums_push (lo := X.s.heap.size) (H := H) (c := c) hS (Array.size_push _) (Array.getElem?_push_size) (fun q hq => by rw [Array.getElem?_push, if_neg (Nat.ne_of_lt hq)]), hw, show H.size + 1 - X.s.heap.size = H.size - X.s.heap.size + 1 by omega] at this
  exact this
theorem k_newaT (ok : OK X cc own ret nL fr lo) {atype : ArrayType} {t : Nat} (hty : (t = 1 ∧ atype = .int) ∨ (t = 2 ∧ atype = .byte) ∨ (t = 3 ∧ atype = .boolean) ∨ (t = 5 ∧ atype = .long)) (wa : Cond.arrayClass (newarray.typeOf atype) ∈ WT) {n : Int32} {q : Nat × Mem} (hv : nA G t n = some q) (hd : decode cc pc = .ok (.newarray atype, 2)) (kk : J X nL (pc + 2) L (.ref (X.B + q.1) :: st) q.2) : J X nL pc L (.int n :: st) G := by
  obtain ⟨⟨⟨h0, h60⟩, hcap⟩, rfl⟩ := ite_get hv
  intro H locs ls hR hcl hl
  have hR2 : X.R = rmOf fr lo X.V X.G0 := ok.2.2.2.2.2.2.2.1
  refine w_fit ok fun hS => ?_
  obtain ⟨g1, g2, g3, g4⟩ := new_room ok hR hcap hS
  have hsz : H.size = X.B + mz G := hR.2.1
  have key : ∀ cA : ClassId, X.s.vm.findClass ("[" ++ (newarray.typeOf atype).toString) = some cA → cA = X.V.cy t := by
    intro cA h
    rcases hty with ⟨rfl, rfl⟩ | ⟨rfl, rfl⟩ | ⟨rfl, rfl⟩ | ⟨rfl, rfl⟩
    · exact Option.some.inj (h.symm.trans (ok.k.2 0 _ rfl).2)
    · exact Option.some.inj (h.symm.trans (ok.k.2 1 _ rfl).2)
    · exact Option.some.inj (h.symm.trans (ok.k.2 2 _ rfl).2)
    · exact Option.some.inj (h.symm.trans (ok.k.2 3 _ rfl).2)
  refine W.newa ok.1 ok.2.1 (ok.2.2.2.2.1 _ wa) rfl hd rfl (i_nn h0) ?_ (by rw [hR2]; exact g1) (by rw [hR2]; exact g2) fun cA kA comp h1 h2 h3 => ?_
  · have hb : componentBytes (newarray.typeOf atype) ≤ 8 := by cases atype <;> decide
    have hn : n.toNatClampNeg ≤ 60000000 := by
      show n.toInt.toNat ≤ 60000000
      omega
    have : n.toNatClampNeg * componentBytes (newarray.typeOf atype) ≤ n.toNatClampNeg * 8 := Nat.mul_le_mul_left _ hb
    omega
  · rw [key cA h1]
    have hw : ({ cls := X.V.cy t, slots := Array.replicate n.toNatClampNeg (defaultValue (newarray.typeOf atype)), vm := .none } : Cell).slots.size = n.toNatClampNeg := by simp
    show W _ _ _ _ _ _ _ _ _ _ _ _ _ _ _ (F0 X.m (pc + 2) ls (.ref H.size :: st))
    rw [hsz]
    rw [← hsz]
    refine J.born ok (L := L) (G' := mk G t n.toNatClampNeg n.toNatClampNeg) (by rw [hsz]; exact kk) (rel_push hR hw g3 g4 ?_) hw hS.1 hcl hl
    have ht : mt (mk G t n.toNatClampNeg n.toNatClampNeg) (mz G) = t := u1_eq
    have hn : mn (mk G t n.toNatClampNeg n.toNatClampNeg) (mz G) = n.toNatClampNeg := u1_eq
    have hi : mI (mk G t n.toNatClampNeg n.toNatClampNeg) (mz G) = fun _ => 0 := ur_eq
    have hj : mJ (mk G t n.toNatClampNeg n.toNatClampNeg) (mz G) = fun _ => 0 := ur_eq
    have e : ∀ v : Value, (H.push ({ cls := X.V.cy t, slots := Array.replicate n.toNatClampNeg v, vm := .none } : Cell))[X.B + mz G]? = some (arrV (X.V.cy t) n.toNatClampNeg (fun _ => v)) := fun v => by rw [← hsz, Array.getElem?_push_size, ← arrV_new]
    rcases hty with ⟨rfl, rfl⟩ | ⟨rfl, rfl⟩ | ⟨rfl, rfl⟩ | ⟨rfl, rfl⟩
    · rw [cellE_int (Or.inl rfl) ht, hn, hi]; exact e _
    · rw [cellE_int (Or.inr (Or.inl rfl)) ht, hn, hi]; exact e _
    · rw [cellE_int (Or.inr (Or.inr rfl)) ht, hn, hi]; exact e _
    · rw [cellE_long ht, hn, hj]; exact e _
end JNEW
