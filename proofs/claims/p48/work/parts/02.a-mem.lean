/-! ===== the String constants ===== -/
def strTab : List (String × Nat × String × Nat) := [("ChessNotes$Parser", 106, "board", 0), ("ChessNotes$Parser", 117, "white", 1), ("ChessNotes$Parser", 119, "black", 2), ("ChessNotes$Parser", 148, "king", 3), ("ChessNotes$Parser", 150, "queen", 4), ("ChessNotes$Parser", 152, "rook", 5), ("ChessNotes$Parser", 154, "bishop", 6), ("ChessNotes$Parser", 156, "knight", 7), ("ChessNotes$Parser", 77, "note", 8), ("ChessNotes$Parser", 83, "origin", 9), ("ChessNotes$Parser", 85, "drop", 10), ("ChessNotes$Parser", 158, "any", 11), ("ChessNotes$Parser", 164, "from", 12), ("ChessNotes$Parser", 172, "to", 13), ("ChessNotes$Parser", 180, "takes", 14), ("ChessNotes$Parser", 185, "check", 15), ("java/util/Arrays", 48, "fromIndex(", 16), ("java/util/Arrays", 57, ") > toIndex(", 17), ("java/util/Arrays", 59, ")", 18), ("java/util/Arrays", 337, " > ", 19), ("java/lang/ArrayIndexOutOfBoundsException", 13, "Array index out of range: ", 20), ("ChessNotes", 177, "there is no note", 21), ("ChessNotes", 179, "there is no change to undo", 22), ("ChessNotes", 87, "no such length", 23), ("ChessNotes", 218, "there are fewer notes", 24), ("ChessNotes", 324, "no such position", 25), ("ChessNotes", 326, "no such square", 26), ("ChessNotes", 328, "no such colour", 27), ("ChessNotes", 321, "no such note", 28), ("ChessNotes", 337, "no such move", 29), ("ChessNotes", 162, "no such column or row", 30), ("ChessNotes", 172, "the origin is not possible", 31), ("ChessNotes", 332, "no such kind, column or row", 32), ("ChessNotes", 141, "the note is not possible", 33), ("ChessNotesLaw", 208, "board 4 4;white king 0 0;black king 3 3;", 34), ("ChessNotesLaw", 213, "white ", 35), ("ChessNotesLaw", 215, "black ", 36), ("ChessNotesLaw", 196, "king", 3), ("ChessNotesLaw", 198, "queen", 4), ("ChessNotesLaw", 200, "rook", 5), ("ChessNotesLaw", 202, "bishop", 6), ("ChessNotesLaw", 204, "knight", 7)]
def strN : Nat := 37
def strByt : List (List Int32) := [[98, 111, 97, 114, 100], [119, 104, 105, 116, 101], [98, 108, 97, 99, 107], [107, 105, 110, 103], [113, 117, 101, 101, 110], [114, 111, 111, 107], [98, 105, 115, 104, 111, 112], [107, 110, 105, 103, 104, 116], [110, 111, 116, 101], [111, 114, 105, 103, 105, 110], [100, 114, 111, 112], [97, 110, 121], [102, 114, 111, 109], [116, 111], [116, 97, 107, 101, 115], [99, 104, 101, 99, 107], [102, 114, 111, 109, 73, 110, 100, 101, 120, 40], [41, 32, 62, 32, 116, 111, 73, 110, 100, 101, 120, 40], [41], [32, 62, 32], [65, 114, 114, 97, 121, 32, 105, 110, 100, 101, 120, 32, 111, 117, 116, 32, 111, 102, 32, 114, 97, 110, 103, 101, 58, 32], [116, 104, 101, 114, 101, 32, 105, 115, 32, 110, 111, 32, 110, 111, 116, 101], [116, 104, 101, 114, 101, 32, 105, 115, 32, 110, 111, 32, 99, 104, 97, 110, 103, 101, 32, 116, 111, 32, 117, 110, 100, 111], [110, 111, 32, 115, 117, 99, 104, 32, 108, 101, 110, 103, 116, 104], [116, 104, 101, 114, 101, 32, 97, 114, 101, 32, 102, 101, 119, 101, 114, 32, 110, 111, 116, 101, 115], [110, 111, 32, 115, 117, 99, 104, 32, 112, 111, 115, 105, 116, 105, 111, 110], [110, 111, 32, 115, 117, 99, 104, 32, 115, 113, 117, 97, 114, 101], [110, 111, 32, 115, 117, 99, 104, 32, 99, 111, 108, 111, 117, 114], [110, 111, 32, 115, 117, 99, 104, 32, 110, 111, 116, 101], [110, 111, 32, 115, 117, 99, 104, 32, 109, 111, 118, 101], [110, 111, 32, 115, 117, 99, 104, 32, 99, 111, 108, 117, 109, 110, 32, 111, 114, 32, 114, 111, 119], [116, 104, 101, 32, 111, 114, 105, 103, 105, 110, 32, 105, 115, 32, 110, 111, 116, 32, 112, 111, 115, 115, 105, 98, 108, 101], [110, 111, 32, 115, 117, 99, 104, 32, 107, 105, 110, 100, 44, 32, 99, 111, 108, 117, 109, 110, 32, 111, 114, 32, 114, 111, 119], [116, 104, 101, 32, 110, 111, 116, 101, 32, 105, 115, 32, 110, 111, 116, 32, 112, 111, 115, 115, 105, 98, 108, 101], [98, 111, 97, 114, 100, 32, 52, 32, 52, 59, 119, 104, 105, 116, 101, 32, 107, 105, 110, 103, 32, 48, 32, 48, 59, 98, 108, 97, 99, 107, 32, 107, 105, 110, 103, 32, 51, 32, 51, 59], [119, 104, 105, 116, 101, 32], [98, 108, 97, 99, 107, 32]]
def strLen : List Nat := [5, 5, 5, 4, 5, 4, 6, 6, 4, 6, 4, 3, 4, 2, 5, 5, 10, 12, 1, 3, 26, 16, 26, 14, 21, 16, 14, 14, 12, 12, 21, 26, 27, 24, 40, 6, 6]
/-! ===== the memory of the system, as mathematics; and what a heap that holds it is ===== -/
/-- cells used, slots used, kinds, lengths, ints, longs, references, how many cells and slots there may be at the most; addresses are counted from the base -/
abbrev Mem : Type := Nat × Nat × (Nat → Nat) × (Nat → Nat) × (Nat → Nat → Int32) × (Nat → Nat → Int64) × (Nat → Nat → Option Nat) × Nat × Nat
def mz (G : Mem) : Nat := G.1
def ml (G : Mem) : Nat := G.2.1
def mt (G : Mem) : Nat → Nat := G.2.2.1
def mn (G : Mem) : Nat → Nat := G.2.2.2.1
def mI (G : Mem) : Nat → Nat → Int32 := G.2.2.2.2.1
def mJ (G : Mem) : Nat → Nat → Int64 := G.2.2.2.2.2.1
def mP (G : Mem) : Nat → Nat → Option Nat := G.2.2.2.2.2.2.1
def cC (G : Mem) : Nat := G.2.2.2.2.2.2.2.1
def cS (G : Mem) : Nat := G.2.2.2.2.2.2.2.2
def u1 {α : Type} (f : Nat → α) (a : Nat) (v : α) : Nat → α := fun b => if b = a then v else f b
def u2 {α : Type} (f : Nat → Nat → α) (a k : Nat) (v : α) : Nat → Nat → α := fun b j => if b = a ∧ j = k then v else f b j
def ur {α : Type} (f : Nat → Nat → α) (a : Nat) (r : Nat → α) : Nat → Nat → α := fun b j => if b = a then r j else f b j
def wI (G : Mem) (x : Nat → Nat → Int32) : Mem := (mz G, ml G, mt G, mn G, x, mJ G, mP G, cC G, cS G)
def wJ (G : Mem) (x : Nat → Nat → Int64) : Mem := (mz G, ml G, mt G, mn G, mI G, x, mP G, cC G, cS G)
def wP (G : Mem) (x : Nat → Nat → Option Nat) : Mem := (mz G, ml G, mt G, mn G, mI G, mJ G, x, cC G, cS G)
def sI (G : Mem) (a k : Nat) (v : Int32) : Mem := wI G (u2 (mI G) a k v)
def sJ (G : Mem) (a k : Nat) (v : Int64) : Mem := wJ G (u2 (mJ G) a k v)
def sP (G : Mem) (a k : Nat) (v : Option Nat) : Mem := wP G (u2 (mP G) a k v)
/-- a new cell of kind t, length n, using w slots -/
def mk (G : Mem) (t n w : Nat) : Mem := (mz G + 1, ml G + w, u1 (mt G) (mz G) t, u1 (mn G) (mz G) n, ur (mI G) (mz G) (fun _ => 0), ur (mJ G) (mz G) (fun _ => 0), ur (mP G) (mz G) (fun _ => none), cC G, cS G)
/-- more cells that nobody asks for -/
def bump (G : Mem) (d w : Nat) : Mem := (mz G + d, ml G + w, mt G, mn G, mI G, mJ G, mP G, cC G, cS G)
/-- the same with other caps -/
def caps (G : Mem) (d w : Nat) : Mem := (mz G, ml G, mt G, mn G, mI G, mJ G, mP G, d, w)
abbrev cls : List vw_C := [(RX0, TX0, 7), (RX1, TX1, 7), (RX2, TX2, 11), (RX3, TX3, 9), (RX4, TX4, 3), (RX5, TX5, 6), (RX6, TX6, 12), (RJ0, TJ0, 4), (RJ4, TJ4, 4)]
/-- the fields of a kind of object: false an int, true a reference -/
def fk : Nat → List Bool
  | 10 => [false, false, true, false, true, false, false]
  | 11 => [false, false, false, false, false, false, false]
  | 12 => [true, false, false, false, false, false, true, false, false, false, false]
  | 13 => [true, false, true, true, true, true, true, true, true]
  | 14 => [true, false, true]
  | 15 => [false, false, false, false, false, true]
  | 16 => [true, true, true, true, true, true, false, false, true, true, true, false]
  | 17 => [true, false, false, false]
  | 18 => [true, false, false, false]
  | _ => []
def rv (B : Nat) (o : Option Nat) : Value := va_rf (o.map (fun x => B + x))
def fv (B : Nat) (G : Mem) (a : Nat) (q : Bool × Nat) : Value := if q.1 then rv B (mP G a q.2) else .int (mI G a q.2)
def cellE (cy : Nat → ClassId) (B : Nat) (G : Mem) (a : Nat) : va_E :=
  if mt G a = 1 ∨ mt G a = 2 ∨ mt G a = 3 then .inl (cy (mt G a), mn G a, .inl (mI G a))
  else if mt G a = 5 then .inl (cy 5, mn G a, .inr (.inl (mJ G a)))
  else if mt G a = 6 ∨ mt G a = 7 then .inl (cy (mt G a), mn G a, .inr (.inr (.inr (.inr (fun j => (mP G a j).map (fun x => B + x))))))
  else if mt G a = 8 then .inl (cy 8, mn G a, .inr (.inr (.inr (.inr (fun j => (mP G a j).map (fun i => cy (100 + i)))))))
  else .inr (mt G a - 10, (fk (mt G a)).zipIdx.map (fv B G a))
def sums (lo : Nat) (H : Heap) : Nat := ((H.toList.drop lo).map (·.slots.size)).sum
def RelX (B : Nat) (H0 : Heap) (D : va_G) (cy : Nat → ClassId) (G : Mem) (H : Heap) : Prop :=
  H0.size = B ∧ B + mz G ≤ H.size ∧ ml G ≤ sums B H ∧ (∀ q : Nat, q < B → H[q]? = H0[q]?) ∧ (∀ a, mt G a ≠ 0 → va_at D cls (B + a, cellE cy B G a) H) ∧ (∀ a, mt G a = 2 → ∀ j, fits .byte (.int (mI G a j)) = true)
def Rel (B : Nat) (H0 : Heap) (D : va_G) (cy : Nat → ClassId) (cc cs : Nat) (G : Mem) (H : Heap) : Prop :=
  H0.size = B ∧ H.size = B + mz G ∧ sums B H = ml G ∧ (mz G ≤ cc ∧ cC G = cc) ∧ (ml G ≤ cs ∧ cS G = cs) ∧ (∀ q : Nat, q < B → H[q]? = H0[q]?) ∧ (∀ a, mt G a ≠ 0 → va_at D cls (B + a, cellE cy B G a) H) ∧ (∀ a, mt G a = 2 → ∀ j, fits .byte (.int (mI G a j)) = true)
theorem sums_congr {lo : Nat} {H H1 : Heap} (hz : H1.size = H.size) (h : ∀ q : Nat, (H1[q]?).map (fun c : Cell => c.slots.size) = (H[q]?).map (fun c : Cell => c.slots.size)) : sums lo H1 = sums lo H := by
  have e : H1.toList.map (fun c : Cell => c.slots.size) = H.toList.map (fun c : Cell => c.slots.size) := by
    apply List.ext_getElem?
    intro i
    simpa using h i
  unfold sums
  rw [List.map_drop, List.map_drop, e]
theorem sums_push {lo : Nat} {H H1 : Heap} {c : Cell} (hlo : lo ≤ H.size) (hz : H1.size = H.size + 1) (hc : H1[H.size]? = some c) (h : ∀ q : Nat, q < H.size → H1[q]? = H[q]?) : sums lo H1 = sums lo H + c.slots.size := by
  have e : H1.toList = H.toList ++ [c] := by
    apply List.ext_getElem?
    intro i
    by_cases hi : i < H.size
    · rw [List.getElem?_append_left (by simpa using hi)]
      simpa using h i hi
    · by_cases hj : i = H.size
      · subst hj
        simpa using hc
      · rw [List.getElem?_eq_none (by simp; omega), List.getElem?_eq_none (by simp; omega)]
  unfold sums
  rw [e, List.drop_append_of_le_length (by simpa using hlo)]
  simp
theorem sums_split {lo mid : Nat} {H H1 : Heap} (h1 : lo ≤ mid) (hm : mid = H.size) (h2 : mid ≤ H1.size) (h : ∀ q : Nat, q < mid → (H1[q]?).map (fun c : Cell => c.slots.size) = (H[q]?).map (fun c : Cell => c.slots.size)) : sums lo H1 = sums lo H + sums mid H1 := by
  have e : (H1.toList.map (fun c : Cell => c.slots.size)).take mid = H.toList.map (fun c : Cell => c.slots.size) := by
    apply List.ext_getElem?
    intro i
    by_cases hi : i < mid
    · rw [List.getElem?_take_of_lt hi]
      simpa using h i hi
    · rw [List.getElem?_eq_none (by simp; omega), List.getElem?_eq_none (by simp; omega)]
  have g : H1.toList.map (fun c : Cell => c.slots.size) = (H1.toList.map (fun c : Cell => c.slots.size)).take mid ++ (H1.toList.map (fun c : Cell => c.slots.size)).drop mid := (List.take_append_drop _ _).symm
  unfold sums
  rw [List.map_drop, List.map_drop, List.map_drop, ← e]
  conv => lhs; rw [g]
  rw [List.drop_append_of_le_length (by simp; omega)]
  simp
theorem Rel.lt {B : Nat} {H0 : Heap} {D : va_G} {cy : Nat → ClassId} {cc cs : Nat} {G : Mem} {H : Heap} (h : Rel B H0 D cy cc cs G H) {a : Nat} (ha : mt G a ≠ 0) : B + a < H.size := (h.2.2.2.2.2.2.1 a ha).lt
theorem Rel.write {B : Nat} {H0 : Heap} {D : va_G} {cy : Nat → ClassId} {cc cs : Nat} {G G' : Mem} {H H1 : Heap} (h : Rel B H0 D cy cc cs G H) {a : Nat} (hz : mz G' = mz G) (hl : ml G' = ml G) (ht : mt G' = mt G) (hcc : cC G' = cC G) (hcs : cS G' = cS G)
    (hoth : ∀ b, b ≠ a → cellE cy B G' b = cellE cy B G b) {c0 c1 : Cell} (h0 : H[B + a]? = some c0) (h1 : H1[B + a]? = some c1) (hs : c1.slots.size = c0.slots.size) (hz1 : H1.size = H.size) (oq : ∀ q : Nat, q ≠ B + a → H1[q]? = H[q]?)
    (hat : mt G a ≠ 0 → va_at D cls (B + a, cellE cy B G' a) H1) (hby : ∀ b, mt G b = 2 → ∀ j, fits .byte (.int (mI G' b j)) = true) : Rel B H0 D cy cc cs G' H1 := by
  obtain ⟨r1, r2, r3, r4, r5, r6, r7, r8⟩ := h
  refine ⟨r1, by rw [hz1, r2, hz], ?_, ⟨by rw [hz]; exact r4.1, hcc.trans r4.2⟩, ⟨by rw [hl]; exact r5.1, hcs.trans r5.2⟩, fun q hq => ?_, fun b hb => ?_, fun b hb => ?_⟩
  · rw [hl, ← r3]
    refine sums_congr hz1 fun q => ?_
    by_cases hq : q = B + a
    · rw [hq, h0, h1]
      simp [hs]
    · rw [oq q hq]
  · rw [oq q (by omega)]
    exact r6 q hq
  · rw [ht] at hb
    by_cases e : b = a
    · subst e
      exact hat hb
    · rw [hoth b e]
      exact (r7 b hb).kept (oq _ (by show B + b ≠ B + a; omega))
  · rw [ht] at hb
    exact hby b hb
theorem rel_x {B : Nat} {H0 : Heap} {D : va_G} {cy : Nat → ClassId} {cc cs : Nat} {G : Mem} {H H1 : Heap} (h : Rel B H0 D cy cc cs G H) (hz : H.size ≤ H1.size) (hq : ∀ q : Nat, q < H.size → H1[q]? = H[q]?) : RelX B H0 D cy G H1 := by
  obtain ⟨r1, r2, r3, r4, r5, r6, r7, r8⟩ := h
  have hs := sums_split (lo := B) (mid := H.size) (H := H) (H1 := H1) (by omega) rfl hz (fun q h => by rw [hq q h])
  refine ⟨r1, by omega, by omega, fun q h => ?_, fun a ha => ?_, r8⟩
  · rw [hq q (by omega)]; exact r6 q h
  · have := r7 a ha
    exact this.kept (hq _ this.lt)
theorem rel_of_x {B : Nat} {H0 : Heap} {D : va_G} {cy : Nat → ClassId} {cc cs : Nat} {G : Mem} {H1 : Heap} (h : RelX B H0 D cy G H1) (hc : H1.size ≤ B + cc) (hs : sums B H1 ≤ cs) : Rel B H0 D cy cc cs (caps (bump G (H1.size - (B + mz G)) (sums B H1 - ml G)) cc cs) H1 := by
  obtain ⟨r1, r2, r3, r6, r7, r8⟩ := h
  refine ⟨r1, ?_, ?_, ⟨?_, rfl⟩, ⟨?_, rfl⟩, r6, r7, r8⟩
  · show H1.size = B + (mz G + (H1.size - (B + mz G))); omega
  · show sums B H1 = ml G + (sums B H1 - ml G); omega
  · show mz G + (H1.size - (B + mz G)) ≤ cc; omega
  · show ml G + (sums B H1 - ml G) ≤ cs; omega
