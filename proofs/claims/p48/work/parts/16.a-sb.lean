/-! ===== a StringBuilder's text ===== -/
/-- object o, its row v of cap bytes; the text -/
def SBs (G : Mem) (o v cap : Nat) (B : List Nat) : Prop := (mt G o = 18 ∧ mP G o 0 = some v ∧ mI G o 1 = nW 0 ∧ mI G o 3 = nW B.length) ∧ (mt G v = 2 ∧ mn G v = cap) ∧ (B.length ≤ cap ∧ cap ≤ 114) ∧ (∀ i, i < B.length → mI G v i = nW (B.getD i 0)) ∧ (∀ i, i < B.length → B.getD i 0 < 128) ∧ (Frsh G ∧ 266 ≤ o ∧ 266 ≤ v)
/-- what is new lies above; k cells and s slots at most -/
def Frm (a : Nat) (k s : Nat) (G G' : Mem) : Prop := (mz G ≤ mz G' ∧ mz G' ≤ mz G + k ∧ ml G' ≤ ml G + s ∧ cC G' = cC G ∧ cS G' = cS G) ∧ ∀ b, b < a → mt G' b = mt G b ∧ mn G' b = mn G b ∧ mI G' b = mI G b ∧ mJ G' b = mJ G b ∧ mP G' b = mP G b
theorem Frm.rfl' {a : Nat} {G : Mem} : Frm a 0 0 G G := ⟨⟨Nat.le_refl _, Nat.le_refl _, Nat.le_refl _, rfl, rfl⟩, fun _ _ => ⟨rfl, rfl, rfl, rfl, rfl⟩⟩
theorem Frm.trans {a k s k2 s2 : Nat} {G G1 G2 : Mem} (h : Frm a k s G G1) (h2 : Frm a k2 s2 G1 G2) : Frm a (k + k2) (s + s2) G G2 := by
  obtain ⟨⟨a1, a2, a3, a4, a5⟩, a6⟩ := h
  obtain ⟨⟨b1, b2, b3, b4, b5⟩, b6⟩ := h2
  refine ⟨⟨by omega, by omega, by omega, b4.trans a4, b5.trans a5⟩, fun b hb => ?_⟩
  obtain ⟨x1, x2, x3, x4, x5⟩ := a6 b hb
  obtain ⟨y1, y2, y3, y4, y5⟩ := b6 b hb
  exact ⟨y1.trans x1, y2.trans x2, y3.trans x3, y4.trans x4, y5.trans x5⟩
theorem getD_l {l1 l2 : List Nat} {i : Nat} (h : i < l1.length) : (l1 ++ l2).getD i 0 = l1.getD i 0 := by
  rw [List.getD_eq_getElem?_getD, List.getD_eq_getElem?_getD, List.getElem?_append_left h]
theorem getD_r {l1 l2 : List Nat} {i : Nat} (h : l1.length ≤ i) : (l1 ++ l2).getD i 0 = l2.getD (i - l1.length) 0 := by
  rw [List.getD_eq_getElem?_getD, List.getD_eq_getElem?_getD, List.getElem?_append_right h]
section SBS
variable {G : Mem} {o v cap : Nat} {B : List Nat}
theorem SBs.lt (h : SBs G o v cap B) : o < mz G ∧ v < mz G ∧ o ≠ v := by
  obtain ⟨⟨a1, -⟩, ⟨a2, -⟩, -, -, -, ⟨hF, -⟩⟩ := h
  refine ⟨?_, ?_, fun e => ?_⟩
  · by_cases q : o < mz G
    · exact q
    · rw [hF o (by omega)] at a1; cases a1
  · by_cases q : v < mz G
    · exact q
    · rw [hF v (by omega)] at a2; cases a2
  · rw [e, a2] at a1; cases a1
theorem SBs.t (h : SBs G o v cap B) : mt G o = 18 := h.1.1
theorem SBs.f0 (h : SBs G o v cap B) : gR G 18 o 0 = some v := gR_ok h.1.1 h.1.2.1
theorem SBs.f1 (h : SBs G o v cap B) : gF G 18 o 1 = some (nW 0) := (if_pos h.1.1).trans (congrArg some h.1.2.2.1)
theorem SBs.f3 (h : SBs G o v cap B) : gF G 18 o 3 = some (nW B.length) := (if_pos h.1.1).trans (congrArg some h.1.2.2.2)
theorem SBs.len (h : SBs G o v cap B) : gL G v = some (nW cap) := by
  have := gL_ok (G := G) (a := v) (Or.inr (Or.inl h.2.1.1))
  rw [this, h.2.1.2]
theorem SBs.latin (h : SBs G o v cap B) : fJ5_isLatin1_aae02 o G = some (nW 1, G) := by
  unfold fJ5_isLatin1_aae02 fJ5_isLatin1_aae02_0 fJ5_isLatin1_aae02_18
  rw [if_neg (by decide), h.f1, Option.bind_some, if_pos (show nW 0 = (0 : Int32) from rfl)]
  exact if_pos (Or.inr rfl)
/-- bytes are written behind the text, and counted -/
theorem SBs.put (h : SBs G o v cap B) {C : List Nat} (hl : B.length + C.length ≤ cap) (hC : ∀ i, i < C.length → C.getD i 0 < 128) {x : Nat → Nat → Int32} (h1 : ∀ i, i < C.length → x v (B.length + i) = nW (C.getD i 0)) (h2 : ∀ i, i < B.length → x v i = mI G v i) (h3 : x o 3 = nW (B.length + C.length)) (h4 : ∀ j, j ≠ 3 → x o j = mI G o j) (h5 : ∀ b, b ≠ o → b ≠ v → x b = mI G b) : SBs (wI G x) o v cap (B ++ C) ∧ Frm 266 0 0 G (wI G x) := by
  obtain ⟨⟨a1, a2, a3, a4⟩, a5, ⟨a6, a7⟩, a8, a9, ⟨hF, ho, hv⟩⟩ := h
  refine ⟨⟨⟨a1, a2, (h4 1 (by decide)).trans a3, ?_⟩, a5, ⟨by rw [List.length_append]; exact hl, a7⟩, fun i hi => ?_, fun i hi => ?_, ⟨hF, ho, hv⟩⟩, ⟨Nat.le_refl _, Nat.le_refl _, Nat.le_refl _, rfl, rfl⟩, fun b hb => ⟨rfl, rfl, h5 b (by omega) (by omega), rfl, rfl⟩⟩
  · show x o 3 = _
    rw [h3, List.length_append]
  · rw [List.length_append] at hi
    show x v i = _
    by_cases e : i < B.length
    · rw [h2 i e, a8 i e, getD_l e]
    · have := h1 (i - B.length) (by omega)
      rw [show B.length + (i - B.length) = i by omega] at this
      rw [this, getD_r (by omega)]
  · rw [List.length_append] at hi
    by_cases e : i < B.length
    · rw [getD_l e]; exact a9 i e
    · rw [getD_r (by omega)]; exact hC _ (by omega)
end SBS
