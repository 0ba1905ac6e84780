/-! ===== steps of the class that work on one state ===== -/
def Sto (G G' : Mem) (ro l K l1 K1 : Nat → Nat) (t d : Nat) (P : Nat → Prop) : Prop := CSh G' ro l1 K1 ∧ Rom G' K1 d ∧ (∀ i, i < 12 → i ≠ t → ∀ B, ARk G ro l K i B → ARk G' ro l1 K1 i B) ∧ RKp G G' ∧ (∀ b, (b < 9 ∨ (51 ≤ b ∧ b < 55)) → ¬ P b → mI G' b = mI G b ∧ mJ G' b = mJ G b) ∧ ∀ e, e < 12 → mI G' (fa e + 9) 0 = nW 0
section STEPS
variable {G : Mem} {ro l K : Nat → Nat} {W : WSt} {d t : Nat} {P : Nat → Prop}
theorem sto_gro (h : CSh G ro l K) (hR : Rom G K d) (h0 : ∀ e, e < 12 → mI G (fa e + 9) 0 = nW 0) (ht : t < 12) {ch : Nat → Prop} (hch : ∀ z, ch z → CHa (fa (ro t)) (l (ro t)) z ∨ (z < 9 ∧ P z)) {G' : Mem} {l' K' : Nat} (hg : Gro (fa (ro t)) ch G G' (K (ro t)) K') (hS : SS G' (fa (ro t)) l' K') (hF : Frsh G') (hl : l' = l (ro t) ∨ mz G ≤ l') (hl0 : mI G' (fa (ro t) + 9) 0 = nW 0) : Sto G G' ro l K (upN l (ro t) l') (upN K (ro t) K') t d P := by
  have hr := h.r ht
  have fr := fa_ok hr
  have lp := h.lp hr
  have hz := h.z
  obtain ⟨g1, g2⟩ := h.grow hR hr hg hS hF hl
  have cell : ∀ z, z < mz G → ¬ CHa (fa (ro t)) (l (ro t)) z → ¬ (z < 9 ∧ P z) → mI G' z = mI G z ∧ mJ G' z = mJ G z := fun z hz q1 q2 => hg.2.2 z hz (fun q => by rcases hch z q with q | q; exact q1 q; exact q2 q)
  refine ⟨g1, g2, fun i hi hne B hB => hB.keep h hi hr (h.rne ht hi (fun q => hne q.symm)) hg (fun z hz hc => ?_), RKp.gro hr hz hg (fun b q1 q2 q => ?_), fun b hb hn => cell b (by omega) (by unfold CHa; omega) (fun q => hn q.2), fun e he => ?_⟩
  · rcases hch z hc with q | q
    · exact Or.inl q
    · exact Or.inr (Or.inl q.1)
  · rcases hch b q with q | q
    · unfold CHa at q; omega
    · omega
  · by_cases q : e = ro t
    · rw [q]; exact hl0
    · have f2 := fa_ok he
      have f3 := fa_ne q
      rw [(cell (fa e + 9) (by omega) (by unfold CHa; omega) (by omega)).1]; exact h0 e he
theorem Sto.trans {G1 G2 : Mem} {l1 K1 l2 K2 : Nat → Nat} {P2 P3 : Nat → Prop} (h : Sto G G1 ro l K l1 K1 t d P) (h2 : Sto G1 G2 ro l1 K1 l2 K2 t d P2) (hP : ∀ b, P b → P3 b) (hP2 : ∀ b, P2 b → P3 b) : Sto G G2 ro l K l2 K2 t d P3 := by
  obtain ⟨a1, a2, a3, a4, a5, a6⟩ := h
  obtain ⟨b1, b2, b3, b4, b5, b6⟩ := h2
  exact ⟨b1, b2, fun i hi hn B hB => b3 i hi hn B (a3 i hi hn B hB), a4.trans b4, fun b hb hn => ⟨(b5 b hb (fun q => hn (hP2 b q))).1.trans (a5 b hb (fun q => hn (hP b q))).1, (b5 b hb (fun q => hn (hP2 b q))).2.trans (a5 b hb (fun q => hn (hP b q))).2⟩, b6⟩
/-- a step on cells outside the states -/
theorem sto_soft (h : CSh G ro l K) (hR : Rom G K d) (h0 : ∀ e, e < 12 → mI G (fa e + 9) 0 = nW 0) {x : Nat → Nat → Int32} {y : Nat → Nat → Int64} (hx : ∀ b, ¬ ((b < 9 ∨ (51 ≤ b ∧ b < 55)) ∧ P b) → x b = mI G b ∧ y b = mJ G b) : Sto G (wIJ G x y) ro l K l K t d P := by
  refine ⟨h, hR, fun i hi _ B hB => hB.soft h hi (fun b hb => hx b (by omega)), RKp.wij (fun b q1 q2 => hx b (by omega)), fun b hb hn => hx b (fun q => hn q.2), fun e he => ?_⟩
  have := fa_ok he
  show x (fa e + 9) 0 = _
  rw [(hx (fa e + 9) (by omega)).1]; exact h0 e he
theorem CHis.stp {G' : Mem} {l1 K1 : Nat → Nat} {hs : List ASt} (hH : CHis G ro l K hs) (h : Sto G G' ro l K l1 K1 t d P) (ht : t < 2 ∨ 10 ≤ t) (hP : ¬ P 0) : CHis G' ro l1 K1 hs := by
  obtain ⟨c1, nw, c3, c4, c5⟩ := hH
  obtain ⟨-, -, a3, -, a5, -⟩ := h
  have e := (a5 0 (by omega) hP).1
  unfold CHis
  rw [e]
  exact ⟨c1, nw, c3, c4, fun t' ht' => a3 _ (by omega) (by omega) _ (c5 t' ht')⟩
theorem CRest.stp {G' : Mem} {l1 K1 : Nat → Nat} (hD : CRest G ro l K W) (h : Sto G G' ro l K l1 K1 t d P) (ht : t < 10) (hP : ∀ b, P b → b = 4 ∨ b = 5 ∨ b = 6 ∨ b = 7 ∨ b = 8) : CRest G' ro l1 K1 W := by
  obtain ⟨a1, ⟨a2, a3, a4⟩, a5, a6⟩ := hD
  obtain ⟨-, -, b3, -, b5, b6⟩ := h
  have c : ∀ b, (b < 4 ∨ (51 ≤ b ∧ b < 55)) → mI G' b = mI G b := fun b hb => (b5 b (by omega) (fun q => by have := hP b q; omega)).1
  refine ⟨fun j hj => ⟨by rw [c 53 (by decide)]; exact (a1 j hj).1, fun A hA => b3 _ (by omega) (by omega) A ((a1 j hj).2 A hA)⟩, ⟨a2.frame (by rw [c 2 (by decide)]) (c 3 (by decide)), by rw [c 1 (by decide)]; exact a3, by rw [c 1 (by decide)]; exact a4⟩, ?_, b6⟩
  rw [c 0 (by decide), c 54 (by decide)]; exact a5
/-- one state is copied into another -/
theorem cpy_ok (h : CSh G ro l K) (hR : Rom G K d) (h0 : ∀ e, e < 12 → mI G (fa e + 9) 0 = nW 0) {s : Nat} (hs : s < 12) (ht : t < 12) (hst : s ≠ t) {A : ASt} (hA : ARk G ro l K s A) :
    ∃ G' l1 K1, fX3_copyFrom (fa (ro t)) (fa (ro s)) G = some ((), G') ∧ Sto G G' ro l K l1 K1 t d (fun _ => False) ∧ ARk G' ro l1 K1 t A := by
  have hr := h.r ht
  have dd := h.dis hr (h.r hs) (h.rne ht hs (fun q => hst q.symm))
  obtain ⟨G', l', K', e1, e2, e3, e4, e5, e6⟩ := copyFrom_ok (h.ss ht) hA.2 hA.1 dd h.fr (hR.rm hr)
  refine ⟨G', _, _, e1, sto_gro h hR h0 ht (fun z q => Or.inl q) e5 e2.1 e3 e6 (e2.2.2.2.2.2.1.1 0 (Nat.zero_le _)).2, ?_, hA.2⟩
  have u1 : upN l (ro t) l' (ro t) = l' := if_pos rfl
  have u2' : upN K (ro t) K' (ro t) = K' := if_pos rfl
  rw [u1, u2']; exact e2
/-- the asked note is laid behind a copy of the present state, and followed -/
theorem followAsked_ok (h : CSh G ro l K) (hR : Rom G K d) (h0 : ∀ e, e < 12 → mI G (fa e + 9) 0 = nW 0) {c r m : Nat} {N : Nat → Nat → Int32} {P0 : Nat → Nat} (hA : ARk G ro l K 0 (c, r, N, P0, m)) {nt : Nat → Int32} (hn : ∀ j, j < 7 → mI G 8 j = nt j) (h5 : nt 5 = 0 ∨ nt 5 = 1) (h6 : nt 6 = 0 ∨ nt 6 = 1) :
    ∃ v G' l1 K1, fX6_followAsked 0 G = some (v, G') ∧ Sto G G' ro l K l1 K1 1 d (fun _ => False) ∧ ((¬ m < 10 ∧ v = -nW 1) ∨ (m < 10 ∧ v = folV c (c * r) (addN N m nt) P0 1 m ∧ (okN c (c * r) (addN N m nt) P0 (m + 1) → ARk G' ro l1 K1 1 (c, r, addN N m nt, P0, m + 1)))) := by
  obtain ⟨G1, l1, K1, c1, c2, c3⟩ := cpy_ok (t := 1) h hR h0 (show 0 < 12 by decide) (by decide) (by decide) hA
  obtain ⟨b1, b2, b3, b4, b5, b6⟩ := id c2
  have hm10 : m ≤ 10 := hA.2.2.2.1
  have hr1 := b1.r (show 1 < 12 by decide)
  have fr := fa_ok hr1
  have n8 : mI G1 8 = mI G 8 := (b5 8 (by decide) (fun q => q)).1
  have hok : AOK c r N P0 m := hA.2
  obtain ⟨a1, a2⟩ := c3
  have al := addLast_ok hok a1 b1.fr (nt := 8) b1.as (by omega) (by rw [n8, hn 5 (by decide)]; exact h5) (by rw [n8, hn 6 (by decide)]; exact h6)
  unfold fX6_followAsked fX6_followAsked_0 fX6_followAsked_45
  simp only [lits]
  rw [h.f4, Option.bind_some, h.f3, Option.bind_some, ck_ok (h.ss (show 1 < 12 by decide)).1.t, c1, Option.bind_some, b1.f4, Option.bind_some, b1.f2, Option.bind_some, ck_ok (b1.ss (show 1 < 12 by decide)).1.t, al]
  by_cases hm : m < 10
  · have eN : ∀ k, k < m + 1 → ∀ j, j < 7 → addN N m (mI G1 8) k j = addN N m nt k j := fun k hk j hj => by
      unfold addN updF
      by_cases e : k = m
      · rw [if_pos e, if_pos e, n8]; exact hn j hj
      · rw [if_neg e, if_neg e]
    obtain ⟨Gf, l', K', p1, p2, p3, p4, p5, p6, p7, p8⟩ := addFollow_ok hok a1 b1.fr (b2.rm hr1) hm (nt := 8) (by omega)
    have st := sto_gro (P := fun _ => False) b1 b2 b6 (show 1 < 12 by decide) (fun z q => Or.inl q) p5 p2 p3 p6 p7
    have r4 : gR (wIJ G1 (ncp (u2 (mI G1) (fa (ro 1)) 1 (nW (m + 1))) (fa (ro 1) + 11 + m) 8) (mJ G1)) 16 0 4 = some (fa (ro 1)) := b1.f4
    have fm : gF (wIJ G1 (ncp (u2 (mI G1) (fa (ro 1)) 1 (nW (m + 1))) (fa (ro 1) + 11 + m) 8) (mJ G1)) 13 (fa (ro 1)) 1 = some (nW (m + 1)) := by
      rw [gF_wij a1.1.1.t]
      unfold ncp
      rw [if_neg (by omega), u2_same]
    rw [if_pos hm, Option.bind_some, if_neg (show ¬ nW 1 = nW 0 by decide), r4, Option.bind_some, Option.bind_some, fm, Option.bind_some, ck_wij, ck_ok a1.1.1.t, nW_sub (by omega), Nat.add_sub_cancel, p1, Option.bind_some]
    refine ⟨_, Gf, _, _, rfl, c2.trans st (fun _ q => q) (fun _ q => q), Or.inr ⟨hm, folV_cong (m := m + 1) eN 1 (Nat.le_refl _), fun q => ?_⟩⟩
    have q' : okN c (c * r) (addN N m (mI G1 8)) P0 (m + 1) := okN_cong (fun k hk j hj => (eN k hk j hj).symm) q
    refine ⟨?_, hok.add hm q h5 h6⟩
    have u1 : upN l1 (ro 1) l' (ro 1) = l' := if_pos rfl
    have u2' : upN K1 (ro 1) K' (ro 1) = K' := if_pos rfl
    rw [u1, u2']
    exact (p8 q').congN eN
  · rw [if_neg hm, Option.bind_some, if_pos (show nW 0 = nW 0 from rfl)]
    exact ⟨_, G1, l1, K1, rfl, c2, Or.inl ⟨hm, rfl⟩⟩
end STEPS
