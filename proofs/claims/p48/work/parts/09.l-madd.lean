/-! ===== the reference: a note more, a note less ===== -/
section MADD
variable {G : Mem} {o : Nat} {c r m : Nat} {N : Nat → Nat → Int32} {P0 : Nat → Nat} {x : Nat → Nat → Int32} {y : Nat → Nat → Int64}
theorem MLs.cong {n : Nat} {N' : Nat → Nat → Int32} (hq : ∀ k, k < m → ∀ j, j < 7 → N k j = N' k j) (h : MLs x y o c n N P0 m) : MLs x y o c n N' P0 m := by
  refine ⟨fun i hi => ?_, fun i hi => ?_⟩
  · rw [← lyN_cong (N := N) (fun k hk => hq k (by omega))]; exact h.1 i hi
  · rw [← lyN_cong (N := N) (fun k hk => hq k (by omega))]; exact h.2 i hi
theorem MLs.mono {n k : Nat} (h : MLs x y o c n N P0 m) (hk : k ≤ m) : MLs x y o c n N P0 k := ⟨fun i hi => h.1 i (by omega), fun i hi => h.2 i (by omega)⟩
theorem MLs.same {n : Nat} {x' : Nat → Nat → Int32} {y' : Nat → Nat → Int64} (h : MLs x y o c n N P0 m) (h8 : x' (o + 8) = x (o + 8)) (h9 : x' (o + 9) = x (o + 9)) (h10 : x' (o + 10) = x (o + 10)) (h11 : x' (o + 11) = x (o + 11)) (h13 : y' (o + 13) = y (o + 13)) : MLs x' y' o c n N P0 m := by
  refine ⟨fun i hi => ⟨?_, fun p hp => ⟨?_, fun q hq => ?_⟩⟩, fun i hi => ⟨?_, fun e he => ?_⟩⟩
  · rw [h9]; exact (h.1 i hi).1
  · rw [h13]; exact ((h.1 i hi).2 p hp).1
  · rw [h8]; exact ((h.1 i hi).2 p hp).2 q hq
  · rw [h11]; exact (h.2 i hi).1
  · rw [h10]; exact (h.2 i hi).2 e he
/-- following note m leaves the state of m notes as it was -/
theorem MRep.fr (hA : AOK c r N P0 m) (hR : MRep x y o c r N P0 m) {x' : Nat → Nat → Int32} {y' : Nat → Nat → Int64} (hf : MFr o m x y x' y') : MRep x' y' o c r N P0 m := by
  obtain ⟨hs, W, hm, hok, hwn⟩ := hA
  obtain ⟨h1, h2, h3⟩ := hR
  refine ⟨h1.frame (hf.1 _ (by omega)), ⟨fun i hi => (h2.1 i hi).low (lyN_run W (hok.mono hi)).1.1 hi hf, fun i hi => (h2.2 i hi).low (lyN_egc W (szs36 hs) (hok.mono (show i + 1 ≤ m from hi))) hi hf⟩, fun i hi p hp => ?_⟩
  rw [hf.2.2.2.2.2.1 _ (by omega)]; exact h3 i hi p hp
end MADD
