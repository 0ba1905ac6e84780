/-! ===== the board's geometry, as mathematics ===== -/
def wxs (w : Nat) : Nat := [9, 7, 8, 8, 9, 7, 7, 9].getD w 8
def wys (w : Nat) : Nat := [8, 8, 9, 7, 9, 7, 9, 7].getD w 8
def rayF (c r w : Nat) : Nat → Nat → Nat → List Nat
  | 0, _, _ => []
  | n + 1, x, y => if 8 ≤ x + wxs w ∧ x + wxs w < c + 8 ∧ 8 ≤ y + wys w ∧ y + wys w < r + 8 then ((y + wys w - 8) * c + (x + wxs w - 8)) :: rayF c r w n (x + wxs w - 8) (y + wys w - 8) else []
/-- the squares outwards from t in the way w -/
def ray (c r t w : Nat) : List Nat := rayF c r w 6 (t % c) (t / c)
def adx (c k t : Nat) : Nat := (k % c - t % c) + (t % c - k % c)
def ady (c k t : Nat) : Nat := (k / c - t / c) + (t / c - k / c)
def btwG : Nat → List Nat → Option (List Nat)
  | _, [] => none
  | t, k :: l => if k = t then some [] else (btwG t l).map (k :: ·)
def btwW (c k t : Nat) : Nat → List Nat
  | 0 => []
  | w + 1 => match btwG t (ray c 6 k w) with
    | some l => l
    | none => btwW c k t w
/-- the squares between two on one line, from k on -/
def btw (c k t : Nat) : List Nat := btwW c k t 8
def pl (c q : Nat) : Nat := 18 + 8 * (q / c) + q % c
def onb (c r p : Nat) : Bool := decide (18 ≤ p) && (decide ((p - 18) % 8 < c) && decide ((p - 18) / 8 < r))
def sqp (c p : Nat) : Nat := (p - 18) / 8 * c + (p - 18) % 8
def wyd (w : Nat) : Int := [1, -1, 8, -8, 9, -9, 7, -7].getD w 0
def Jd (j : Nat) : Int := [10, -10, 6, -6, 17, -17, 15, -15].getD j 0
def szs (c r : Nat) : Prop := 3 ≤ c ∧ c < 7 ∧ 3 ≤ r ∧ r < 7
def allN : Nat → (Nat → Bool) → Bool
  | 0, _ => true
  | n + 1, f => allN n f && f n
def anyN : Nat → (Nat → Bool) → Bool
  | 0, _ => false
  | n + 1, f => anyN n f || f n
theorem allN_at {f : Nat → Bool} : ∀ {n : Nat}, allN n f = true → ∀ i, i < n → f i = true := by
  intro n
  induction n with
  | zero => intro _ i hi; omega
  | succ n ih =>
    intro h i hi
    have h : (allN n f && f n) = true := h
    rw [Bool.and_eq_true] at h
    by_cases e : i = n
    · rw [e]; exact h.2
    · exact ih h.1 i (by omega)
theorem anyN_at {f : Nat → Bool} : ∀ {n : Nat}, anyN n f = true → ∃ i, i < n ∧ f i = true := by
  intro n
  induction n with
  | zero => intro h; cases h
  | succ n ih =>
    intro h
    have h : (anyN n f || f n) = true := h
    rw [Bool.or_eq_true] at h
    rcases h with h | h
    · obtain ⟨i, hi, e⟩ := ih h
      exact ⟨i, by omega, e⟩
    · exact ⟨n, by omega, h⟩
theorem sz_at {f : Nat → Nat → Bool} (h : (allN 4 fun c => allN 4 fun r => f (c + 3) (r + 3)) = true) {c r : Nat} (c1 : c < 7) (c2 : 3 ≤ c) (r1 : r < 7) (r2 : 3 ≤ r) : f c r = true := by
  have := allN_at (allN_at h (c - 3) (by omega)) (r - 3) (by omega)
  rw [show c - 3 + 3 = c by omega, show r - 3 + 3 = r by omega] at this
  exact this
theorem imp_at {a b : Bool} (h : (!a || b) = true) (ha : a = true) : b = true := by
  rw [ha] at h; exact h
def onLn (c k t : Nat) : Bool := decide (adx c k t = 0) || decide (ady c k t = 0)
theorem onLn_iff {c k t : Nat} : onLn c k t = true ↔ adx c k t = 0 ∨ ady c k t = 0 := by unfold onLn; simp
def gcA (c r t k : Nat) : Bool := decide (k = t) || ((!onLn c k t || anyN 4 fun w => anyN 6 fun i => decide ((ray c r t w)[i]? = some k) && decide ((ray c r t w).take i = (btw c k t).reverse)) &&
  ((!decide (adx c k t = ady c k t) || anyN 4 fun w => anyN 6 fun i => decide ((ray c r t (w + 4))[i]? = some k) && decide ((ray c r t (w + 4)).take i = (btw c k t).reverse)) &&
  (!(decide (adx c k t ≤ 1) && decide (ady c k t ≤ 1)) || anyN 8 fun w => decide ((ray c r t w)[0]? = some k))))
set_option maxRecDepth 100000 in
theorem gcA_all : (allN 4 fun c => allN 4 fun r => (fun c r => allN (c * r) fun t => allN (c * r) fun k => gcA c r t k) (c + 3) (r + 3)) = true := by decide +kernel
theorem geoA : ∀ c, c < 7 → 3 ≤ c → ∀ r, r < 7 → 3 ≤ r → ∀ t, t < c * r → ∀ k, k < c * r → k ≠ t →
    ((adx c k t = 0 ∨ ady c k t = 0) → ∃ w, w < 4 ∧ ∃ i, i < 6 ∧ (ray c r t w)[i]? = some k ∧ (ray c r t w).take i = (btw c k t).reverse) ∧
    (adx c k t = ady c k t → ∃ w, w < 4 ∧ ∃ i, i < 6 ∧ (ray c r t (w + 4))[i]? = some k ∧ (ray c r t (w + 4)).take i = (btw c k t).reverse) ∧
    ((adx c k t ≤ 1 ∧ ady c k t ≤ 1) → ∃ w, w < 8 ∧ (ray c r t w)[0]? = some k) := by
  intro c c1 c2 r r1 r2 t ht k hk hne
  have h : gcA c r t k = true := allN_at (allN_at (sz_at (f := fun c r => allN (c * r) fun t => allN (c * r) fun k => gcA c r t k) gcA_all c1 c2 r1 r2) t ht) k hk
  unfold gcA at h
  rw [Bool.or_eq_true] at h
  rcases h with h | h
  · exact absurd (of_decide_eq_true h) hne
  rw [Bool.and_eq_true, Bool.and_eq_true] at h
  obtain ⟨h1, h2, h3⟩ := h
  refine ⟨fun q => ?_, fun q => ?_, fun q => ?_⟩
  · obtain ⟨w, hw, e⟩ := anyN_at (imp_at h1 (onLn_iff.mpr q))
    obtain ⟨i, hi, e⟩ := anyN_at e
    rw [Bool.and_eq_true] at e
    exact ⟨w, hw, i, hi, of_decide_eq_true e.1, of_decide_eq_true e.2⟩
  · obtain ⟨w, hw, e⟩ := anyN_at (imp_at h2 (decide_eq_true q))
    obtain ⟨i, hi, e⟩ := anyN_at e
    rw [Bool.and_eq_true] at e
    exact ⟨w, hw, i, hi, of_decide_eq_true e.1, of_decide_eq_true e.2⟩
  · obtain ⟨w, hw, e⟩ := anyN_at (imp_at h3 (by rw [Bool.and_eq_true]; exact ⟨decide_eq_true q.1, decide_eq_true q.2⟩))
    exact ⟨w, hw, of_decide_eq_true e⟩
def gcB (c r t w i : Nat) (q : Nat) : Bool := decide (q < c * r) && (!decide (q = t) && ((!decide (w < 4) || onLn c q t) && ((!decide (4 ≤ w) || decide (adx c q t = ady c q t)) && (decide ((ray c r t w).take i = (btw c q t).reverse) && ((!decide (i = 0) || (decide (adx c q t ≤ 1) && decide (ady c q t ≤ 1))) && !decide (adx c q t + ady c q t = 0))))))
set_option maxRecDepth 100000 in
theorem gcB_all : (allN 4 fun c => allN 4 fun r => (fun c r => allN (c * r) fun t => allN 8 fun w => decide ((ray c r t w).length < 6) && allN (ray c r t w).length fun i => gcB c r t w i ((ray c r t w).getD i 0)) (c + 3) (r + 3)) = true := by decide +kernel
theorem geoB : ∀ c, c < 7 → 3 ≤ c → ∀ r, r < 7 → 3 ≤ r → ∀ t, t < c * r → ∀ w, w < 8 → (ray c r t w).length < 6 ∧ ∀ i, i < (ray c r t w).length →
    (ray c r t w).getD i 0 < c * r ∧ (ray c r t w).getD i 0 ≠ t ∧ (w < 4 → adx c ((ray c r t w).getD i 0) t = 0 ∨ ady c ((ray c r t w).getD i 0) t = 0) ∧ (4 ≤ w → adx c ((ray c r t w).getD i 0) t = ady c ((ray c r t w).getD i 0) t) ∧
    (ray c r t w).take i = (btw c ((ray c r t w).getD i 0) t).reverse ∧ (i = 0 → adx c ((ray c r t w).getD i 0) t ≤ 1 ∧ ady c ((ray c r t w).getD i 0) t ≤ 1) ∧ ¬ (adx c ((ray c r t w).getD i 0) t + ady c ((ray c r t w).getD i 0) t = 0) := by
  intro c c1 c2 r r1 r2 t ht w hw
  have h := allN_at (allN_at (sz_at (f := fun c r => allN (c * r) fun t => allN 8 fun w => decide ((ray c r t w).length < 6) && allN (ray c r t w).length fun i => gcB c r t w i ((ray c r t w).getD i 0)) gcB_all c1 c2 r1 r2) t ht) w hw
  rw [Bool.and_eq_true] at h
  refine ⟨of_decide_eq_true h.1, fun i hi => ?_⟩
  have h := allN_at h.2 i hi
  generalize (ray c r t w).getD i 0 = q at h ⊢
  unfold gcB at h
  simp only [Bool.and_eq_true, Bool.or_eq_true, Bool.not_eq_true', decide_eq_true_eq, decide_eq_false_iff_not, onLn_iff] at h
  obtain ⟨h1, h2, h3, h4, h5, h6, h7⟩ := h
  exact ⟨h1, h2, fun z => h3.resolve_left (fun n => n z), fun z => h4.resolve_left (fun n => n z), h5, fun z => h6.resolve_left (fun n => n z), h7⟩
def gcC (c r f t : Nat) : Bool := decide (f = t) || ((!onLn c f t || anyN 4 fun w => anyN 5 fun i => decide ((ray c r f w)[i]? = some t) && decide ((ray c r f w).take i = btw c f t)) &&
  ((!decide (adx c f t = ady c f t) || anyN 4 fun w => anyN 5 fun i => decide ((ray c r f (w + 4))[i]? = some t) && decide ((ray c r f (w + 4)).take i = btw c f t)) &&
  (!(decide (adx c f t ≤ 1) && decide (ady c f t ≤ 1)) || anyN 8 fun w => decide ((ray c r f w)[0]? = some t))))
set_option maxRecDepth 100000 in
theorem gcC_all : (allN 4 fun c => allN 4 fun r => (fun c r => allN (c * r) fun f => allN (c * r) fun t => gcC c r f t) (c + 3) (r + 3)) = true := by decide +kernel
theorem geoC : ∀ c, c < 7 → 3 ≤ c → ∀ r, r < 7 → 3 ≤ r → ∀ f, f < c * r → ∀ t, t < c * r → f ≠ t →
    ((adx c f t = 0 ∨ ady c f t = 0) → ∃ w, w < 4 ∧ ∃ i, i < 5 ∧ (ray c r f w)[i]? = some t ∧ (ray c r f w).take i = btw c f t) ∧
    (adx c f t = ady c f t → ∃ w, w < 4 ∧ ∃ i, i < 5 ∧ (ray c r f (w + 4))[i]? = some t ∧ (ray c r f (w + 4)).take i = btw c f t) ∧
    ((adx c f t ≤ 1 ∧ ady c f t ≤ 1) → ∃ w, w < 8 ∧ (ray c r f w)[0]? = some t) := by
  intro c c1 c2 r r1 r2 t ht k hk hne
  have h : gcC c r t k = true := allN_at (allN_at (sz_at (f := fun c r => allN (c * r) fun t => allN (c * r) fun k => gcC c r t k) gcC_all c1 c2 r1 r2) t ht) k hk
  unfold gcC at h
  rw [Bool.or_eq_true] at h
  rcases h with h | h
  · exact absurd (of_decide_eq_true h) hne
  rw [Bool.and_eq_true, Bool.and_eq_true] at h
  obtain ⟨h1, h2, h3⟩ := h
  refine ⟨fun q => ?_, fun q => ?_, fun q => ?_⟩
  · obtain ⟨w, hw, e⟩ := anyN_at (imp_at h1 (onLn_iff.mpr q))
    obtain ⟨i, hi, e⟩ := anyN_at e
    rw [Bool.and_eq_true] at e
    exact ⟨w, hw, i, hi, of_decide_eq_true e.1, of_decide_eq_true e.2⟩
  · obtain ⟨w, hw, e⟩ := anyN_at (imp_at h2 (decide_eq_true q))
    obtain ⟨i, hi, e⟩ := anyN_at e
    rw [Bool.and_eq_true] at e
    exact ⟨w, hw, i, hi, of_decide_eq_true e.1, of_decide_eq_true e.2⟩
  · obtain ⟨w, hw, e⟩ := anyN_at (imp_at h3 (by rw [Bool.and_eq_true]; exact ⟨decide_eq_true q.1, decide_eq_true q.2⟩))
    exact ⟨w, hw, of_decide_eq_true e⟩
def gcD (c r f w i : Nat) (q : Nat) : Bool := decide ((ray c r f w).take i = btw c f q) && ((!decide (w < 4) || onLn c f q) && ((!decide (4 ≤ w) || decide (adx c f q = ady c f q)) && ((!decide (i = 0) || (decide (adx c f q ≤ 1) && decide (ady c f q ≤ 1))) && !decide (adx c f q + ady c f q = 0))))
set_option maxRecDepth 100000 in
theorem gcD_all : (allN 4 fun c => allN 4 fun r => (fun c r => allN (c * r) fun t => allN 8 fun w => allN (ray c r t w).length fun i => gcD c r t w i ((ray c r t w).getD i 0)) (c + 3) (r + 3)) = true := by decide +kernel
theorem geoD : ∀ c, c < 7 → 3 ≤ c → ∀ r, r < 7 → 3 ≤ r → ∀ f, f < c * r → ∀ w, w < 8 → ∀ i, i < (ray c r f w).length →
    (ray c r f w).take i = btw c f ((ray c r f w).getD i 0) ∧ (w < 4 → adx c f ((ray c r f w).getD i 0) = 0 ∨ ady c f ((ray c r f w).getD i 0) = 0) ∧ (4 ≤ w → adx c f ((ray c r f w).getD i 0) = ady c f ((ray c r f w).getD i 0)) ∧ (i = 0 → adx c f ((ray c r f w).getD i 0) ≤ 1 ∧ ady c f ((ray c r f w).getD i 0) ≤ 1) ∧ ¬ (adx c f ((ray c r f w).getD i 0) + ady c f ((ray c r f w).getD i 0) = 0) := by
  intro c c1 c2 r r1 r2 t ht w hw i hi
  have h := allN_at (allN_at (allN_at (sz_at (f := fun c r => allN (c * r) fun t => allN 8 fun w => allN (ray c r t w).length fun i => gcD c r t w i ((ray c r t w).getD i 0)) gcD_all c1 c2 r1 r2) t ht) w hw) i hi
  generalize (ray c r t w).getD i 0 = q at h ⊢
  unfold gcD at h
  simp only [Bool.and_eq_true, Bool.or_eq_true, Bool.not_eq_true', decide_eq_true_eq, decide_eq_false_iff_not, onLn_iff] at h
  obtain ⟨h1, h3, h4, h6, h7⟩ := h
  exact ⟨h1, fun z => h3.resolve_left (fun n => n z), fun z => h4.resolve_left (fun n => n z), fun z => h6.resolve_left (fun n => n z), h7⟩
def gcP (c r t : Nat) : Bool := decide (pl c t < 64) && (decide (18 ≤ pl c t) && (onb c r (pl c t) && (decide (sqp c (pl c t) = t) && allN 8 fun w => (allN (ray c r t w).length fun i => decide ((pl c ((ray c r t w).getD i 0) : Int) = pl c t + (i + 1) * wyd w)) &&
    (decide (0 ≤ (pl c t : Int) + ((ray c r t w).length + 1) * wyd w) && (decide ((pl c t : Int) + ((ray c r t w).length + 1) * wyd w < 88) && !onb c r ((pl c t : Int) + ((ray c r t w).length + 1) * wyd w).toNat)))))
set_option maxRecDepth 100000 in
theorem gcP_all : (allN 4 fun c => allN 4 fun r => (fun c r => allN (c * r) fun t => gcP c r t) (c + 3) (r + 3)) = true := by decide +kernel
theorem geoP : ∀ c, c < 7 → 3 ≤ c → ∀ r, r < 7 → 3 ≤ r → ∀ t, t < c * r → pl c t < 64 ∧ 18 ≤ pl c t ∧ onb c r (pl c t) = true ∧ sqp c (pl c t) = t ∧ ∀ w, w < 8 → (∀ i, i < (ray c r t w).length → (pl c ((ray c r t w).getD i 0) : Int) = pl c t + (i + 1) * wyd w) ∧
    0 ≤ (pl c t : Int) + ((ray c r t w).length + 1) * wyd w ∧ (pl c t : Int) + ((ray c r t w).length + 1) * wyd w < 88 ∧ onb c r ((pl c t : Int) + ((ray c r t w).length + 1) * wyd w).toNat = false := by
  intro c c1 c2 r r1 r2 t ht
  have h := allN_at (sz_at (f := fun c r => allN (c * r) fun t => gcP c r t) gcP_all c1 c2 r1 r2) t ht
  unfold gcP at h
  simp only [Bool.and_eq_true, decide_eq_true_eq] at h
  obtain ⟨h1, h2, h3, h4, h5⟩ := h
  refine ⟨h1, h2, h3, h4, fun w hw => ?_⟩
  have h := allN_at h5 w hw
  simp only [Bool.and_eq_true, decide_eq_true_eq, Bool.not_eq_true'] at h
  exact ⟨fun i hi => of_decide_eq_true (allN_at h.1 i hi), h.2.1, h.2.2.1, h.2.2.2⟩
def gcJ (c r t : Nat) : Bool := (allN 8 fun j => decide (0 ≤ (pl c t : Int) + Jd j) && (decide ((pl c t : Int) + Jd j < 88) && (!onb c r ((pl c t : Int) + Jd j).toNat || (decide (sqp c ((pl c t : Int) + Jd j).toNat < c * r) && (decide (adx c (sqp c ((pl c t : Int) + Jd j).toNat) t * ady c (sqp c ((pl c t : Int) + Jd j).toNat) t = 2) && decide (pl c (sqp c ((pl c t : Int) + Jd j).toNat) = ((pl c t : Int) + Jd j).toNat)))))) &&
  allN (c * r) fun k => !decide (adx c k t * ady c k t = 2) || anyN 8 fun j => decide ((pl c k : Int) = pl c t + Jd j)
set_option maxRecDepth 100000 in
theorem gcJ_all : (allN 4 fun c => allN 4 fun r => (fun c r => allN (c * r) fun t => gcJ c r t) (c + 3) (r + 3)) = true := by decide +kernel
theorem geoJ : ∀ c, c < 7 → 3 ≤ c → ∀ r, r < 7 → 3 ≤ r → ∀ t, t < c * r → (∀ j, j < 8 → 0 ≤ (pl c t : Int) + Jd j ∧ (pl c t : Int) + Jd j < 88 ∧ (onb c r ((pl c t : Int) + Jd j).toNat = true → sqp c ((pl c t : Int) + Jd j).toNat < c * r ∧ adx c (sqp c ((pl c t : Int) + Jd j).toNat) t * ady c (sqp c ((pl c t : Int) + Jd j).toNat) t = 2 ∧ pl c (sqp c ((pl c t : Int) + Jd j).toNat) = ((pl c t : Int) + Jd j).toNat)) ∧
    ∀ k, k < c * r → adx c k t * ady c k t = 2 → ∃ j, j < 8 ∧ (pl c k : Int) = pl c t + Jd j := by
  intro c c1 c2 r r1 r2 t ht
  have h := allN_at (sz_at (f := fun c r => allN (c * r) fun t => gcJ c r t) gcJ_all c1 c2 r1 r2) t ht
  unfold gcJ at h
  rw [Bool.and_eq_true] at h
  refine ⟨fun j hj => ?_, fun k hk h2 => ?_⟩
  · have h := allN_at h.1 j hj
    simp only [Bool.and_eq_true, Bool.or_eq_true, decide_eq_true_eq, Bool.not_eq_true'] at h
    exact ⟨h.1, h.2.1, fun z => h.2.2.resolve_left (fun n => by rw [n] at z; cases z)⟩
  · obtain ⟨j, hj, e⟩ := anyN_at (imp_at (allN_at h.2 k hk) (decide_eq_true h2))
    exact ⟨j, hj, of_decide_eq_true e⟩
theorem adx_sym (c k t : Nat) : adx c k t = adx c t k := by unfold adx; omega
theorem ady_sym (c k t : Nat) : ady c k t = ady c t k := by unfold ady; omega
/-! ===== positions, ranges, attacks, moves ===== -/
def clr (P : Nat → Nat) (l : List Nat) : Bool := l.all fun k => P k == 0
def rch (c : Nat) (P : Nat → Nat) (k t : Nat) : Bool :=
  if adx c k t + ady c k t = 0 then false
  else if (P k - 1) % 5 = 0 then decide (adx c k t ≤ 1) && decide (ady c k t ≤ 1)
  else if (P k - 1) % 5 = 4 then decide (adx c k t * ady c k t = 2)
  else if (P k - 1) % 5 = 2 then decide (adx c k t = 0 ∨ ady c k t = 0) && clr P (btw c k t)
  else if (P k - 1) % 5 = 3 then decide (adx c k t = ady c k t) && clr P (btw c k t)
  else decide ((adx c k t = 0 ∨ ady c k t = 0) ∨ adx c k t = ady c k t) && clr P (btw c k t)
def own (m col : Nat) : Bool := decide (0 < m) && decide ((m - 1) / 5 = col)
def att (c n : Nat) (P : Nat → Nat) (t col : Nat) : Bool := (List.range n).any fun k => own (P k) col && rch c P k t
def upN (P : Nat → Nat) (k v : Nat) : Nat → Nat := fun j => if j = k then v else P j
def mvd (P : Nat → Nat) (f t : Nat) : Nat → Nat := upN (upN P t (P f)) f 0
/-- the first square that holds m; n if none does -/
def fndF (P : Nat → Nat) (m : Nat) : Nat → Nat → Nat
  | 0, i => i
  | d + 1, i => if P i = m then i else fndF P m d (i + 1)
def fnd (n : Nat) (P : Nat → Nat) (m : Nat) : Nat := fndF P m n 0
def kgc (col : Nat) : Nat := 1 + 5 * col
def lgl (c n : Nat) (P : Nat → Nat) (col f t : Nat) : Bool :=
  own (P f) col && (rch c P f t && ((P t == 0 || (!own (P t) col && !decide ((P t - 1) % 5 = 0))) && !att c n (mvd P f t) (fnd n (mvd P f t) (kgc col)) (1 - col)))
/-- a number stated, or left open (-1) -/
def opn (s : Int32) (v : Nat) : Bool := decide (s = -1) || decide (s = Int32.ofNat v)
def agr (c n : Nat) (N : Nat → Int32) (P : Nat → Nat) (col f t : Nat) : Bool :=
  opn (N 0) ((P f - 1) % 5) && (opn (N 1) (f % c) && (opn (N 2) (f / c) && (opn (N 3) (t % c) && (opn (N 4) (t / c) && (!(decide (N 5 = 1) && P t == 0) && (decide (N 6 = 0) || att c n (mvd P f t) (fnd n (mvd P f t) (kgc (1 - col))) col))))))
def enc (m : Nat) : Nat := if m < 6 then m else m + 3
theorem enc_inj : ∀ a, a < 13 → ∀ b, b < 13 → enc a = enc b → a = b := by decide
theorem rch_cong {c : Nat} {P Q : Nat → Nat} {k t : Nat} (h : ∀ j, P j = Q j) : rch c P k t = rch c Q k t := by
  have : P = Q := funext h
  rw [this]
theorem clr_rev (P : Nat → Nat) (l : List Nat) : clr P l.reverse = clr P l := by unfold clr; rw [List.all_reverse]
theorem own_iff {m col : Nat} : own m col = true ↔ 0 < m ∧ (m - 1) / 5 = col := by unfold own; simp
theorem att_iff {c n : Nat} {P : Nat → Nat} {t col : Nat} : att c n P t col = true ↔ ∃ k, k < n ∧ (0 < P k ∧ (P k - 1) / 5 = col) ∧ rch c P k t = true := by
  unfold att
  rw [List.any_eq_true]
  constructor
  · rintro ⟨k, h1, h2⟩
    rw [Bool.and_eq_true, own_iff] at h2
    exact ⟨k, List.mem_range.mp h1, h2.1, h2.2⟩
  · rintro ⟨k, h1, h2, h3⟩
    exact ⟨k, List.mem_range.mpr h1, by rw [Bool.and_eq_true, own_iff]; exact ⟨h2, h3⟩⟩
/-- what is met first along a list of squares; 12 is the border -/
def hitL (P : Nat → Nat) : List Nat → Nat
  | [] => 12
  | k :: l => if P k = 0 then hitL P l else P k
theorem hit_of {P : Nat → Nat} : ∀ (l : List Nat) (i k : Nat), l[i]? = some k → clr P (l.take i) = true → P k ≠ 0 → hitL P l = P k := by
  intro l
  induction l with
  | nil => intro i k h; simp at h
  | cons a l ih =>
    intro i k h hc hk
    cases i with
    | zero =>
      have : a = k := by simpa using h
      subst this
      unfold hitL
      rw [if_neg hk]
    | succ i =>
      have h2 : P a = 0 ∧ clr P (l.take i) = true := by
        unfold clr at hc ⊢
        rw [List.take_succ_cons, List.all_cons, Bool.and_eq_true] at hc
        exact ⟨by simpa using hc.1, hc.2⟩
      unfold hitL
      rw [if_pos h2.1]
      exact ih i k (by simpa using h) h2.2 hk
theorem hit_at {P : Nat → Nat} : ∀ (l : List Nat), hitL P l = 12 ∧ clr P l = true ∨ ∃ i k, i < l.length ∧ l[i]? = some k ∧ clr P (l.take i) = true ∧ P k ≠ 0 ∧ hitL P l = P k := by
  intro l
  induction l with
  | nil => exact Or.inl ⟨rfl, rfl⟩
  | cons a l ih =>
    by_cases ha : P a = 0
    · have e : hitL P (a :: l) = hitL P l := by
        show (if P a = 0 then hitL P l else P a) = _
        rw [if_pos ha]
      rcases ih with ⟨h1, h2⟩ | ⟨i, k, h0, h1, h2, h3, h4⟩
      · refine Or.inl ⟨e.trans h1, ?_⟩
        unfold clr at h2 ⊢
        rw [List.all_cons, h2, ha]; rfl
      · refine Or.inr ⟨i + 1, k, by simp; omega, by simpa using h1, ?_, h3, e.trans h4⟩
        unfold clr at h2 ⊢
        rw [List.take_succ_cons, List.all_cons, h2, ha]; rfl
    · refine Or.inr ⟨0, a, by simp, rfl, rfl, ha, ?_⟩
      show (if P a = 0 then hitL P l else P a) = _
      rw [if_neg ha]
/-- an attack, seen outwards from the square -/
def attW (c r : Nat) (P : Nat → Nat) (t col : Nat) : Prop :=
  (∃ w, w < 8 ∧ ((∃ k, (ray c r t w)[0]? = some k ∧ P k = kgc col) ∨ hitL P (ray c r t w) = kgc col + 1 ∨ (w < 4 ∧ hitL P (ray c r t w) = kgc col + 2) ∨ (4 ≤ w ∧ hitL P (ray c r t w) = kgc col + 3))) ∨
  ∃ k, k < c * r ∧ adx c k t * ady c k t = 2 ∧ P k = kgc col + 4
theorem geo_ne {c r t k : Nat} (h : adx c k t + ady c k t ≠ 0) : k ≠ t := by
  rintro rfl
  unfold adx ady at h
  omega
theorem att_attW {c r : Nat} (hs : szs c r) {P : Nat → Nat} (hP : ∀ k, P k < 11) {t col : Nat} (ht : t < c * r) (hcol : col < 2) : att c (c * r) P t col = true ↔ attW c r P t col := by
  obtain ⟨s1, s2, s3, s4⟩ := hs
  have gB := geoB c s2 s1 r s4 s3 t ht
  constructor
  · intro h
    obtain ⟨k, hk, ⟨hp, hc⟩, hr⟩ := att_iff.mp h
    have hpk := hP k
    unfold rch at hr
    by_cases h0 : adx c k t + ady c k t = 0
    · rw [if_pos h0] at hr; cases hr
    rw [if_neg h0] at hr
    have hz : P k ≠ 0 := by omega
    by_cases k0 : (P k - 1) % 5 = 0
    · rw [if_pos k0] at hr
      obtain ⟨w, hw, e⟩ := (geoA c s2 s1 r s4 s3 t ht k hk (geo_ne (r := r) h0)).2.2 (by simpa using hr)
      exact Or.inl ⟨w, hw, Or.inl ⟨k, e, by unfold kgc; omega⟩⟩
    rw [if_neg k0] at hr
    by_cases k4 : (P k - 1) % 5 = 4
    · rw [if_pos k4] at hr
      exact Or.inr ⟨k, hk, by simpa using hr, by unfold kgc; omega⟩
    rw [if_neg k4] at hr
    by_cases k2 : (P k - 1) % 5 = 2
    · rw [if_pos k2] at hr
      rw [Bool.and_eq_true, decide_eq_true_iff] at hr
      obtain ⟨w, hw, i, hi, e1, e2⟩ := (geoA c s2 s1 r s4 s3 t ht k hk (geo_ne (r := r) h0)).1 hr.1
      have := hit_of (P := P) _ i k e1 (by rw [e2, clr_rev]; exact hr.2) hz
      exact Or.inl ⟨w, by omega, Or.inr (Or.inr (Or.inl ⟨hw, by rw [this]; unfold kgc; omega⟩))⟩
    rw [if_neg k2] at hr
    by_cases k3 : (P k - 1) % 5 = 3
    · rw [if_pos k3] at hr
      rw [Bool.and_eq_true, decide_eq_true_iff] at hr
      obtain ⟨w, hw, i, hi, e1, e2⟩ := (geoA c s2 s1 r s4 s3 t ht k hk (geo_ne (r := r) h0)).2.1 hr.1
      have := hit_of (P := P) _ i k e1 (by rw [e2, clr_rev]; exact hr.2) hz
      exact Or.inl ⟨w + 4, by omega, Or.inr (Or.inr (Or.inr ⟨by omega, by rw [this]; unfold kgc; omega⟩))⟩
    rw [if_neg k3] at hr
    rw [Bool.and_eq_true, decide_eq_true_iff] at hr
    rcases hr.1 with h1 | h1
    · obtain ⟨w, hw, i, hi, e1, e2⟩ := (geoA c s2 s1 r s4 s3 t ht k hk (geo_ne (r := r) h0)).1 h1
      have := hit_of (P := P) _ i k e1 (by rw [e2, clr_rev]; exact hr.2) hz
      exact Or.inl ⟨w, by omega, Or.inr (Or.inl (by rw [this]; unfold kgc; omega))⟩
    · obtain ⟨w, hw, i, hi, e1, e2⟩ := (geoA c s2 s1 r s4 s3 t ht k hk (geo_ne (r := r) h0)).2.1 h1
      have := hit_of (P := P) _ i k e1 (by rw [e2, clr_rev]; exact hr.2) hz
      exact Or.inl ⟨w + 4, by omega, Or.inr (Or.inl (by rw [this]; unfold kgc; omega))⟩
  · intro h
    rw [att_iff]
    have line : ∀ w i k, w < 8 → i < (ray c r t w).length → (ray c r t w)[i]? = some k → clr P ((ray c r t w).take i) = true → (P k = kgc col + 1 ∨ (w < 4 ∧ P k = kgc col + 2) ∨ (4 ≤ w ∧ P k = kgc col + 3)) → ∃ k, k < c * r ∧ (0 < P k ∧ (P k - 1) / 5 = col) ∧ rch c P k t = true := by
      intro w i k hw hi e1 e2 e3
      have ek : (ray c r t w).getD i 0 = k := by rw [List.getD_eq_getElem?_getD, e1]; rfl
      obtain ⟨b1, b2, b3, b4, b5, b6, b7⟩ := (gB w hw).2 i hi
      rw [ek] at b1 b2 b3 b4 b5 b6 b7
      have e4 : clr P (btw c k t) = true := by rw [← clr_rev, ← b5]; exact e2
      refine ⟨k, b1, ⟨by unfold kgc at e3; omega, by unfold kgc at e3; omega⟩, ?_⟩
      unfold rch
      rw [if_neg b7, if_neg (by unfold kgc at e3; omega), if_neg (by unfold kgc at e3; omega)]
      rcases e3 with e3 | ⟨hw4, e3⟩ | ⟨hw4, e3⟩
      · rw [if_neg (by unfold kgc at e3; omega), if_neg (by unfold kgc at e3; omega), e4, Bool.and_true, decide_eq_true_iff]
        by_cases hw4 : w < 4
        · exact Or.inl (b3 hw4)
        · exact Or.inr (b4 (by omega))
      · rw [if_pos (by unfold kgc at e3; omega), e4, Bool.and_true, decide_eq_true_iff]
        exact b3 hw4
      · rw [if_neg (by unfold kgc at e3; omega), if_pos (by unfold kgc at e3; omega), e4, Bool.and_true, decide_eq_true_iff]
        exact b4 hw4
    have hk12 : ∀ w, hitL P (ray c r t w) ≠ 12 → ∃ i k, i < (ray c r t w).length ∧ (ray c r t w)[i]? = some k ∧ clr P ((ray c r t w).take i) = true ∧ hitL P (ray c r t w) = P k := by
      intro w h12
      rcases hit_at (P := P) (ray c r t w) with ⟨h1, -⟩ | ⟨i, k, h0, h1, h2, h3, h4⟩
      · exact absurd h1 h12
      · exact ⟨i, k, h0, h1, h2, h4⟩
    rcases h with ⟨w, hw, ⟨k, e1, e2⟩ | e | ⟨hw4, e⟩ | ⟨hw4, e⟩⟩ | ⟨k, hk, e1, e2⟩
    · have hl : 0 < (ray c r t w).length := (List.getElem?_eq_some_iff.mp e1).1
      have ek : (ray c r t w).getD 0 0 = k := by rw [List.getD_eq_getElem?_getD, e1]; rfl
      obtain ⟨b1, b2, b3, b4, b5, b6, b7⟩ := (gB w hw).2 0 hl
      rw [ek] at b1 b2 b6 b7
      refine ⟨k, b1, ⟨by unfold kgc at e2; omega, by unfold kgc at e2; omega⟩, ?_⟩
      unfold rch
      rw [if_neg b7, if_pos (by unfold kgc at e2; omega)]
      have := b6 rfl
      simp [this.1, this.2]
    · obtain ⟨i, k, h0, h1, h2, h4⟩ := hk12 w (by rw [e]; unfold kgc; omega)
      exact line w i k hw h0 h1 h2 (Or.inl (by rw [← h4]; exact e))
    · obtain ⟨i, k, h0, h1, h2, h4⟩ := hk12 w (by rw [e]; unfold kgc; omega)
      exact line w i k hw h0 h1 h2 (Or.inr (Or.inl ⟨hw4, by rw [← h4]; exact e⟩))
    · obtain ⟨i, k, h0, h1, h2, h4⟩ := hk12 w (by rw [e]; unfold kgc; omega)
      exact line w i k hw h0 h1 h2 (Or.inr (Or.inr ⟨hw4, by rw [← h4]; exact e⟩))
    · refine ⟨k, hk, ⟨by unfold kgc at e2; omega, by unfold kgc at e2; omega⟩, ?_⟩
      have hne : ¬ adx c k t + ady c k t = 0 := by
        intro h
        have h1 : adx c k t = 0 := by omega
        rw [h1] at e1; omega
      unfold rch
      rw [if_neg hne, if_neg (by unfold kgc at e2; omega), if_pos (by unfold kgc at e2; omega), decide_eq_true_iff]
      exact e1
