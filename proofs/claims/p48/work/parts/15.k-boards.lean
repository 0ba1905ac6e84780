/-! ===== the boards that are drawn ===== -/
def sB (a : Nat) : List Nat := (strByt.getD a []).map fun v => v.toInt.toNat
def ad (B : List Nat) (c k x y : Nat) : List Nat := ((((((B ++ sB c) ++ sB k) ++ [32]) ++ [48 + x]) ++ [32]) ++ [48 + y]) ++ [59]
def txt (c0 k0 c1 k1 c2 k2 : Nat) : List Nat := ad (ad (ad (sB 34) c0 k0 1 0) c1 k1 2 0) c2 k2 1 2
/-- the text is read to its end: five pieces on four by four squares -/
def bdok (B : List Nat) : Bool := match pSetup (fun i => B.getD i 0) B.length (spN (fun i => B.getD i 0) B.length 0) with
  | .inl _ => false
  | .inr q => decide (npc (q.1 * q.2.1) q.2.2.1 = 5) && (decide (srt (fun i => B.getD i 0) B.length q.2.2.2 = 0) && (decide (57 ≤ B.length) && decide (B.length < 114)))
/-- the list first, then what is asked of it -/
def frc {α : Type} : List Nat → (List Nat → α) → α
  | [], k => k []
  | a :: l, k => match a with
    | 0 => frc l fun m => k (0 :: m)
    | n + 1 => frc l fun m => k ((n + 1) :: m)
theorem frc_ok {α : Type} : ∀ (l : List Nat) (k : List Nat → α), frc l k = k l := by
  intro l
  induction l with
  | nil => intro k; rfl
  | cons a l ih =>
    intro k
    cases a with
    | zero => exact ih _
    | succ n => exact ih _
