/-! ===== how many cells beside, counted in bits ===== -/
/-- the cell beside: 0 up, 1 right, 2 down, 3 left -/
def nb (k w : Nat) : Option Nat := if w = 0 then (if 4 ≤ k then some (k - 4) else none) else if w = 1 then (if k % 4 ≠ 3 then some (k + 1) else none) else if w = 2 then (if k < 12 then some (k + 4) else none) else (if k % 4 ≠ 0 then some (k - 1) else none)
def nbT (p : Pl) (k w : Nat) : Option Nat := match nb k w with
  | some j => if thr p j = true then some j else none
  | none => none
def cW (p : Pl) (k : Nat) : Nat → Nat
  | 0 => 0
  | n + 1 => cW p k n + (if (nbT p k n).isSome = true then 1 else 0)
theorem cnt_C : ∀ W, W < 5 → ∀ R, R < 5 → ∀ k, k < 16 → z_I_bitCount (sI (fun j => bes (fun i => decide (i = k)) j && thr (W, R, (fun _ => false), (fun _ => false), 0) j)) = nI (cW (W, R, (fun _ => false), (fun _ => false), 0) k 4) := by decide +kernel
