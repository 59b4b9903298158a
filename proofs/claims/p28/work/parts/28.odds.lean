/-! ===== odds: the sums of both in numbers ===== -/
def chN (n : Nat) : Nat → Nat
  | 0 => 1
  | i + 1 => chN n i * (n - i) / (i + 1)
def sC (x n : Nat) : Nat → Nat → Nat → Nat
  | 0, _, acc => acc
  | f + 1, w, acc => sC x n f (w + 1) (acc + chN n w * (10 - x) ^ w * x ^ (n - w))
def pp (s : Nat) : Nat → Nat
  | 0 => 0
  | i + 1 => pp s i + (if s.testBit i = true then 1 else 0)
def prd (x k s : Nat) : Nat → Nat
  | 0 => if pp s 16 < k then 0 else 1
  | i + 1 => prd x k s i * (if s.testBit i = true then 10 - x else x)
def sM (x n k : Nat) : Nat → Nat → Nat → Nat
  | 0, _, acc => acc
  | f + 1, s, acc => sM x n k f (s + 1) (acc + prd x k s n)
def gN : Nat → Nat → Nat → Nat
  | 0, a, _ => a
  | f + 1, a, b => if b = 0 then a else gN f b (a % b)
def fiN : Nat → Nat → Nat → Bool
  | 0, _, b => Nat.beq b 0
  | f + 1, a, b => if b = 0 then true else fiN f b (a % b)
def oddOk (x n k : Nat) : Bool :=
  let u := sC x n (n + 1 - k) k 0
  Nat.beq u (sM x n k (2 ^ n) 0 0) && (Nat.ble u 1000000 && (fiN 40 u (10 ^ n) && (Nat.ble 1 (gN 64 (10 ^ n) u) && (Nat.beq (gN 64 (10 ^ n) u) (gN 40 u (10 ^ n)) && Nat.ble (gN 40 u (10 ^ n)) 1000000))))
theorem odd_all : ∀ x, x < 11 → ∀ n, n < 7 → ∀ k, k < 7 → oddOk x n k = true := by decide +kernel
