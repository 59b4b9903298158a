/-! ===== the library's way of counting bits, on 16 bits, in numbers ===== -/
def bc1 (n : Nat) : Nat := n - ((n >>> 1) &&& 1431655765)
def bc2 (x : Nat) : Nat := (x &&& 858993459) + ((x >>> 2) &&& 858993459)
def bc3 (x : Nat) : Nat := (x + (x >>> 4)) &&& 252645135
def bc4 (x : Nat) : Nat := x + (x >>> 8)
def bc5 (x : Nat) : Nat := x + (x >>> 16)
def bcN (n : Nat) : Nat := bc5 (bc4 (bc3 (bc2 (bc1 n)))) &&& 63
def p4 (a : Nat) : Nat := ([0, 1, 1, 2, 1, 2, 2, 3, 1, 2, 2, 3, 2, 3, 3, 4] : List Nat).getD a 0
def okB (a b : Nat) : Bool := Nat.beq (bcN (256 * a + b)) (p4 (a / 16) + p4 (a % 16) + (p4 (b / 16) + p4 (b % 16)))
theorem bc_all : ∀ a, a < 256 → ∀ b, b < 256 → okB a b = true := by decide +kernel
