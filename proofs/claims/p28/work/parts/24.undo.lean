theorem sN_of {n : Nat} (h : n < 65536) : sN 16 (fun u => n.testBit u) = n := by
  refine Nat.eq_of_testBit_eq (fun i => ?_)
  rw [sN_tb]
  by_cases hi : i < 16
  · simp [hi]
  · have : n.testBit i = false := Nat.testBit_lt_two_pow (Nat.lt_of_lt_of_le h (Nat.pow_le_pow_right (n := 2) (i := 16) (by decide) (by omega)))
    rw [this]
    simp
theorem eOk_kind {p : Pl} {e : En} {g : Gd} (h : eOk p e g) : e.1 = 0 ∨ e.1 = 1 ∨ e.1 = 2 ∨ e.1 = 3 := by
  obtain ⟨n, u, v⟩ := e
  match n with
  | 0 => exact Or.inl rfl
  | 1 => exact Or.inr (Or.inl rfl)
  | 2 => exact Or.inr (Or.inr (Or.inl rfl))
  | 3 => exact Or.inr (Or.inr (Or.inr rfl))
  | n + 4 => exact absurd h id
