theorem isSize_iff (x : Int32) : ¬ z_C_isSize x = 0 ↔ (0 ≤ x ∧ x ≤ 3) := by
  unfold z_C_isSize
  by_cases h1 : x < 0
  · rw [if_pos h1]
    exact ⟨fun q => absurd rfl q, fun q => absurd h1 (Int32.not_lt.mpr q.1)⟩
  · rw [if_neg h1]
    by_cases h2 : 4 ≤ x
    · rw [if_pos h2]
      refine ⟨fun q => absurd rfl q, fun q => absurd (Int32.le_trans h2 q.2) (by decide)⟩
    · rw [if_neg h2]
      have h1' := Int32.not_lt.mp h1
      have h2' := Int32.not_le.mp h2
      refine ⟨fun _ => ⟨h1', ?_⟩, fun _ => by decide⟩
      rw [Int32.le_iff_toInt_le]
      rw [Int32.lt_iff_toInt_lt] at h2'
      have e4 : (4 : Int32).toInt = 4 := rfl
      have e3 : (3 : Int32).toInt = 3 := rfl
      omega
theorem nI_le0 {n : Nat} (h : n < 2 ^ 31) : nI n ≤ 0 ↔ n = 0 := by
  rw [Int32.le_iff_toInt_le, nI_toInt h, show (0 : Int32).toInt = 0 from rfl]
  omega
theorem nI_is0 {n : Nat} (h : n < 2 ^ 31) : nI n = 0 ↔ n = 0 := nI_eq (b := 0) h (by decide)
