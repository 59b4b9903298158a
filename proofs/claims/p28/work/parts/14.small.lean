/-! ===== cells by x and y; the small calls ===== -/
theorem i32_of_toInt {x : Int32} {n : Nat} (h : x.toInt = n) (hn : n < 2 ^ 31) : x = nI n := Int32.toInt_inj.mp (by rw [h, nI_toInt hn])
/-- there is such a cell -/
def okc (p : Pl) (x y : Int32) : Bool := (decide (0 ≤ x.toInt) && decide (x.toInt < (pW p : Int))) && (decide (0 ≤ y.toInt) && decide (y.toInt < (pR p : Int)))
theorem okc_cell {p : Pl} {x y : Int32} (hp : WfP p) (h : okc p x y = true) : ∃ k, k < 16 ∧ x = nI (k % 4) ∧ y = nI (k / 4) ∧ thr p k = true := by
  unfold okc at h
  simp only [Bool.and_eq_true, decide_eq_true_eq] at h
  obtain ⟨⟨h1, h2⟩, h3, h4⟩ := h
  have hw := hp.1
  have hr := hp.2.1
  have e1 : x.toInt = ((x.toInt.toNat : Nat) : Int) := by omega
  have e2 : y.toInt = ((y.toInt.toNat : Nat) : Int) := by omega
  refine ⟨4 * y.toInt.toNat + x.toInt.toNat, by omega, ?_, ?_, ?_⟩
  · rw [show (4 * y.toInt.toNat + x.toInt.toNat) % 4 = x.toInt.toNat by omega]
    exact i32_of_toInt e1 (by omega)
  · rw [show (4 * y.toInt.toNat + x.toInt.toNat) / 4 = y.toInt.toNat by omega]
    exact i32_of_toInt e2 (by omega)
  · unfold thr
    simp only [Bool.and_eq_true, decide_eq_true_eq]
    omega
theorem okc_thr {p : Pl} {k : Nat} (hk : k < 16) : okc p (nI (k % 4)) (nI (k / 4)) = thr p k := by
  unfold okc thr
  rw [nI_toInt (by omega), nI_toInt (by omega)]
  have e1 : decide (0 ≤ ((k % 4 : Nat) : Int)) = true := decide_eq_true (by omega)
  have e2 : decide (0 ≤ ((k / 4 : Nat) : Int)) = true := decide_eq_true (by omega)
  rw [e1, e2, Bool.true_and, Bool.true_and]
  congr 1 <;> exact decide_eq_decide.mpr (by omega)
theorem numOf : ∀ k, k < 16 → z_C_numberOf (nI (k % 4)) (nI (k / 4)) = nI k := by decide +kernel
theorem numOf' {k : Nat} (hk : k < 16) : (4 * nI (k / 4)) + nI (k % 4) = nI k := numOf k hk
theorem remOf : ∀ k, k < 16 → rem (nI k) 4 = nI (k % 4) := by decide +kernel
theorem divOf : ∀ k, k < 16 → nI k / 4 = nI (k / 4) := by decide +kernel
theorem has_C {p : Pl} {M : Mem} {x y : Int32} (hp : WfP p) (h : RCp p M) : z_L_has_6 M x y = bI (okc p x y) := by
  unfold z_L_has_6
  rw [h.1, h.2.1]
  have hw := hp.1
  have hr := hp.2.1
  have e1 : x < 0 ↔ x.toInt < 0 := Int32.lt_iff_toInt_lt
  have e2 : y < 0 ↔ y.toInt < 0 := Int32.lt_iff_toInt_lt
  have e3 : nI (pW p) ≤ x ↔ (pW p : Int) ≤ x.toInt := by rw [Int32.le_iff_toInt_le, nI_toInt (by omega)]
  have e4 : nI (pR p) ≤ y ↔ (pR p : Int) ≤ y.toInt := by rw [Int32.le_iff_toInt_le, nI_toInt (by omega)]
  unfold okc
  by_cases h1 : x < 0
  · rw [if_pos h1]
    have : ¬ 0 ≤ x.toInt := by have := e1.mp h1; omega
    simp [this, bI]
  · rw [if_neg h1]
    have h1' : 0 ≤ x.toInt := by have := mt e1.mpr h1; omega
    by_cases h2 : nI (pW p) ≤ x
    · rw [if_pos h2]
      have : ¬ x.toInt < (pW p : Int) := by have := e3.mp h2; omega
      simp [this, bI]
    · rw [if_neg h2]
      have h2' : x.toInt < (pW p : Int) := by have := mt e3.mpr h2; omega
      by_cases h3 : y < 0
      · rw [if_pos h3]
        have : ¬ 0 ≤ y.toInt := by have := e2.mp h3; omega
        simp [this, bI]
      · rw [if_neg h3]
        have h3' : 0 ≤ y.toInt := by have := mt e2.mpr h3; omega
        by_cases h4 : nI (pR p) ≤ y
        · rw [if_pos h4]
          have : ¬ y.toInt < (pR p : Int) := by have := e4.mp h4; omega
          simp [this, bI]
        · rw [if_neg h4]
          have h4' : y.toInt < (pR p : Int) := by have := mt e4.mpr h4; omega
          simp [h1', h2', h3', h4', bI]
theorem le_m1 {n : Nat} (hn : n ≤ 4) (x : Int32) : x ≤ nI n - 1 ↔ x.toInt < (n : Int) := by
  rw [Int32.le_iff_toInt_le]
  have : (nI n - 1).toInt = (n : Int) - 1 := by
    have : n = 0 ∨ n = 1 ∨ n = 2 ∨ n = 3 ∨ n = 4 := by omega
    rcases this with rfl | rfl | rfl | rfl | rfl <;> decide
  rw [this]
  omega
theorem bI_eq1 (b : Bool) : (if bI b = 1 then (1 : Int32) else 0) = bI b := by cases b <;> decide
/-- there, and no lid -/
def okd (p : Pl) (x y : Int32) : Bool := okc p x y && !pL p (x.toInt + 4 * y.toInt).toNat
theorem okd_k {p : Pl} {k : Nat} (hk : k < 16) : okd p (nI (k % 4)) (nI (k / 4)) = (thr p k && !pL p k) := by
  unfold okd
  rw [okc_thr hk, nI_toInt (by omega), nI_toInt (by omega), show (((k % 4 : Nat) : Int) + 4 * ((k / 4 : Nat) : Int)).toNat = k by omega]
theorem isOpen_C {p : Pl} {M : Mem} (hp : WfP p) (h : RCp p M) (x y : Int32) : z_L_isOpen_6 M x y = bI (okd p x y) := by
  unfold z_L_isOpen_6
  rw [has_C hp h]
  cases ho : okc p x y with
  | false => rw [if_pos (by decide)]; unfold okd; rw [ho]; rfl
  | true =>
    obtain ⟨k, hk, rfl, rfl, ht⟩ := okc_cell hp ho
    rw [if_neg (by decide), numOf k hk, h.2.2.2.1, holds_sI hk, okd_k hk, ht]
    cases pL p k <;> decide
theorem okd_cell {p : Pl} {x y : Int32} (hp : WfP p) (h : okd p x y = true) : ∃ k, k < 16 ∧ x = nI (k % 4) ∧ y = nI (k / 4) ∧ thr p k = true ∧ pL p k = false := by
  have h0 := h
  unfold okd at h
  simp only [Bool.and_eq_true] at h
  obtain ⟨k, hk, rfl, rfl, ht⟩ := okc_cell hp h.1
  rw [okd_k hk, ht] at h0
  exact ⟨k, hk, rfl, rfl, ht, by simpa using h0⟩
/-! the small calls -/
