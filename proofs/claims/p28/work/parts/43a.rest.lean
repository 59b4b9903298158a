/-! ===== numbers and sets, of parts left out ===== -/
def updN (a : Nat → Nat) (k v : Nat) : Nat → Nat := fun j => if j = k then v else a j
def sumA (a : Nat → Nat) : Nat → Nat
  | 0 => 0
  | n + 1 => sumA a n + a n
theorem sN_0 {f : Nat → Bool} : ∀ n, (∀ j, j < n → f j = false) → sN n f = 0
  | 0, _ => rfl
  | n + 1, h => by
    show sN n f + (if f n = true then 2 ^ n else 0) = 0
    rw [sN_0 n (fun j hj => h j (by omega)), h n (by omega)]; rfl
theorem sN_1 {f : Nat → Bool} : ∀ n, (∀ j, j < n → f j = true) → sN n f + 1 = 2 ^ n
  | 0, _ => rfl
  | n + 1, h => by
    show sN n f + (if f n = true then 2 ^ n else 0) + 1 = 2 ^ (n + 1)
    have := sN_1 n (fun j hj => h j (by omega))
    rw [if_pos (h n (by omega)), Nat.pow_succ]
    omega
def lwH (k : Nat) (f : Nat → Bool) (j : Nat) : Bool := decide (j < k) || (decide (k < j) && f j)
theorem sN_low {f : Nat → Bool} {k : Nat} (hk : f k = true) (h0 : ∀ j, j < k → f j = false) : ∀ n, k < n → sN n f = sN n (lwH k f) + 1
  | 0, h => absurd h (Nat.not_lt_zero k)
  | n + 1, h => by
    show sN n f + (if f n = true then 2 ^ n else 0) = sN n (lwH k f) + (if lwH k f n = true then 2 ^ n else 0) + 1
    by_cases e : k = n
    · subst e
      have e1 : lwH k f k = false := by unfold lwH; simp
      rw [sN_0 k h0, if_pos hk, e1]
      have := sN_1 (f := lwH k f) k (fun j hj => by unfold lwH; rw [decide_eq_true hj]; rfl)
      simp
      omega
    · have e1 : lwH k f n = f n := by
        unfold lwH
        rw [decide_eq_false (show ¬ n < k by omega), decide_eq_true (show k < n by omega)]
        simp
      rw [e1, sN_low hk h0 n (by omega)]
      omega
theorem sI_low1 {f : Nat → Bool} {k : Nat} (hk16 : k < 16) (hk : f k = true) (h0 : ∀ j, j < k → f j = false) : sI f - 1 = sI (lwH k f) := by
  unfold sI
  rw [sN_low hk h0 16 hk16]
  exact nI_pred _
theorem neg_xor (a : Int32) : -a = (a - 1) ^^^ (-1) := by
  rw [Int32.xor_neg_one, Int32.not_eq_neg_add, Int32.neg_sub]
  grind
theorem cnt_below : ∀ n k, k ≤ n → cntB (fun j => decide (j < k)) n = k
  | 0, k, h => (Nat.le_zero.mp h).symm
  | n + 1, k, h => by
    show cntB (fun j => decide (j < k)) n + t1 (fun j => decide (j < k)) n = k
    by_cases e : k = n + 1
    · rw [e, cntB_congr n (g' := fun j => decide (j < n)) (fun j hj => by rw [decide_eq_true hj, decide_eq_true (by omega)]), cnt_below n n (Nat.le_refl n)]
      unfold t1
      rw [if_pos (decide_eq_true (show n < n + 1 by omega))]
    · rw [cnt_below n k (by omega)]
      unfold t1
      rw [if_neg (by dsimp only; rw [decide_eq_false (show ¬ n < k by omega)]; decide)]; rfl
theorem low_C {f : Nat → Bool} {k : Nat} (hk16 : k < 16) (hk : f k = true) (h0 : ∀ j, j < k → f j = false) : z_I_bitCount ((sI f &&& (-(sI f))) - 1) = nI k := by
  rw [neg_xor, sI_low1 hk16 hk h0, sI_diff]
  have e : sI (fun j => f j && !lwH k f j) = sI (fun j => decide (j = k)) := sI_ext fun j hj => by
    unfold lwH
    by_cases q : j < k
    · rw [h0 j q, decide_eq_false (show ¬ j = k by omega)]; rfl
    · by_cases q2 : j = k
      · rw [q2, hk, decide_eq_true (show k = k from rfl)]; simp
      · rw [decide_eq_true (show k < j by omega), decide_eq_false q2]; cases f j <;> simp
  rw [e, sI_low1 (f := fun j => decide (j = k)) hk16 (decide_eq_true rfl) (fun j hj => decide_eq_false (by omega)), bitCount_sI]
  have e2 : cntB (lwH k (fun j => decide (j = k))) 16 = cntB (fun j => decide (j < k)) 16 := cntB_congr 16 (fun j hj => by
    unfold lwH
    by_cases q : j < k
    · rw [decide_eq_true q]; rfl
    · rw [decide_eq_false q]
      by_cases q2 : k < j
      · dsimp only
        rw [decide_eq_true q2, decide_eq_false (show ¬ j = k by omega)]; rfl
      · rw [decide_eq_false q2]; rfl)
  rw [e2, cnt_below 16 k (by omega)]
def lwN (f : Nat → Bool) : Nat → Nat
  | 0 => 0
  | n + 1 => if lwN f n < n then lwN f n else if f n = true then n else n + 1
theorem lwN_spec (f : Nat → Bool) : ∀ n, lwN f n ≤ n ∧ (∀ j, j < lwN f n → f j = false) ∧ (lwN f n < n → f (lwN f n) = true)
  | 0 => ⟨Nat.le_refl 0, fun j hj => absurd hj (Nat.not_lt_zero j), fun h => absurd h (Nat.not_lt_zero 0)⟩
  | n + 1 => by
    obtain ⟨h1, h2, h3⟩ := lwN_spec f n
    by_cases q : lwN f n < n
    · have e : lwN f (n + 1) = lwN f n := if_pos q
      rw [e]
      exact ⟨by omega, h2, fun _ => h3 q⟩
    · have en : lwN f n = n := by omega
      by_cases q2 : f n = true
      · have e : lwN f (n + 1) = n := by
          show (if lwN f n < n then lwN f n else if f n = true then n else n + 1) = n
          rw [if_neg q, if_pos q2]
        rw [e]
        exact ⟨by omega, fun j hj => h2 j (by omega), fun _ => q2⟩
      · have e : lwN f (n + 1) = n + 1 := by
          show (if lwN f n < n then lwN f n else if f n = true then n else n + 1) = n + 1
          rw [if_neg q, if_neg q2]
        rw [e]
        refine ⟨by omega, fun j hj => ?_, fun h => absurd h (Nat.lt_irrefl _)⟩
        by_cases q3 : j = n
        · rw [q3]; simpa using q2
        · exact h2 j (by omega)
theorem lwN_of {f : Nat → Bool} (h : ∃ k, k < 16 ∧ f k = true) : lwN f 16 < 16 ∧ f (lwN f 16) = true ∧ ∀ j, j < lwN f 16 → f j = false := by
  obtain ⟨h1, h2, h3⟩ := lwN_spec f 16
  have : lwN f 16 < 16 := by
    obtain ⟨k, hk, hf⟩ := h
    refine Decidable.byContradiction (fun q => ?_)
    have := h2 k (by omega)
    rw [hf] at this
    cases this
  exact ⟨this, h3 this, h2⟩
