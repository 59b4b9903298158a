/-! ===== the longest seam is the longest run ===== -/
def A4 (f : Nat → Bool) : Nat → Nat → Bool
  | 0 => f
  | n + 1 => fun i => A4 f n i && (decide (i + 1 < 4) && A4 f n (i + 1))
def rn (f : Nat → Bool) (m : Nat) : Nat → Nat × Nat
  | 0 => (m, 0)
  | i + 1 => if f i = true then (max (rn f m i).1 ((rn f m i).2 + 1), (rn f m i).2 + 1) else ((rn f m i).1, 0)
def q4 (a b c d : Bool) (i : Nat) : Bool := if i = 0 then a else if i = 1 then b else if i = 2 then c else d
theorem run_4 : ∀ a b c d : Bool, ∀ n, n < 4 → (List.range 4).any (fun i => A4 (q4 a b c d) n i) = decide (n < (rn (q4 a b c d) 0 4).1) := by decide +kernel
theorem q4_of (f : Nat → Bool) {i : Nat} (hi : i < 4) : q4 (f 0) (f 1) (f 2) (f 3) i = f i := by
  have : i = 0 ∨ i = 1 ∨ i = 2 ∨ i = 3 := by omega
  rcases this with rfl | rfl | rfl | rfl <;> rfl
theorem A4_congr {f h : Nat → Bool} (e : ∀ i, i < 4 → f i = h i) : ∀ n i, i < 4 → A4 f n i = A4 h n i
  | 0, i, hi => e i hi
  | n + 1, i, hi => by
    show (A4 f n i && (decide (i + 1 < 4) && A4 f n (i + 1))) = (A4 h n i && (decide (i + 1 < 4) && A4 h n (i + 1)))
    rw [A4_congr e n i hi]
    by_cases q : i + 1 < 4
    · rw [A4_congr e n (i + 1) q]
    · rw [decide_eq_false q]; simp
theorem rn_congr {f h : Nat → Bool} (e : ∀ i, i < 4 → f i = h i) (m : Nat) : ∀ i, i ≤ 4 → rn f m i = rn h m i
  | 0, _ => rfl
  | i + 1, hi => by
    show (if f i = true then (max (rn f m i).1 ((rn f m i).2 + 1), (rn f m i).2 + 1) else ((rn f m i).1, 0)) = (if h i = true then (max (rn h m i).1 ((rn h m i).2 + 1), (rn h m i).2 + 1) else ((rn h m i).1, 0))
    rw [e i (by omega), rn_congr e m i (by omega)]
theorem rn_max (f : Nat → Bool) (m : Nat) : ∀ i, (rn f m i).1 = max m (rn f 0 i).1 ∧ (rn f m i).2 = (rn f 0 i).2
  | 0 => ⟨by show m = max m 0; omega, rfl⟩
  | i + 1 => by
    obtain ⟨h1, h2⟩ := rn_max f m i
    cases q : f i with
    | true =>
      have a1 : rn f m (i + 1) = (max (rn f m i).1 ((rn f m i).2 + 1), (rn f m i).2 + 1) := if_pos q
      have a2 : rn f 0 (i + 1) = (max (rn f 0 i).1 ((rn f 0 i).2 + 1), (rn f 0 i).2 + 1) := if_pos q
      rw [a1, a2, h1, h2]
      dsimp only
      omega
    | false =>
      have nq : ¬ f i = true := by rw [q]; decide
      have a1 : rn f m (i + 1) = ((rn f m i).1, 0) := if_neg nq
      have a2 : rn f 0 (i + 1) = ((rn f 0 i).1, 0) := if_neg nq
      rw [a1, a2]
      exact ⟨h1, rfl⟩
theorem rn_le (f : Nat → Bool) (m : Nat) : ∀ i, (rn f m i).1 ≤ max m i ∧ (rn f m i).2 ≤ i
  | 0 => ⟨by show m ≤ max m 0; omega, Nat.le_refl 0⟩
  | i + 1 => by
    obtain ⟨h1, h2⟩ := rn_le f m i
    cases q : f i with
    | true =>
      have a1 : rn f m (i + 1) = (max (rn f m i).1 ((rn f m i).2 + 1), (rn f m i).2 + 1) := if_pos q
      rw [a1]
      dsimp only
      omega
    | false =>
      have a1 : rn f m (i + 1) = ((rn f m i).1, 0) := if_neg (by rw [q]; decide)
      rw [a1]
      dsimp only
      omega
def lr (f : Nat → Bool) : Nat := (rn f 0 4).1
theorem lr_le (f : Nat → Bool) : lr f ≤ 4 := by
  have := (rn_le f 0 4).1
  unfold lr
  omega
theorem run_any (f : Nat → Bool) {n : Nat} (hn : n < 4) : (∃ i, i < 4 ∧ A4 f n i = true) ↔ n < lr f := by
  have h := run_4 (f 0) (f 1) (f 2) (f 3) n hn
  have e : ∀ i, i < 4 → q4 (f 0) (f 1) (f 2) (f 3) i = f i := fun i hi => q4_of f hi
  rw [rn_congr e 0 4 (Nat.le_refl 4)] at h
  unfold lr
  rw [← decide_eq_true_iff (p := n < (rn f 0 4).1), ← h, List.any_eq_true]
  constructor
  · rintro ⟨i, hi, h2⟩
    exact ⟨i, List.mem_range.mpr hi, by rw [A4_congr e n i hi]; exact h2⟩
  · rintro ⟨i, hi, h2⟩
    have hi := List.mem_range.mp hi
    exact ⟨i, hi, by rw [← A4_congr e n i hi]; exact h2⟩
def Ls (g : Gd) (j i : Nat) : Bool := if j < 4 then upr g (4 * i + j) else lev g (4 * (j - 4) + i)
theorem Ls_u (g : Gd) {j : Nat} (hj : j < 4) (i : Nat) : Ls g j i = upr g (4 * i + j) := if_pos hj
theorem Ls_l (g : Gd) (l i : Nat) : Ls g (4 + l) i = lev g (4 * l + i) := by
  unfold Ls
  rw [if_neg (by omega), show 4 + l - 4 = l by omega]
theorem upN_A (g : Gd) {l : Nat} (hl : l < 4) : ∀ n i, i < 4 → upN g n (4 * i + l) = A4 (Ls g l) n i
  | 0, i, _ => (Ls_u g hl i).symm
  | n + 1, i, hi => by
    show (upN g n (4 * i + l) && (decide (4 * i + l + 4 < 16) && upN g n (4 * i + l + 4))) = (A4 (Ls g l) n i && (decide (i + 1 < 4) && A4 (Ls g l) n (i + 1)))
    rw [upN_A g hl n i hi]
    by_cases q : i + 1 < 4
    · rw [decide_eq_true q, decide_eq_true (show 4 * i + l + 4 < 16 by omega), show 4 * i + l + 4 = 4 * (i + 1) + l by omega, upN_A g hl n (i + 1) q]
    · rw [decide_eq_false q, decide_eq_false (show ¬ 4 * i + l + 4 < 16 by omega), Bool.false_and, Bool.false_and]
theorem lvN_A (g : Gd) {l : Nat} (hl : l < 4) : ∀ n i, i < 4 → lvN g n (4 * l + i) = A4 (Ls g (4 + l)) n i
  | 0, i, _ => (Ls_l g l i).symm
  | n + 1, i, hi => by
    show (lvN g n (4 * l + i) && ((decide (4 * l + i + 1 < 16) && lvN g n (4 * l + i + 1)) && decide ((4 * l + i) % 4 ≠ 3))) = (A4 (Ls g (4 + l)) n i && (decide (i + 1 < 4) && A4 (Ls g (4 + l)) n (i + 1)))
    rw [lvN_A g hl n i hi]
    by_cases q : i + 1 < 4
    · rw [decide_eq_true q, decide_eq_true (show 4 * l + i + 1 < 16 by omega), decide_eq_true (show (4 * l + i) % 4 ≠ 3 by omega), show 4 * l + i + 1 = 4 * l + (i + 1) by omega, lvN_A g hl n (i + 1) q, Bool.and_true]
    · rw [decide_eq_false q, decide_eq_false (show ¬ (4 * l + i) % 4 ≠ 3 by omega), Bool.and_false, Bool.false_and]
theorem emp_lr {g : Gd} {n : Nat} (hn : n < 4) : emp g n = true ↔ ∀ j, j < 8 → lr (Ls g j) ≤ n := by
  unfold emp
  rw [Bool.not_eq_true', List.any_eq_false]
  constructor
  · intro h j hj
    refine Nat.not_lt.mp (fun c => ?_)
    obtain ⟨i, hi, h2⟩ := (run_any (Ls g j) hn).mpr c
    by_cases j4 : j < 4
    · refine h (4 * i + j) (List.mem_range.mpr (by omega)) ?_
      rw [upN_A g j4 n i hi, h2]; rfl
    · refine h (4 * (j - 4) + i) (List.mem_range.mpr (by omega)) ?_
      rw [lvN_A g (show j - 4 < 4 by omega) n i hi, show 4 + (j - 4) = j by omega, h2]; simp
  · intro h k hk c
    have hk := List.mem_range.mp hk
    rw [Bool.or_eq_true] at c
    rcases c with c | c
    · have e := upN_A g (show k % 4 < 4 by omega) n (k / 4) (by omega)
      rw [show 4 * (k / 4) + k % 4 = k by omega, c] at e
      have := (run_any (Ls g (k % 4)) hn).mp ⟨k / 4, by omega, e.symm⟩
      have := h (k % 4) (by omega)
      omega
    · have e := lvN_A g (show k / 4 < 4 by omega) n (k % 4) (by omega)
      rw [show 4 * (k / 4) + k % 4 = k by omega, c] at e
      have := (run_any (Ls g (4 + k / 4)) hn).mp ⟨k % 4, by omega, e.symm⟩
      have := h (4 + k / 4) (by omega)
      omega
def mxN (g : Gd) : Nat → Nat
  | 0 => 0
  | j + 1 => max (mxN g j) (lr (Ls g j))
theorem mxN_le {g : Gd} {n : Nat} : ∀ j, mxN g j ≤ n ↔ ∀ i, i < j → lr (Ls g i) ≤ n
  | 0 => ⟨fun _ i hi => absurd hi (Nat.not_lt_zero i), fun _ => Nat.zero_le n⟩
  | j + 1 => by
    show max (mxN g j) (lr (Ls g j)) ≤ n ↔ _
    rw [Nat.max_le, mxN_le j]
    constructor
    · rintro ⟨h1, h2⟩ i hi
      by_cases e : i = j
      · rw [e]; exact h2
      · exact h1 i (by omega)
    · intro h
      exact ⟨fun i hi => h i (by omega), h j (by omega)⟩
theorem mxN_4 (g : Gd) (j : Nat) : mxN g j ≤ 4 := (mxN_le j).mpr (fun _ _ => lr_le _)
theorem smN_mx (g : Gd) : ∀ f n, f + n = 4 → n ≤ mxN g 8 → smN g f n = mxN g 8
  | 0, n, h, h2 => by
    have := mxN_4 g 8
    show n = mxN g 8
    omega
  | f + 1, n, h, h2 => by
    show (if emp g n = true then n else smN g f (n + 1)) = mxN g 8
    by_cases c : emp g n = true
    · rw [if_pos c]
      have := (mxN_le 8).mpr ((emp_lr (by omega)).mp c)
      omega
    · rw [if_neg c]
      refine smN_mx g f (n + 1) (by omega) (Nat.lt_of_not_le (fun q => c ((emp_lr (by omega)).mpr ((mxN_le 8).mp q))))
/-! ===== now ===== -/
