/-! ===== Int32 by its bits: bt x i ===== -/
def bt (x : Int32) (i : Nat) : Bool := x.toBitVec.getLsbD i
theorem b_ext {x y : Int32} (h : ∀ i, i < 32 → bt x i = bt y i) : x = y := Int32.toBitVec_inj.mp (BitVec.eq_of_getLsbD_eq (fun i hi => h i hi))
theorem b_or (x y : Int32) (i : Nat) : bt (x ||| y) i = (bt x i || bt y i) := by unfold bt; rw [Int32.toBitVec_or, BitVec.getLsbD_or]
theorem b_and (x y : Int32) (i : Nat) : bt (x &&& y) i = (bt x i && bt y i) := by unfold bt; rw [Int32.toBitVec_and, BitVec.getLsbD_and]
theorem b_xor (x y : Int32) (i : Nat) : bt (x ^^^ y) i = (bt x i ^^ bt y i) := by unfold bt; rw [Int32.toBitVec_xor, BitVec.getLsbD_xor]
theorem b_big {x : Int32} {i : Nat} (h : 32 ≤ i) : bt x i = false := BitVec.getLsbD_of_ge _ _ h
theorem b_255 (i : Nat) : bt 255 i = decide (i < 8) := by
  rcases Nat.lt_or_ge i 32 with h | h
  · exact (by decide +kernel : ∀ i, i < 32 → bt 255 i = decide (i < 8)) i h
  · rw [b_big h, decide_eq_false (by omega)]
theorem b_65535 (i : Nat) : bt 65535 i = decide (i < 16) := by
  rcases Nat.lt_or_ge i 32 with h | h
  · exact (by decide +kernel : ∀ i, i < 32 → bt 65535 i = decide (i < 16)) i h
  · rw [b_big h, decide_eq_false (by omega)]
theorem b_m1 : ∀ i, i < 32 → bt (-1) i = true := by decide +kernel
theorem b_0 (i : Nat) : bt 0 i = false := BitVec.getLsbD_zero
theorem s_l : ∀ n, n < 32 → ((nI n &&& 31).toBitVec.smod 32).toNat = n := by decide +kernel
theorem s_u : ∀ n, n < 32 → (((nI n).toUInt32 &&& Int32.toUInt32 31).toBitVec % 32).toNat = n := by decide +kernel
theorem b_shl (n : Nat) (hn : n < 32) (x : Int32) {i : Nat} (hi : i < 32) : bt (x <<< (nI n &&& 31)) i = (decide (n ≤ i) && bt x (i - n)) := by
  unfold bt
  rw [Int32.toBitVec_shiftLeft]
  show (x.toBitVec <<< ((nI n &&& 31).toBitVec.smod 32).toNat).getLsbD i = _
  rw [s_l n hn, BitVec.getLsbD_shiftLeft]
  rcases Nat.lt_or_ge i n with h | h
  · simp [h, Nat.not_le.mpr h]
  · simp [hi, h, Nat.not_lt.mpr h]
theorem b_ushr (n : Nat) (hn : n < 32) (x : Int32) (i : Nat) : bt ((x.toUInt32 >>> ((nI n).toUInt32 &&& Int32.toUInt32 31)).toInt32) i = bt x (n + i) := by
  show (x.toUInt32 >>> ((nI n).toUInt32 &&& Int32.toUInt32 31)).toBitVec.getLsbD i = x.toUInt32.toBitVec.getLsbD (n + i)
  rw [UInt32.toBitVec_shiftRight]
  show (x.toUInt32.toBitVec >>> (((nI n).toUInt32 &&& Int32.toUInt32 31).toBitVec % 32).toNat).getLsbD i = _
  rw [s_u n hn, BitVec.getLsbD_ushiftRight]
theorem b_sshr (n : Nat) (hn : n < 32) (x : Int32) {i : Nat} (hi : i < 32) : bt (x >>> (nI n &&& 31)) i = if n + i < 32 then bt x (n + i) else bt x 31 := by
  unfold bt
  rw [Int32.toBitVec_shiftRight]
  show (x.toBitVec.sshiftRight ((nI n &&& 31).toBitVec.smod 32).toNat).getLsbD i = _
  rw [s_l n hn, BitVec.getLsbD_sshiftRight, BitVec.msb_eq_getLsbD_last]
  simp [hi]
/-! ===== (the rows above: kit/laws/BITS.to-paste) numbers, booleans, sets of cells ===== -/
def bI (b : Bool) : Int32 := if b = true then 1 else 0
theorem bI_t : bI true = 1 := rfl
theorem bI_f : bI false = 0 := rfl
theorem bI_0 (b : Bool) : bI b = 0 ↔ b = false := by cases b <;> decide
theorem bI_1 (b : Bool) : bI b = 1 ↔ b = true := by cases b <;> decide
theorem bI_01 (b : Bool) : bI b = 0 ∨ bI b = 1 := by cases b <;> decide
theorem bI_ite {p : Prop} [Decidable p] : (if p then (1 : Int32) else 0) = bI (decide p) := by
  by_cases h : p <;> simp [bI, h]
theorem bI_itn {p : Prop} [Decidable p] : (if p then (0 : Int32) else 1) = bI (!decide p) := by
  by_cases h : p <;> simp [bI, h]
/-- a set of numbers below n as a number -/
def sN : Nat → (Nat → Bool) → Nat
  | 0, _ => 0
  | n + 1, f => sN n f + (if f n = true then 2 ^ n else 0)
theorem sN_lt : ∀ (n : Nat) (f : Nat → Bool), sN n f < 2 ^ n
  | 0, _ => Nat.one_pos
  | n + 1, f => by
    have := sN_lt n f
    unfold sN
    rw [Nat.pow_succ]
    split <;> omega
theorem sN_tb : ∀ (n : Nat) (f : Nat → Bool) (i : Nat), (sN n f).testBit i = (decide (i < n) && f i)
  | 0, _, i => by simp [sN]
  | n + 1, f, i => by
    have h := sN_tb n f i
    have hl := sN_lt n f
    unfold sN
    by_cases hf : f n = true
    · rw [if_pos hf, Nat.add_comm]
      rcases Nat.lt_trichotomy i n with hi | hi | hi
      · rw [Nat.testBit_two_pow_add_gt hi, h]
        simp [hi, Nat.lt_succ_of_lt hi]
      · subst hi
        rw [Nat.testBit_two_pow_add_eq, Nat.testBit_lt_two_pow hl]
        simp [hf]
      · have : 2 ^ n + sN n f < 2 ^ i := by
          have h2 : 2 ^ (n + 1) ≤ 2 ^ i := Nat.pow_le_pow_right (by decide) hi
          rw [Nat.pow_succ] at h2
          omega
        rw [Nat.testBit_lt_two_pow this]
        simp; omega
    · rw [if_neg hf, Nat.add_zero, h]
      by_cases hi : i = n
      · subst hi
        simp [hf]
      · by_cases h2 : i < n
        · simp [h2, Nat.lt_succ_of_lt h2]
        · simp [h2]; intro h3; omega
def sI (f : Nat → Bool) : Int32 := nI (sN 16 f)
theorem bt_nI (n : Nat) {i : Nat} (hi : i < 32) : bt (nI n) i = n.testBit i := by
  show (BitVec.ofNat 32 n).getLsbD i = _
  rw [BitVec.getLsbD_ofNat]
  simp [hi]
theorem bt_sI (f : Nat → Bool) {i : Nat} (hi : i < 32) : bt (sI f) i = (decide (i < 16) && f i) := by
  unfold sI
  rw [bt_nI _ hi, sN_tb]
theorem sI_ext {f g : Nat → Bool} (h : ∀ k, k < 16 → f k = g k) : sI f = sI g := by
  apply b_ext
  intro i hi
  rw [bt_sI f hi, bt_sI g hi]
  by_cases h2 : i < 16
  · rw [h i h2]
  · simp [h2]
theorem sI_of {x : Int32} {f : Nat → Bool} (h : ∀ i, i < 32 → bt x i = (decide (i < 16) && f i)) : x = sI f := by
  apply b_ext
  intro i hi
  rw [h i hi, bt_sI f hi]
theorem sI_inj {f g : Nat → Bool} (h : sI f = sI g) : ∀ k, k < 16 → f k = g k := by
  intro k hk
  have h1 := bt_sI f (show k < 32 by omega)
  rw [h, bt_sI g (by omega)] at h1
  simpa [hk] using h1.symm
theorem sI_or (f g : Nat → Bool) : sI f ||| sI g = sI (fun k => f k || g k) := by
  apply sI_of
  intro i hi
  rw [b_or, bt_sI f hi, bt_sI g hi]
  by_cases h : i < 16 <;> simp [h]
theorem sI_and (f g : Nat → Bool) : sI f &&& sI g = sI (fun k => f k && g k) := by
  apply sI_of
  intro i hi
  rw [b_and, bt_sI f hi, bt_sI g hi]
  by_cases h : i < 16 <;> simp [h]
theorem sI_diff (f g : Nat → Bool) : sI f &&& (sI g ^^^ (-1)) = sI (fun k => f k && !g k) := by
  apply sI_of
  intro i hi
  rw [b_and, b_xor, bt_sI f hi, bt_sI g hi, b_m1 i hi]
  by_cases h : i < 16 <;> simp [h]
theorem sI_none : sI (fun _ => false) = 0 := by decide +kernel
theorem sI_zero {f : Nat → Bool} : sI f = 0 ↔ ∀ k, k < 16 → f k = false := by
  constructor
  · intro h
    rw [← sI_none] at h
    exact sI_inj h
  · intro h
    rw [← sI_none]
    exact sI_ext h
theorem shr_nI {n : Nat} (hn : n < 32) (x : Int32) {i : Nat} (hi : i < 32) : bt (shr x (nI n)) i = if n + i < 32 then bt x (n + i) else bt x 31 := b_sshr n hn x hi
theorem shl_nI {n : Nat} (hn : n < 32) (x : Int32) {i : Nat} (hi : i < 32) : bt (shl x (nI n)) i = (decide (n ≤ i) && bt x (i - n)) := b_shl n hn x hi
theorem bt_1 {i : Nat} (hi : i < 32) : bt 1 i = decide (i = 0) := by
  revert i
  decide +kernel
theorem and1 (x : Int32) : x &&& 1 = bI (bt x 0) := by
  apply b_ext
  intro i hi
  rw [b_and, bt_1 hi]
  by_cases h : i = 0
  · subst h
    cases bt x 0 <;> decide
  · simp only [h, decide_false, Bool.and_false]
    cases bt x 0 <;> simp only [bI_t, bI_f]
    · rw [b_0]
    · rw [bt_1 hi]; simp [h]
theorem bit_at {n : Nat} (hn : n < 32) (x : Int32) : shr x (nI n) &&& 1 = bI (bt x n) := by
  rw [and1, shr_nI hn x (by decide)]
  simp [hn]
theorem sI_one {k : Nat} (hk : k < 16) : shl 1 (nI k) = sI (fun j => decide (j = k)) := by
  apply sI_of
  intro i hi
  rw [shl_nI (by omega) _ hi, bt_1 (by omega)]
  by_cases h : i = k
  · subst h; simp [hk]
  · by_cases h2 : k ≤ i
    · simp only [h2, h, decide_true, decide_false, Bool.true_and, Bool.and_false]
      simp; omega
    · simp [h2, h]
theorem holds_sI {f : Nat → Bool} {k : Nat} (hk : k < 16) : z_C_holds (sI f) (nI k) = bI (f k) := by
  unfold z_C_holds
  rw [bit_at (by omega), bt_sI f (by omega), bI_itn]
  simp only [hk, decide_true, Bool.true_and]
  cases f k <;> decide
theorem holds_x {x : Int32} {k : Nat} (hk : k < 32) : z_C_holds x (nI k) = bI (bt x k) := by
  unfold z_C_holds
  rw [bit_at hk, bI_itn]
  cases bt x k <;> decide
theorem sI_shr {f : Nat → Bool} {n : Nat} (hn : n < 16) : shr (sI f) (nI n) = sI (fun k => decide (k + n < 16) && f (k + n)) := by
  apply sI_of
  intro i hi
  rw [shr_nI (by omega) _ hi]
  by_cases h : n + i < 32
  · rw [if_pos h, bt_sI f h, Nat.add_comm n i]
    by_cases h2 : i + n < 16
    · simp [h2]; omega
    · simp [h2]
  · rw [if_neg h, bt_sI f (by decide)]
    simp; omega
theorem sI_shl {f : Nat → Bool} {n : Nat} (hn : n < 16) {m : Nat → Bool} : shl (sI f) (nI n) &&& sI m = sI (fun k => (decide (n ≤ k) && f (k - n)) && m k) := by
  apply sI_of
  intro i hi
  rw [b_and, shl_nI (by omega) _ hi, bt_sI m hi]
  by_cases h : n ≤ i
  · rw [bt_sI f (by omega)]
    by_cases h2 : i < 16
    · simp [h, h2, show i - n < 16 by omega]
    · simp [h2]
  · simp [h]
theorem c_65535 : (65535 : Int32) = sI (fun _ => true) := by decide +kernel
theorem c_30583 : (30583 : Int32) = sI (fun k => decide (k % 4 ≠ 3)) := by decide +kernel
theorem c_61166 : (61166 : Int32) = sI (fun k => decide (k % 4 ≠ 0)) := by decide +kernel
theorem c_4095 : (4095 : Int32) = sI (fun k => decide (k < 12)) := by decide +kernel
/-- cells beside those of a set -/
def bes (f : Nat → Bool) (k : Nat) : Bool := (decide (4 ≤ k) && f (k - 4)) || (decide (k < 12) && f (k + 4)) || (decide (k % 4 ≠ 0) && f (k - 1)) || (decide (k % 4 ≠ 3) && f (k + 1))
theorem beside_sI (f : Nat → Bool) : z_C_beside (sI f) = sI (bes f) := by
  unfold z_C_beside
  apply sI_of
  intro i hi
  rw [c_65535, c_30583, c_61166, sI_and, sI_and, show (4 : Int32) = nI 4 from rfl, show (1 : Int32) = nI 1 from rfl, b_and, b_or, b_or, b_or, shl_nI (by decide) _ hi, sI_shr (by decide), sI_shr (by decide), shl_nI (by decide) _ hi, bt_sI _ hi, bt_sI _ hi, bt_sI _ hi, bt_sI _ (show i - 4 < 32 by omega), bt_sI _ (show i - 1 < 32 by omega)]
  by_cases h16 : i < 16
  · revert hi f
    have : i = 0 ∨ i = 1 ∨ i = 2 ∨ i = 3 ∨ i = 4 ∨ i = 5 ∨ i = 6 ∨ i = 7 ∨ i = 8 ∨ i = 9 ∨ i = 10 ∨ i = 11 ∨ i = 12 ∨ i = 13 ∨ i = 14 ∨ i = 15 := by omega
    intro f hi
    rcases this with rfl | rfl | rfl | rfl | rfl | rfl | rfl | rfl | rfl | rfl | rfl | rfl | rfl | rfl | rfl | rfl <;> simp [bes] <;> (try (cases f 0 <;> cases f 1 <;> cases f 2 <;> cases f 3 <;> cases f 4 <;> cases f 5 <;> rfl)) <;> (try (simp [Bool.or_comm, Bool.or_left_comm]))
  · simp [h16]
/-- going down a counted loop -/
theorem downN {P : Nat → Prop} (N : Nat) (h0 : P N) (hs : ∀ k, k < N → P (k + 1) → P k) : ∀ k, k ≤ N → P k := by
  have key : ∀ n k, k + n = N → P k := by
    intro n
    induction n with
    | zero => intro k hk; rw [Nat.add_zero] at hk; rw [hk]; exact h0
    | succ n ih => intro k hk; exact hs k (by omega) (ih (k + 1) (by omega))
  exact fun k hk => key (N - k) k (by omega)
