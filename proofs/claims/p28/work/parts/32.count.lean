theorem usr_n {n s : Nat} (hn : n < 2 ^ 31) (hs : s < 32) : usr (nI n) (nI s) = nI (n >>> s) := by
  refine b_ext (fun i hi => ?_)
  have e : bt (usr (nI n) (nI s)) i = bt (nI n) (s + i) := b_ushr s hs (nI n) i
  rw [e, bt_nI _ hi, Nat.testBit_shiftRight]
  by_cases h : s + i < 32
  · rw [bt_nI _ h]
  · rw [b_big (by omega)]
    exact (Nat.testBit_lt_two_pow (Nat.lt_of_lt_of_le hn (Nat.pow_le_pow_right (by decide) (by omega)))).symm
theorem and_n (a b : Nat) : nI a &&& nI b = nI (a &&& b) := by
  refine b_ext (fun i hi => ?_)
  rw [b_and, bt_nI _ hi, bt_nI _ hi, bt_nI _ hi, Nat.testBit_and]
theorem bitCount_n {n : Nat} (hn : n < 65536) : z_I_bitCount (nI n) = nI (bcN n) := by
  have s1 : (n >>> 1) &&& 1431655765 ≤ n := Nat.le_trans Nat.and_le_left (by rw [Nat.shiftRight_eq_div_pow]; exact Nat.div_le_self _ _)
  have h1 : nI n - ((usr (nI n) 1) &&& 1431655765) = nI (bc1 n) := by
    rw [show usr (nI n) 1 = nI (n >>> 1) from usr_n (s := 1) (by omega) (by decide), show (1431655765 : Int32) = nI 1431655765 from rfl, and_n, nI_subn s1 (by omega)]
    rfl
  have b1 : bc1 n < 65536 := by unfold bc1; omega
  have h2 : (nI (bc1 n) &&& 858993459) + ((usr (nI (bc1 n)) 2) &&& 858993459) = nI (bc2 (bc1 n)) := by
    rw [show usr (nI (bc1 n)) 2 = nI (bc1 n >>> 2) from usr_n (s := 2) (by omega) (by decide), show (858993459 : Int32) = nI 858993459 from rfl, and_n, and_n, nI_add]
    rfl
  have b2 : bc2 (bc1 n) < 2 ^ 31 := by
    unfold bc2
    have a1 : bc1 n &&& 858993459 ≤ 858993459 := Nat.and_le_right
    have a2 : bc1 n >>> 2 &&& 858993459 ≤ 858993459 := Nat.and_le_right
    omega
  have h3 : (nI (bc2 (bc1 n)) + (usr (nI (bc2 (bc1 n))) 4)) &&& 252645135 = nI (bc3 (bc2 (bc1 n))) := by
    rw [show usr (nI (bc2 (bc1 n))) 4 = nI (bc2 (bc1 n) >>> 4) from usr_n (s := 4) b2 (by decide), show (252645135 : Int32) = nI 252645135 from rfl, nI_add, and_n]
    rfl
  have b3 : bc3 (bc2 (bc1 n)) ≤ 252645135 := Nat.and_le_right
  have h4 : nI (bc3 (bc2 (bc1 n))) + (usr (nI (bc3 (bc2 (bc1 n)))) 8) = nI (bc4 (bc3 (bc2 (bc1 n)))) := by
    rw [show usr (nI (bc3 (bc2 (bc1 n)))) 8 = nI (bc3 (bc2 (bc1 n)) >>> 8) from usr_n (s := 8) (by omega) (by decide), nI_add]
    rfl
  have b4 : bc4 (bc3 (bc2 (bc1 n))) < 2 ^ 31 := by
    unfold bc4
    have : bc3 (bc2 (bc1 n)) >>> 8 ≤ bc3 (bc2 (bc1 n)) := by rw [Nat.shiftRight_eq_div_pow]; exact Nat.div_le_self _ _
    omega
  have h5 : nI (bc4 (bc3 (bc2 (bc1 n)))) + (usr (nI (bc4 (bc3 (bc2 (bc1 n))))) 16) = nI (bc5 (bc4 (bc3 (bc2 (bc1 n))))) := by
    rw [show usr (nI (bc4 (bc3 (bc2 (bc1 n))))) 16 = nI (bc4 (bc3 (bc2 (bc1 n))) >>> 16) from usr_n (s := 16) b4 (by decide), nI_add]
    rfl
  unfold z_I_bitCount
  rw [h1, h2, h3, h4, h5, show (63 : Int32) = nI 63 from rfl, and_n]
  rfl
def t1 (g : Nat → Bool) (k : Nat) : Nat := if g k = true then 1 else 0
/-- how many of the first n -/
def cntB (g : Nat → Bool) : Nat → Nat
  | 0 => 0
  | n + 1 => cntB g n + t1 g n
theorem p4_t : ∀ m, m < 16 → p4 m = t1 m.testBit 0 + t1 m.testBit 1 + t1 m.testBit 2 + t1 m.testBit 3 := by decide +kernel
theorem t1_congr {g g' : Nat → Bool} {k k' : Nat} (h : g k = g' k') : t1 g k = t1 g' k' := by unfold t1; rw [h]
theorem nib (n o : Nat) {i : Nat} (hi : i < 4) : (n / 2 ^ o % 16).testBit i = n.testBit (o + i) := by
  have := Nat.testBit_mod_two_pow (n / 2 ^ o) 4 i
  rw [show (2 : Nat) ^ 4 = 16 from rfl] at this
  rw [this, decide_eq_true hi, Bool.true_and, Nat.testBit_div_two_pow, Nat.add_comm]
theorem p4_nib (n o : Nat) : p4 (n / 2 ^ o % 16) = t1 n.testBit o + t1 n.testBit (o + 1) + t1 n.testBit (o + 2) + t1 n.testBit (o + 3) := by
  rw [p4_t _ (Nat.mod_lt _ (by decide)), t1_congr (nib n o (i := 0) (by decide)), t1_congr (nib n o (i := 1) (by decide)), t1_congr (nib n o (i := 2) (by decide)), t1_congr (nib n o (i := 3) (by decide)), Nat.add_zero]
theorem bcN_cnt {n : Nat} (hn : n < 65536) : bcN n = cntB n.testBit 16 := by
  have h := bc_all (n / 256) (by omega) (n % 256) (by omega)
  unfold okB at h
  have h := Nat.eq_of_beq_eq_true h
  rw [show 256 * (n / 256) + n % 256 = n by omega] at h
  have e0 : p4 (n / 2 ^ 0 % 16) = t1 n.testBit 0 + t1 n.testBit 1 + t1 n.testBit 2 + t1 n.testBit 3 := p4_nib n 0
  have e4 : p4 (n / 2 ^ 4 % 16) = t1 n.testBit 4 + t1 n.testBit 5 + t1 n.testBit 6 + t1 n.testBit 7 := p4_nib n 4
  have e8 : p4 (n / 2 ^ 8 % 16) = t1 n.testBit 8 + t1 n.testBit 9 + t1 n.testBit 10 + t1 n.testBit 11 := p4_nib n 8
  have e12 : p4 (n / 2 ^ 12 % 16) = t1 n.testBit 12 + t1 n.testBit 13 + t1 n.testBit 14 + t1 n.testBit 15 := p4_nib n 12
  rw [show n / 2 ^ 0 % 16 = n % 256 % 16 by omega] at e0
  rw [show n / 2 ^ 4 % 16 = n % 256 / 16 by omega] at e4
  rw [show n / 2 ^ 8 % 16 = n / 256 % 16 by omega] at e8
  rw [show n / 2 ^ 12 % 16 = n / 256 / 16 by omega] at e12
  rw [h, e0, e4, e8, e12]
  show _ = 0 + t1 n.testBit 0 + t1 n.testBit 1 + t1 n.testBit 2 + t1 n.testBit 3 + t1 n.testBit 4 + t1 n.testBit 5 + t1 n.testBit 6 + t1 n.testBit 7 + t1 n.testBit 8 + t1 n.testBit 9 + t1 n.testBit 10 + t1 n.testBit 11 + t1 n.testBit 12 + t1 n.testBit 13 + t1 n.testBit 14 + t1 n.testBit 15
  omega
theorem cntB_congr {g g' : Nat → Bool} : ∀ n, (∀ k, k < n → g k = g' k) → cntB g n = cntB g' n
  | 0, _ => rfl
  | n + 1, h => by
    show cntB g n + t1 g n = cntB g' n + t1 g' n
    rw [cntB_congr n (fun k hk => h k (by omega)), t1_congr (h n (by omega))]
theorem bitCount_sI (f : Nat → Bool) : z_I_bitCount (sI f) = nI (cntB f 16) := by
  have hlt := sN_lt 16 f
  unfold sI
  rw [bitCount_n hlt, bcN_cnt hlt]
  congr 1
  refine cntB_congr 16 (fun k hk => ?_)
  rw [sN_tb, decide_eq_true hk, Bool.true_and]
theorem cntB_le (g : Nat → Bool) : ∀ n, cntB g n ≤ n
  | 0 => Nat.le_refl 0
  | n + 1 => by
    have := cntB_le g n
    show cntB g n + t1 g n ≤ n + 1
    unfold t1
    split <;> omega
/-- one more -/
theorem cntB_add {g : Nat → Bool} {k : Nat} (hg : g k = false) : ∀ n, cntB (fun j => decide (j = k) || g j) n = cntB g n + (if k < n then 1 else 0)
  | 0 => rfl
  | n + 1 => by
    show cntB (fun j => decide (j = k) || g j) n + t1 (fun j => decide (j = k) || g j) n = cntB g n + t1 g n + (if k < n + 1 then 1 else 0)
    rw [cntB_add hg n]
    by_cases e : n = k
    · have a1 : t1 (fun j => decide (j = k) || g j) n = 1 := by unfold t1; rw [if_pos (by simp [e])]
      have a2 : t1 g n = 0 := by unfold t1; rw [e, if_neg (by rw [hg]; decide)]
      rw [a1, a2, if_neg (by omega), if_pos (by omega)]
    · have a1 : t1 (fun j => decide (j = k) || g j) n = t1 g n := t1_congr (by simp [e])
      rw [a1]
      by_cases h : k < n
      · rw [if_pos h, if_pos (by omega)]; omega
      · rw [if_neg h, if_neg (by omega)]; omega
