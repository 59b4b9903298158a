/-! ===== numbers of the law, the fixed text ===== -/
theorem and_low (k : Nat) (hk : k ≤ 31) (x : Int32) : ∃ m, m < 2 ^ k ∧ x &&& nI (2 ^ k - 1) = nI m := by
  refine ⟨x.toBitVec.toNat % 2 ^ k, Nat.mod_lt _ (Nat.two_pow_pos k), ?_⟩
  apply Int32.toBitVec_inj.mp
  rw [Int32.toBitVec_and]
  apply BitVec.eq_of_toNat_eq
  rw [BitVec.toNat_and]
  have hp : 2 ^ k ≤ 2 ^ 31 := Nat.pow_le_pow_right (by decide) hk
  have h0 : 0 < 2 ^ k := Nat.two_pow_pos k
  have h1 : (nI (2 ^ k - 1)).toBitVec.toNat = 2 ^ k - 1 := by
    show (BitVec.ofNat 32 (2 ^ k - 1)).toNat = _
    rw [BitVec.toNat_ofNat]
    exact Nat.mod_eq_of_lt (by omega)
  have h2 : (nI (x.toBitVec.toNat % 2 ^ k)).toBitVec.toNat = x.toBitVec.toNat % 2 ^ k := by
    show (BitVec.ofNat 32 _).toNat = _
    rw [BitVec.toNat_ofNat]
    have := Nat.mod_lt x.toBitVec.toNat h0
    exact Nat.mod_eq_of_lt (by omega)
  rw [h1, h2, Nat.and_two_pow_sub_one_eq_mod]
theorem and_3 (x : Int32) : ∃ m, m < 4 ∧ x &&& 3 = nI m := and_low 2 (by decide) x
theorem low_n (x : Int32) {n : Nat} (h0 : 0 < n) (hn : n < 2 ^ 31) : ∃ m, m < n ∧ z_T_low x (nI n) = nI m := by
  obtain ⟨m, hm, e⟩ := and_low 31 (Nat.le_refl _) x
  refine ⟨m % n, Nat.mod_lt _ h0, ?_⟩
  unfold z_T_low
  rw [show (2147483647 : Int32) = nI (2 ^ 31 - 1) from rfl, e, rem_n hm hn]
theorem shr_6 (x : Int32) : -33554432 ≤ (shr x 6).toInt ∧ (shr x 6).toInt < 33554432 := by
  have h : (shr x 6).toInt = x.toInt / 64 := by
    show (x >>> (6 : Int32)).toInt = _
    rw [← Int32.toInt_toBitVec, Int32.toBitVec_shiftRight]
    show (BitVec.sshiftRight x.toBitVec 6).toInt = _
    rw [BitVec.toInt_sshiftRight, Int.shiftRight_eq_div_pow, Int32.toInt_toBitVec]
    rfl
  have h1 := x.toInt_lt
  have h2 := x.le_toInt
  omega
theorem far_1 {x : Int32} (h : x.toInt < 33554432) (h0 : 0 ≤ x) : far (x + 1000) := by
  rw [Int32.le_iff_toInt_le, show (0 : Int32).toInt = 0 from rfl] at h0
  refine Or.inr ?_
  rw [Int32.toInt_add, show (1000 : Int32).toInt = 1000 from rfl, Int.bmod_eq_of_le (by omega) (by omega)]
  omega
theorem far_2 {x : Int32} (h : -33554432 ≤ x.toInt) (h0 : ¬ 0 ≤ x) : far (x - 999) := by
  rw [Int32.le_iff_toInt_le, show (0 : Int32).toInt = 0 from rfl] at h0
  refine Or.inl ?_
  rw [Int32.toInt_sub, show (999 : Int32).toInt = 999 from rfl, Int.bmod_eq_of_le (by omega) (by omega)]
  omega
def txY : List Nat := [119,32,51,59,114,32,53,32,52,32,51,59,114,32,54,32,50,32,49,59,114,32,52,32,57,32,48,59,108,32,49,32,49,59,100,32,50,32,50,59,111,32,48,32,50,59,115,32,49,32,50,32,50,32,53,59]
def isR {α β : Type} (x : α ⊕ β) : Bool := match x with
  | .inl _ => false
  | .inr _ => true
def rY : Nat × Dr := match parF txY 151 0 0 drN with
  | .inl e => (e, drN)
  | .inr x => x
theorem rY_is : isR (parF txY 151 0 0 drN) = true := by decide +kernel
theorem rY_ok : parF txY 151 0 0 drN = .inr rY := by
  unfold rY
  cases h : parF txY 151 0 0 drN with
  | inl e => have := rY_is; rw [h] at this; cases this
  | inr x => rfl
theorem rY_8 : rY.1 = 8 := by decide +kernel
theorem rY_w : pW rY.2.1 = 3 := by decide +kernel
theorem rY_r : pR rY.2.1 = 3 := by decide +kernel
theorem rY_d0 : pD rY.2.1 0 = false := by decide +kernel
theorem rY_d4 : pD rY.2.1 4 = false := by decide +kernel
theorem txY_len : txY.length = 56 := rfl
