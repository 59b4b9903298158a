theorem nI_mul (a b : Nat) : nI a * nI b = nI (a * b) := (Int32.ofNat_mul a b).symm
theorem nI_div {a b : Nat} (ha : a < 2 ^ 31) (hb : b < 2 ^ 31) : nI a / nI b = nI (a / b) := (Int32.ofNat_div ha hb).symm
theorem nI_subn {a b : Nat} (h : b ≤ a) (ha : a < 2 ^ 31) : nI a - nI b = nI (a - b) := by
  refine Int32.toInt_inj.mp ?_
  have h1 := Jvm.Kit.i32_sub (x := nI a) (y := nI b) (by rw [nI_toInt ha, nI_toInt (by omega)]; omega) (by rw [nI_toInt ha, nI_toInt (by omega)]; omega)
  rw [h1, nI_toInt ha, nI_toInt (by omega), nI_toInt (by omega)]
  omega
theorem rem_n {a b : Nat} (ha : a < 2 ^ 31) (hb : b < 2 ^ 31) : rem (nI a) (nI b) = nI (a % b) := by
  unfold rem
  rw [nI_div ha hb, nI_mul]
  have h1 : a / b * b ≤ a := Nat.div_mul_le_self a b
  rw [nI_subn h1 ha]
  congr 1
  have := Nat.mod_add_div a b
  have e : b * (a / b) = a / b * b := Nat.mul_comm _ _
  omega
theorem nI_le_iff {a b : Nat} (ha : a < 2 ^ 31) (hb : b < 2 ^ 31) : nI a ≤ nI b ↔ a ≤ b := by
  rw [Int32.le_iff_toInt_le, nI_toInt ha, nI_toInt hb]
  omega
theorem nI_lt_iff {a b : Nat} (ha : a < 2 ^ 31) (hb : b < 2 ^ 31) : nI a < nI b ↔ a < b := by
  rw [Int32.lt_iff_toInt_lt, nI_toInt ha, nI_toInt hb]
  omega
theorem wx_power {M : Mem} {Q : Option Value → Mem → Prop} {b n : Nat} (hn : n < 100) (hQ : Q (some (.int (nI (b ^ n)))) M) : WX mi_C_power 1 Q 0 [some (.int (nI b)), some (.int (nI n)), none, none] [] M := by
  refine sg_C_power_0 M _ _ ?_
  have loop : ∀ i, i ≤ n → WX mi_C_power 1 Q 4 [some (.int (nI b)), some (.int (nI n)), some (.int (nI (b ^ i))), some (.int (nI i))] [] M := by
    refine downN n ?_ (fun i hi ih => ?_)
    · exact sg_C_power_4 M _ _ _ _ (fun _ => hQ) (fun c => absurd (Int32.le_refl _) c)
    · refine sg_C_power_4 M _ _ _ _ (fun c => absurd ((nI_le_iff (by omega) (by omega)).mp c) (by omega)) (fun _ => ?_)
      rw [nI_mul, ← Nat.pow_succ, nI_1]
      exact ih
  exact loop 0 (Nat.zero_le _)
theorem chN_le : ∀ n, n < 7 → ∀ i, i < 7 → chN n i ≤ 20 := by decide +kernel
theorem wx_choices {M : Mem} {Q : Option Value → Mem → Prop} {n k : Nat} (hn : n < 7) (hk : k ≤ n) (hQ : Q (some (.int (nI (chN n k)))) M) : WX mi_C_choices 1 Q 0 [some (.int (nI n)), some (.int (nI k)), none, none] [] M := by
  refine sg_C_choices_0 M _ _ ?_
  have loop : ∀ i, i ≤ k → WX mi_C_choices 1 Q 4 [some (.int (nI n)), some (.int (nI k)), some (.int (nI (chN n i))), some (.int (nI i))] [] M := by
    refine downN k ?_ (fun i hi ih => ?_)
    · exact sg_C_choices_4 M _ _ _ _ (fun _ => hQ) (fun c => absurd (Int32.le_refl _) c) (fun c => absurd (Int32.le_refl _) c)
    · have hc := chN_le n hn i (by omega)
      have hm : chN n i * (n - i) ≤ 20 * 6 := Nat.mul_le_mul hc (by omega)
      refine sg_C_choices_4 M _ _ _ _ (fun c => absurd ((nI_le_iff (by omega) (by omega)).mp c) (by omega)) (fun _ => ?_) (fun _ => ?_)
      · rw [nI_1]
        intro q
        have := (nI_is0 (by omega)).mp q
        omega
      · rw [nI_1, nI_subn (by omega) (by omega), nI_mul, nI_div (by omega) (by omega)]
        exact ih
  exact loop 0 (Nat.zero_le _)
theorem wx_gcd {M : Mem} {Q : Option Value → Mem → Prop} {x y : Int32} : ∀ f, f ≤ 64 → ∀ a b, a < 2 ^ 31 → b < 2 ^ 31 → Q (some (.int (nI (gN f a b)))) M → WX mi_C_commonDivisor 1 Q 7 [some (.int x), some (.int y), some (.int (nI a)), some (.int (nI b)), some (.int (nI (64 - f))), none] [] M := by
  intro f
  induction f with
  | zero =>
    intro _ a b _ _ hQ
    exact sg_C_commonDivisor_7 M _ _ _ _ _ (fun _ => hQ) (fun c => absurd (by decide) c) (fun c => absurd (by decide) c) (fun c => absurd (by decide) c)
  | succ f ih =>
    intro hf a b ha hb hQ
    have hlt : ¬ (64 : Int32) ≤ nI (64 - (f + 1)) := Int32.not_le.mpr (nI_lt (b := 64) (by omega) (by decide))
    refine sg_C_commonDivisor_7 M _ _ _ _ _ (fun c => absurd c hlt) (fun _ c => ?_) (fun _ c => c) (fun _ c => ?_)
    · have hb0 := (nI_is0 hb).mp c
      rw [show gN (f + 1) a b = a by show (if b = 0 then a else gN f b (a % b)) = a; rw [if_pos hb0]] at hQ
      exact hQ
    · have hb0 : ¬ b = 0 := fun q => c ((nI_is0 hb).mpr q)
      rw [show gN (f + 1) a b = gN f b (a % b) by show (if b = 0 then a else gN f b (a % b)) = _; rw [if_neg hb0]] at hQ
      rw [rem_n ha hb, nI_1, show 64 - (f + 1) + 1 = 64 - f by omega]
      exact ih (by omega) b (a % b) hb (by have := Nat.mod_le a b; omega) hQ
theorem pp_le (s : Nat) : ∀ i, pp s i ≤ i
  | 0 => Nat.le_refl 0
  | i + 1 => by
    have := pp_le s i
    show pp s i + (if s.testBit i = true then 1 else 0) ≤ i + 1
    split <;> omega
theorem bitn (s : Nat) {i : Nat} (hi : i < 32) : (shr (nI s) (nI i)) &&& 1 = bI (s.testBit i) := by rw [bit_at hi, bt_nI s hi]
theorem ten_sub : ∀ x, x < 11 → (10 : Int32) - nI x = nI (10 - x) := by decide +kernel
theorem shl_two : ∀ n, n < 7 → shl 1 (nI n) = nI (2 ^ n) := by decide +kernel
